/-! THE REFERENCE, on -/
theorem m_law {n : Nat} {h : Hp} (hn : 7000000000 ≤ n) (C : MC h) (M : MI h) (V : WB h) : MG Wlaw h (fun _ h' => MI h' ∧ WB h') (f_X8_law n 60 h) := by
  unfold MG f_X8_law
  have F : FW Wpz h h := FW.rf
  have T := M.typed
  refine t_ck C (t_pI C F (by unfold Wpz Wst Wd; omega) fun C1 F1 => t_pI C1 F1 (by unfold Wpz Wst Wd; omega) fun C2 F2 => t_gR C2 rfl (t_tI C2 F2 rfl (by decide) (Or.inr (Or.inr ⟨rfl, rfl⟩)) fun C3 F3 => t_gR C3 rfl (t_tI C3 F3 rfl (by decide) (Or.inl (Or.inr (Or.inl ⟨rfl, by decide⟩))) fun C4 F4 => t_gR C4 rfl (t_tI C4 F4 rfl (by decide) (Or.inl (Or.inr (Or.inl ⟨rfl, by decide⟩))) fun C5 F5 => ?_))))
  rw [show (1 : Int32).toNatClampNeg = 1 from rfl, show (2 : Int32).toNatClampNeg = 2 from rfl, show (3 : Int32).toNatClampNeg = 3 from rfl] at C5 F5 ⊢
  have q10 : (sI (sI (sI (sI (sI h 60 11 0) 60 15 (-9)) 61 1 30) 63 2 0) 63 3 0).2.1 60 10 = h.2.1 60 10 := rfl
  have q11 : (sI (sI (sI (sI (sI h 60 11 0) 60 15 (-9)) 61 1 30) 63 2 0) 63 3 0).2.1 60 11 = 0 := rfl
  have q15 : (sI (sI (sI (sI (sI h 60 11 0) 60 15 (-9)) 61 1 30) 63 2 0) 63 3 0).2.1 60 15 = -9 := rfl
  have q61 : (sI (sI (sI (sI (sI h 60 11 0) 60 15 (-9)) 61 1 30) 63 2 0) 63 3 0).2.1 61 1 = 30 := rfl
  have q63 : (sI (sI (sI (sI (sI h 60 11 0) 60 15 (-9)) 61 1 30) 63 2 0) 63 3 0).2.1 63 2 = 0 := rfl
  have q67 : ∀ j, (sI (sI (sI (sI (sI h 60 11 0) 60 15 (-9)) 61 1 30) 63 2 0) 63 3 0).2.1 67 j = h.2.1 67 j := fun _ => rfl
  have r63 : (sI (sI (sI (sI (sI h 60 11 0) 60 15 (-9)) 61 1 30) 63 2 0) 63 3 0).2.1 63 3 = 0 := rfl
  generalize (sI (sI (sI (sI (sI h 60 11 0) 60 15 (-9)) 61 1 30) 63 2 0) 63 3 0) = h5 at *
  refine m_law_L35 (h0 := h5) (fun h6 C6 F6 => ?_) n 0 h5 (by simp only [Int32.reduceToInt]; omega) (by decide) C5 FW.rf
  unfold f_X8_law_J57
  have k6 : ∀ q j, q ≠ 62 → h6.2.1 q j = h5.2.1 q j := fun q j hq => (F6.2.2 q j (fun z => hq z.1)).1
  have z0 : (0 : Int32).toInt = 0 := rfl
  have FF6 : FW Wpz h h6 := F5.tr (F6.w fun q j z => Or.inr (Or.inl (Or.inr z)))
  refine t_cV (W := Wpz) (h0 := h) (m_nextA (by omega) C6 (by rw [k6 _ _ (by decide), q10]; exact T) (by rw [k6 _ _ (by decide), q11]; decide)) C6 FF6 (fun q j z => Or.inl (Or.inl (by unfold Wn at z; unfold Wd; omega))) fun h7 F7 C7 FF7 ⟨S7, _⟩ => ?_
  try dsimp only
  have k7 : ∀ q j, q ≠ 60 → h7.2.1 q j = h6.2.1 q j := fun q j hq => (F7.2.2 q j (fun z => hq z.1)).1
  have L7 : LW 0 h h7 := by
    refine ⟨C7, FF7, S7, ?_, fun _ => ?_, fun _ => by decide⟩
    · refine M23.of ?_ fun j hj => ?_
      · rw [k7 _ _ (by decide), k7 _ _ (by decide), k6 _ _ (by decide), k6 _ _ (by decide), q63, r63]
        decide
      · rw [k7 _ _ (by decide), k6 _ _ (by decide), q67]
        exact V j hj
    · unfold yok
      rw [k7 _ _ (by decide), k6 _ _ (by decide), q61]
      decide
  refine m_law_L65 (P := fun r => FW Wlaw h r.2 ∧ MI r.2 ∧ WB r.2) (fun v1 v2 h8 L8 => ?_) n 0 0 h7 (by have := S7.2.2.1.1; omega) L7
  clear L7 k7 k6 S7 FF7 F7 C7 FF6 F6 C6 q10 q11 q15 q61 q63 r63 q67 C5 F5
  obtain ⟨C8, F8, S8, M8, Y8, _⟩ := L8
  have FL8 : FW Wlaw h h8 := F8.w fun q j z => Or.inl z
  unfold f_X8_law_J221
  refine t_gI C8 (t_eq (fun c => ?_) fun _ => t_gI C8 (t_ret ⟨FL8, M.fw F8 Wpz_km, M8.2.2⟩))
  have Y8 := Y8 c
  have wq : ∀ {q j : Nat}, 61 ≤ q ∧ q ≤ 68 → Wlaw q j := fun z => Or.inr (Or.inl z)
  refine t_gR C8 rfl (t_gR C8 rfl (t_aI C8 rfl (by decide) (t_tI C8 FL8 rfl (by decide) (wq (by decide)) fun C9 F9 => t_gR C9 rfl (t_gR C9 rfl (t_aI C9 rfl (by decide) (t_tI C9 F9 rfl (by decide) (wq (by decide)) fun C10 F10 => t_gR C10 rfl (t_gR C10 rfl (t_aI C10 rfl (by decide) (t_tI C10 F10 rfl (by decide) (wq (by decide)) fun C11 F11 => ?_)))))))))
  have C11 : MC (sI (sI (sI h8 61 0 (h8.2.1 61 1)) 63 0 (h8.2.1 63 2)) 63 1 (h8.2.1 63 3)) := C11
  have F11 : FW Wlaw h (sI (sI (sI h8 61 0 (h8.2.1 61 1)) 63 0 (h8.2.1 63 2)) 63 1 (h8.2.1 63 3)) := F11
  show TG _ (f_X8_law_L276 n 60 v1 0 (sI (sI (sI h8 61 0 (h8.2.1 61 1)) 63 0 (h8.2.1 63 2)) 63 1 (h8.2.1 63 3)) (fun a0 a1 h => f_X8_law_J303 n a0 a1 h))
  have s61 : (sI (sI (sI h8 61 0 (h8.2.1 61 1)) 63 0 (h8.2.1 63 2)) 63 1 (h8.2.1 63 3)).2.1 61 0 = h8.2.1 61 1 := rfl
  have s630 : (sI (sI (sI h8 61 0 (h8.2.1 61 1)) 63 0 (h8.2.1 63 2)) 63 1 (h8.2.1 63 3)).2.1 63 0 = h8.2.1 63 2 := rfl
  have s631 : (sI (sI (sI h8 61 0 (h8.2.1 61 1)) 63 0 (h8.2.1 63 2)) 63 1 (h8.2.1 63 3)).2.1 63 1 = h8.2.1 63 3 := rfl
  have w11 : ∀ j, (sI (sI (sI h8 61 0 (h8.2.1 61 1)) 63 0 (h8.2.1 63 2)) 63 1 (h8.2.1 63 3)).2.1 67 j = h8.2.1 67 j := fun _ => rfl
  generalize (sI (sI (sI h8 61 0 (h8.2.1 61 1)) 63 0 (h8.2.1 63 2)) 63 1 (h8.2.1 63 3)) = h11 at *
  refine m_law_L276 (h0 := h11) (fun h12 C12 F12 => ?_) n 0 h11 (by simp only [Int32.reduceToInt]; omega) (by decide) C11 FW.rf
  unfold f_X8_law_J303
  refine m_law_L305 (h0 := h12) (fun h13 C13 F13 V13 => ?_) n 0 h12 (by simp only [Int32.reduceToInt]; omega) (by decide) C12 FW.rf fun j hj => by rw [(F12.2.2 67 j (by unfold W62a; omega)).1, w11]; exact M8.2.2 j hj
  unfold f_X8_law_J392
  have F13L : FW Wlaw h h13 := (F11.tr (F12.w fun q j z => wq (by unfold W62a at z; omega))).tr (F13.w fun q j z => wq (by unfold W648 at z; omega))
  have kO : ∀ q j, q = 60 ∧ j = 20 ∨ 69 ≤ q ∧ q ≤ 75 ∧ q ≠ 70 ∧ q ≠ 71 ∧ q ≠ 72 → h13.2.1 q j = h.2.1 q j := fun q j z => (F13L.2.2 q j (by unfold Wlaw Wpz Wst We Wd Wbe; omega)).1
  have k13 : ∀ q j, q = 61 ∨ q = 63 → h13.2.1 q j = h11.2.1 q j := fun q j z => (F13.2.2 q j (by unfold W648; omega)).1.trans (F12.2.2 q j (by unfold W62a; omega)).1
  refine t_cV (m_begin (by omega) C13 (by rw [kO _ _ (by omega)]; exact M.people)) C13 F13L (fun q j z => Or.inr (Or.inr (Or.inl z))) fun h14 F14 C14 FF14 ⟨b14, l14⟩ => ?_
  try dsimp only
  refine t_gR C14 rfl (t_tZ C14 FF14 rfl (by decide) (Or.inl rfl) (Or.inr (Or.inr (Or.inr (Or.inl rfl)))) fun C15 F15 => t_gR C15 rfl (t_tZ C15 F15 rfl (by decide) (Or.inl rfl) (Or.inr (Or.inr (Or.inr (Or.inl rfl)))) fun C16 F16 => t_pI C16 F16 (Or.inr (Or.inr (Or.inr (Or.inr ⟨rfl, rfl⟩)))) fun C17 F17 => t_ret ⟨F17, M.law F17 ?_ (fun b hb => ?_) rdI_eq ⟨rfl, rfl⟩ ?_ (fun j hj => ?_), fun j hj => ?_⟩))
  · rw [rdI_ne (fun z => by omega), rdI_ne (fun z => by omega), rdI_ne (fun z => by omega), (F14.2.2 61 0 (by unfold Wbe; omega)).1, k13 _ _ (by omega), s61]
    exact Y8
  · rw [rdI_ne (fun z => by omega), rdI_ne (fun z => by omega), rdI_ne (fun z => by omega), (F14.2.2 63 b (by unfold Wbe; omega)).1, k13 _ _ (by omega)]
    rcases (show b = 0 ∨ b = 1 by omega) with rfl | rfl
    · rw [s630]; exact M8.1
    · rw [s631]; exact M8.2.1
  · rw [rdI_ne (fun z => by omega), rdI_ne (fun z => by omega), rdI_ne (fun z => by omega), rdI_ne (fun z => by omega), rdI_ne (fun z => by omega), rdI_ne (fun z => by omega), rdI_ne (fun z => by omega), rdI_ne (fun z => by omega), rdI_ne (fun z => by omega), rdI_ne (fun z => by omega), rdI_ne (fun z => by omega), rdI_ne (fun z => by omega), rdI_ne (fun z => by omega), rdI_ne (fun z => by omega), rdI_ne (fun z => by omega), rdI_ne (fun z => by omega), rdI_ne (fun z => by omega), rdI_ne (fun z => by omega), rdI_ne (fun z => by omega), rdI_ne (fun z => by omega), rdI_ne (fun z => by omega)]
    exact b14
  · rw [rdI_ne (fun z => by omega), rdI_ne (fun z => by omega), rdI_ne (fun z => by omega), ← kO 75 j (by omega)]
    exact l14 j hj
  · rw [rdI_ne (fun z => by omega), rdI_ne (fun z => by omega), rdI_ne (fun z => by omega), (F14.2.2 67 j (by unfold Wbe; omega)).1]
    exact V13 j hj

