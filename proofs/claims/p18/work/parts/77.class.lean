/-! THE TEXT'S TOKENS: the class's reader of them -/
def cwL : List Int32 := [495765, 3094387, 131638, 131360, 187429700, 168748, 79958, 80155, 46263, 388708, 664272, 335207579, 11993594, 380741]
def wkL : List (Int32 × Int32) := [(1, 0), (2, 0), (3, 0), (11, 0), (11, 1), (11, 2), (11, 3), (4, 0), (5, 0), (6, 0), (7, 0), (8, 0), (9, 0), (10, 0)]
theorem mn_key (c : Int32) : mn c = (14, 0) ∨ ∃ w, w < 14 ∧ c = cwL.getD w 0 ∧ mn c = wkL.getD w (0, 0) := by
  unfold mn
  by_cases c8 : c = 46263
  · rw [if_pos c8]; exact Or.inr ⟨8, by decide, c8, rfl⟩
  rw [if_neg c8]
  by_cases c6 : c = 79958
  · rw [if_pos c6]; exact Or.inr ⟨6, by decide, c6, rfl⟩
  rw [if_neg c6]
  by_cases c7 : c = 80155
  · rw [if_pos c7]; exact Or.inr ⟨7, by decide, c7, rfl⟩
  rw [if_neg c7]
  by_cases c3 : c = 131360
  · rw [if_pos c3]; exact Or.inr ⟨3, by decide, c3, rfl⟩
  rw [if_neg c3]
  by_cases c2 : c = 131638
  · rw [if_pos c2]; exact Or.inr ⟨2, by decide, c2, rfl⟩
  rw [if_neg c2]
  by_cases c5 : c = 168748
  · rw [if_pos c5]; exact Or.inr ⟨5, by decide, c5, rfl⟩
  rw [if_neg c5]
  by_cases c13 : c = 380741
  · rw [if_pos c13]; exact Or.inr ⟨13, by decide, c13, rfl⟩
  rw [if_neg c13]
  by_cases c9 : c = 388708
  · rw [if_pos c9]; exact Or.inr ⟨9, by decide, c9, rfl⟩
  rw [if_neg c9]
  by_cases c0 : c = 495765
  · rw [if_pos c0]; exact Or.inr ⟨0, by decide, c0, rfl⟩
  rw [if_neg c0]
  by_cases c10 : c = 664272
  · rw [if_pos c10]; exact Or.inr ⟨10, by decide, c10, rfl⟩
  rw [if_neg c10]
  by_cases c1 : c = 3094387
  · rw [if_pos c1]; exact Or.inr ⟨1, by decide, c1, rfl⟩
  rw [if_neg c1]
  by_cases c12 : c = 11993594
  · rw [if_pos c12]; exact Or.inr ⟨12, by decide, c12, rfl⟩
  rw [if_neg c12]
  by_cases c4 : c = 187429700
  · rw [if_pos c4]; exact Or.inr ⟨4, by decide, c4, rfl⟩
  rw [if_neg c4]
  by_cases c11 : c = 335207579
  · rw [if_pos c11]; exact Or.inr ⟨11, by decide, c11, rfl⟩
  rw [if_neg c11]
  exact Or.inl rfl
theorem mn_w {w : Nat} (hw : w < 14) (c : Int32) : mn c = wkL.getD w (0, 0) ↔ c = cwL.getD w 0 := by
  constructor
  · intro e
    rcases mn_key c with k | ⟨w2, h1, h2, h3⟩
    · rw [k] at e
      exact absurd e ((by decide +kernel : ∀ w, w < 14 → ¬ ((14 : Int32), (0 : Int32)) = wkL.getD w (0, 0)) w hw)
    · rw [h3] at e
      have := (by decide +kernel : ∀ a, a < 14 → ∀ b, b < 14 → wkL.getD a (0, 0) = wkL.getD b (0, 0) → a = b) w2 h1 w hw e
      rw [← this]; exact h2
  · intro e
    rw [e]
    exact (by decide +kernel : ∀ w, w < 14 → mn (cwL.getD w 0) = wkL.getD w (0, 0)) w hw
def xsn (f : Nat → Int32) (st : Nat) : Nat → Int32
  | 0 => 0
  | i + 1 => 27 * xsn f st i + bt f (st + i) - 96
theorem hs_xsn (f : Nat → Int32) (st : Nat) : ∀ k i, i + k ≤ 6 → hs f st k i (xsn f st i) = xsn f st (i + k) := by
  intro k
  induction k with
  | zero => intros; rfl
  | succ k ih =>
    intro i e
    rw [hs, if_pos (by omega)]
    have := ih (i + 1) (by omega)
    rw [show i + (k + 1) = i + 1 + k by omega, ← this]
    rfl
theorem st27 {v c : Int32} (hv : 0 ≤ v.toInt ∧ v.toInt ≤ 14348907) (hc : 97 ≤ c.toInt ∧ c.toInt ≤ 122) : (27 * v + c - 96).toInt = 27 * v.toInt + c.toInt - 96 := by
  have l27 : (27 : Int32).toInt = 27 := rfl
  have l96 : (96 : Int32).toInt = 96 := rfl
  have e : (27 * v).toInt = 27 * v.toInt := by rw [i_mul (by rw [l27]; omega) (by rw [l27]; omega), l27]
  have e2 : (27 * v + c).toInt = 27 * v.toInt + c.toInt := by rw [i_add (by omega) (by omega), e]
  rw [i_sub (by rw [l96]; omega) (by rw [l96]; omega), l96, e2]
def wq (f : Nat → Int32) (st : Nat) : Nat → List Int32 → Bool
  | _, [] => true
  | i, a :: l => decide (bt f (st + i) = a) && wq f st (i + 1) l

theorem word_hash {f : Nat → Int32} {st : Nat} : ∀ n, 1 ≤ n → n ≤ 6 → (∀ i, i < n → 97 ≤ (bt f (st + i)).toInt ∧ (bt f (st + i)).toInt ≤ 122) → ∀ w, w < 14 → (n = (sbyt.getD w []).length ∧ wq f st 0 (sbyt.getD w []) = true ↔ xsn f st n = cwL.getD w 0) := by
  intro n h1 h6 hl w hw
  have e0 : (xsn f st 0).toInt = 0 := rfl
  rcases (by omega : n = 1 ∨ n = 2 ∨ n = 3 ∨ n = 4 ∨ n = 5 ∨ n = 6) with rfl | rfl | rfl | rfl | rfl | rfl
  · skip
    have c0 := hl 0 (by omega)
    have b0 : 0 ≤ (xsn f st 0).toInt ∧ (xsn f st 0).toInt ≤ 14348907 := by omega
    have e1 : (xsn f st 1).toInt = 27 * (xsn f st 0).toInt + (bt f (st + 0)).toInt - 96 := st27 b0 c0
    clear hl
    rcases w with _ | _ | _ | _ | _ | _ | _ | _ | _ | _ | _ | _ | _ | _ | w
    · exact ⟨fun z => absurd z.1 (by decide), fun z => by have z := congrArg Int32.toInt z; have z : (xsn f st 1).toInt = 495765 := z; omega⟩
    · exact ⟨fun z => absurd z.1 (by decide), fun z => by have z := congrArg Int32.toInt z; have z : (xsn f st 1).toInt = 3094387 := z; omega⟩
    · exact ⟨fun z => absurd z.1 (by decide), fun z => by have z := congrArg Int32.toInt z; have z : (xsn f st 1).toInt = 131638 := z; omega⟩
    · exact ⟨fun z => absurd z.1 (by decide), fun z => by have z := congrArg Int32.toInt z; have z : (xsn f st 1).toInt = 131360 := z; omega⟩
    · exact ⟨fun z => absurd z.1 (by decide), fun z => by have z := congrArg Int32.toInt z; have z : (xsn f st 1).toInt = 187429700 := z; omega⟩
    · exact ⟨fun z => absurd z.1 (by decide), fun z => by have z := congrArg Int32.toInt z; have z : (xsn f st 1).toInt = 168748 := z; omega⟩
    · exact ⟨fun z => absurd z.1 (by decide), fun z => by have z := congrArg Int32.toInt z; have z : (xsn f st 1).toInt = 79958 := z; omega⟩
    · exact ⟨fun z => absurd z.1 (by decide), fun z => by have z := congrArg Int32.toInt z; have z : (xsn f st 1).toInt = 80155 := z; omega⟩
    · exact ⟨fun z => absurd z.1 (by decide), fun z => by have z := congrArg Int32.toInt z; have z : (xsn f st 1).toInt = 46263 := z; omega⟩
    · exact ⟨fun z => absurd z.1 (by decide), fun z => by have z := congrArg Int32.toInt z; have z : (xsn f st 1).toInt = 388708 := z; omega⟩
    · exact ⟨fun z => absurd z.1 (by decide), fun z => by have z := congrArg Int32.toInt z; have z : (xsn f st 1).toInt = 664272 := z; omega⟩
    · exact ⟨fun z => absurd z.1 (by decide), fun z => by have z := congrArg Int32.toInt z; have z : (xsn f st 1).toInt = 335207579 := z; omega⟩
    · exact ⟨fun z => absurd z.1 (by decide), fun z => by have z := congrArg Int32.toInt z; have z : (xsn f st 1).toInt = 11993594 := z; omega⟩
    · exact ⟨fun z => absurd z.1 (by decide), fun z => by have z := congrArg Int32.toInt z; have z : (xsn f st 1).toInt = 380741 := z; omega⟩
    · omega
  · skip
    have c0 := hl 0 (by omega)
    have b0 : 0 ≤ (xsn f st 0).toInt ∧ (xsn f st 0).toInt ≤ 14348907 := by omega
    have e1 : (xsn f st 1).toInt = 27 * (xsn f st 0).toInt + (bt f (st + 0)).toInt - 96 := st27 b0 c0
    have c1 := hl 1 (by omega)
    have b1 : 0 ≤ (xsn f st 1).toInt ∧ (xsn f st 1).toInt ≤ 14348907 := by omega
    have e2 : (xsn f st 2).toInt = 27 * (xsn f st 1).toInt + (bt f (st + 1)).toInt - 96 := st27 b1 c1
    clear hl
    rcases w with _ | _ | _ | _ | _ | _ | _ | _ | _ | _ | _ | _ | _ | _ | w
    · exact ⟨fun z => absurd z.1 (by decide), fun z => by have z := congrArg Int32.toInt z; have z : (xsn f st 2).toInt = 495765 := z; omega⟩
    · exact ⟨fun z => absurd z.1 (by decide), fun z => by have z := congrArg Int32.toInt z; have z : (xsn f st 2).toInt = 3094387 := z; omega⟩
    · exact ⟨fun z => absurd z.1 (by decide), fun z => by have z := congrArg Int32.toInt z; have z : (xsn f st 2).toInt = 131638 := z; omega⟩
    · exact ⟨fun z => absurd z.1 (by decide), fun z => by have z := congrArg Int32.toInt z; have z : (xsn f st 2).toInt = 131360 := z; omega⟩
    · exact ⟨fun z => absurd z.1 (by decide), fun z => by have z := congrArg Int32.toInt z; have z : (xsn f st 2).toInt = 187429700 := z; omega⟩
    · exact ⟨fun z => absurd z.1 (by decide), fun z => by have z := congrArg Int32.toInt z; have z : (xsn f st 2).toInt = 168748 := z; omega⟩
    · exact ⟨fun z => absurd z.1 (by decide), fun z => by have z := congrArg Int32.toInt z; have z : (xsn f st 2).toInt = 79958 := z; omega⟩
    · exact ⟨fun z => absurd z.1 (by decide), fun z => by have z := congrArg Int32.toInt z; have z : (xsn f st 2).toInt = 80155 := z; omega⟩
    · exact ⟨fun z => absurd z.1 (by decide), fun z => by have z := congrArg Int32.toInt z; have z : (xsn f st 2).toInt = 46263 := z; omega⟩
    · exact ⟨fun z => absurd z.1 (by decide), fun z => by have z := congrArg Int32.toInt z; have z : (xsn f st 2).toInt = 388708 := z; omega⟩
    · exact ⟨fun z => absurd z.1 (by decide), fun z => by have z := congrArg Int32.toInt z; have z : (xsn f st 2).toInt = 664272 := z; omega⟩
    · exact ⟨fun z => absurd z.1 (by decide), fun z => by have z := congrArg Int32.toInt z; have z : (xsn f st 2).toInt = 335207579 := z; omega⟩
    · exact ⟨fun z => absurd z.1 (by decide), fun z => by have z := congrArg Int32.toInt z; have z : (xsn f st 2).toInt = 11993594 := z; omega⟩
    · exact ⟨fun z => absurd z.1 (by decide), fun z => by have z := congrArg Int32.toInt z; have z : (xsn f st 2).toInt = 380741 := z; omega⟩
    · omega
  · skip
    have c0 := hl 0 (by omega)
    have b0 : 0 ≤ (xsn f st 0).toInt ∧ (xsn f st 0).toInt ≤ 14348907 := by omega
    have e1 : (xsn f st 1).toInt = 27 * (xsn f st 0).toInt + (bt f (st + 0)).toInt - 96 := st27 b0 c0
    have c1 := hl 1 (by omega)
    have b1 : 0 ≤ (xsn f st 1).toInt ∧ (xsn f st 1).toInt ≤ 14348907 := by omega
    have e2 : (xsn f st 2).toInt = 27 * (xsn f st 1).toInt + (bt f (st + 1)).toInt - 96 := st27 b1 c1
    have c2 := hl 2 (by omega)
    have b2 : 0 ≤ (xsn f st 2).toInt ∧ (xsn f st 2).toInt ≤ 14348907 := by omega
    have e3 : (xsn f st 3).toInt = 27 * (xsn f st 2).toInt + (bt f (st + 2)).toInt - 96 := st27 b2 c2
    clear hl
    rcases w with _ | _ | _ | _ | _ | _ | _ | _ | _ | _ | _ | _ | _ | _ | w
    · exact ⟨fun z => absurd z.1 (by decide), fun z => by have z := congrArg Int32.toInt z; have z : (xsn f st 3).toInt = 495765 := z; omega⟩
    · exact ⟨fun z => absurd z.1 (by decide), fun z => by have z := congrArg Int32.toInt z; have z : (xsn f st 3).toInt = 3094387 := z; omega⟩
    · exact ⟨fun z => absurd z.1 (by decide), fun z => by have z := congrArg Int32.toInt z; have z : (xsn f st 3).toInt = 131638 := z; omega⟩
    · exact ⟨fun z => absurd z.1 (by decide), fun z => by have z := congrArg Int32.toInt z; have z : (xsn f st 3).toInt = 131360 := z; omega⟩
    · exact ⟨fun z => absurd z.1 (by decide), fun z => by have z := congrArg Int32.toInt z; have z : (xsn f st 3).toInt = 187429700 := z; omega⟩
    · exact ⟨fun z => absurd z.1 (by decide), fun z => by have z := congrArg Int32.toInt z; have z : (xsn f st 3).toInt = 168748 := z; omega⟩
    · exact ⟨fun z => absurd z.1 (by decide), fun z => by have z := congrArg Int32.toInt z; have z : (xsn f st 3).toInt = 79958 := z; omega⟩
    · exact ⟨fun z => absurd z.1 (by decide), fun z => by have z := congrArg Int32.toInt z; have z : (xsn f st 3).toInt = 80155 := z; omega⟩
    · exact ⟨fun z => absurd z.1 (by decide), fun z => by have z := congrArg Int32.toInt z; have z : (xsn f st 3).toInt = 46263 := z; omega⟩
    · exact ⟨fun z => absurd z.1 (by decide), fun z => by have z := congrArg Int32.toInt z; have z : (xsn f st 3).toInt = 388708 := z; omega⟩
    · exact ⟨fun z => absurd z.1 (by decide), fun z => by have z := congrArg Int32.toInt z; have z : (xsn f st 3).toInt = 664272 := z; omega⟩
    · exact ⟨fun z => absurd z.1 (by decide), fun z => by have z := congrArg Int32.toInt z; have z : (xsn f st 3).toInt = 335207579 := z; omega⟩
    · exact ⟨fun z => absurd z.1 (by decide), fun z => by have z := congrArg Int32.toInt z; have z : (xsn f st 3).toInt = 11993594 := z; omega⟩
    · exact ⟨fun z => absurd z.1 (by decide), fun z => by have z := congrArg Int32.toInt z; have z : (xsn f st 3).toInt = 380741 := z; omega⟩
    · omega
  · skip
    have c0 := hl 0 (by omega)
    have b0 : 0 ≤ (xsn f st 0).toInt ∧ (xsn f st 0).toInt ≤ 14348907 := by omega
    have e1 : (xsn f st 1).toInt = 27 * (xsn f st 0).toInt + (bt f (st + 0)).toInt - 96 := st27 b0 c0
    have c1 := hl 1 (by omega)
    have b1 : 0 ≤ (xsn f st 1).toInt ∧ (xsn f st 1).toInt ≤ 14348907 := by omega
    have e2 : (xsn f st 2).toInt = 27 * (xsn f st 1).toInt + (bt f (st + 1)).toInt - 96 := st27 b1 c1
    have c2 := hl 2 (by omega)
    have b2 : 0 ≤ (xsn f st 2).toInt ∧ (xsn f st 2).toInt ≤ 14348907 := by omega
    have e3 : (xsn f st 3).toInt = 27 * (xsn f st 2).toInt + (bt f (st + 2)).toInt - 96 := st27 b2 c2
    have c3 := hl 3 (by omega)
    have b3 : 0 ≤ (xsn f st 3).toInt ∧ (xsn f st 3).toInt ≤ 14348907 := by omega
    have e4 : (xsn f st 4).toInt = 27 * (xsn f st 3).toInt + (bt f (st + 3)).toInt - 96 := st27 b3 c3
    clear hl
    rcases w with _ | _ | _ | _ | _ | _ | _ | _ | _ | _ | _ | _ | _ | _ | w
    · constructor
      · intro z
        have z := z.2
        show _ = (495765 : Int32)
        have z : ((decide (bt f (st + 0) = 121) && (decide (bt f (st + 1) = 101) && (decide (bt f (st + 2) = 97) && (decide (bt f (st + 3) = 114) && true))))) = true := z
        simp only [Bool.and_eq_true, decide_eq_true_eq, i_eq, Int32.reduceToInt] at z
        rw [i_eq]
        show _ = (495765 : Int)
        omega
      · intro z
        have z := congrArg Int32.toInt z
        have z : (xsn f st 4).toInt = 495765 := z
        refine ⟨rfl, ?_⟩
        show ((decide (bt f (st + 0) = 121) && (decide (bt f (st + 1) = 101) && (decide (bt f (st + 2) = 97) && (decide (bt f (st + 3) = 114) && true))))) = true
        simp only [Bool.and_eq_true, decide_eq_true_eq, i_eq, Int32.reduceToInt, and_true]
        omega
    · exact ⟨fun z => absurd z.1 (by decide), fun z => by have z := congrArg Int32.toInt z; have z : (xsn f st 4).toInt = 3094387 := z; omega⟩
    · constructor
      · intro z
        have z := z.2
        show _ = (131638 : Int32)
        have z : ((decide (bt f (st + 0) = 102) && (decide (bt f (st + 1) = 114) && (decide (bt f (st + 2) = 111) && (decide (bt f (st + 3) = 109) && true))))) = true := z
        simp only [Bool.and_eq_true, decide_eq_true_eq, i_eq, Int32.reduceToInt] at z
        rw [i_eq]
        show _ = (131638 : Int)
        omega
      · intro z
        have z := congrArg Int32.toInt z
        have z : (xsn f st 4).toInt = 131638 := z
        refine ⟨rfl, ?_⟩
        show ((decide (bt f (st + 0) = 102) && (decide (bt f (st + 1) = 114) && (decide (bt f (st + 2) = 111) && (decide (bt f (st + 3) = 109) && true))))) = true
        simp only [Bool.and_eq_true, decide_eq_true_eq, i_eq, Int32.reduceToInt, and_true]
        omega
    · constructor
      · intro z
        have z := z.2
        show _ = (131360 : Int32)
        have z : ((decide (bt f (st + 0) = 102) && (decide (bt f (st + 1) = 114) && (decide (bt f (st + 2) = 101) && (decide (bt f (st + 3) = 101) && true))))) = true := z
        simp only [Bool.and_eq_true, decide_eq_true_eq, i_eq, Int32.reduceToInt] at z
        rw [i_eq]
        show _ = (131360 : Int)
        omega
      · intro z
        have z := congrArg Int32.toInt z
        have z : (xsn f st 4).toInt = 131360 := z
        refine ⟨rfl, ?_⟩
        show ((decide (bt f (st + 0) = 102) && (decide (bt f (st + 1) = 114) && (decide (bt f (st + 2) = 101) && (decide (bt f (st + 3) = 101) && true))))) = true
        simp only [Bool.and_eq_true, decide_eq_true_eq, i_eq, Int32.reduceToInt, and_true]
        omega
    · exact ⟨fun z => absurd z.1 (by decide), fun z => by have z := congrArg Int32.toInt z; have z : (xsn f st 4).toInt = 187429700 := z; omega⟩
    · constructor
      · intro z
        have z := z.2
        show _ = (168748 : Int32)
        have z : ((decide (bt f (st + 0) = 104) && (decide (bt f (st + 1) = 111) && (decide (bt f (st + 2) = 108) && (decide (bt f (st + 3) = 121) && true))))) = true := z
        simp only [Bool.and_eq_true, decide_eq_true_eq, i_eq, Int32.reduceToInt] at z
        rw [i_eq]
        show _ = (168748 : Int)
        omega
      · intro z
        have z := congrArg Int32.toInt z
        have z : (xsn f st 4).toInt = 168748 := z
        refine ⟨rfl, ?_⟩
        show ((decide (bt f (st + 0) = 104) && (decide (bt f (st + 1) = 111) && (decide (bt f (st + 2) = 108) && (decide (bt f (st + 3) = 121) && true))))) = true
        simp only [Bool.and_eq_true, decide_eq_true_eq, i_eq, Int32.reduceToInt, and_true]
        omega
    · constructor
      · intro z
        have z := z.2
        show _ = (79958 : Int32)
        have z : ((decide (bt f (st + 0) = 100) && (decide (bt f (st + 1) = 97) && (decide (bt f (st + 2) = 114) && (decide (bt f (st + 3) = 107) && true))))) = true := z
        simp only [Bool.and_eq_true, decide_eq_true_eq, i_eq, Int32.reduceToInt] at z
        rw [i_eq]
        show _ = (79958 : Int)
        omega
      · intro z
        have z := congrArg Int32.toInt z
        have z : (xsn f st 4).toInt = 79958 := z
        refine ⟨rfl, ?_⟩
        show ((decide (bt f (st + 0) = 100) && (decide (bt f (st + 1) = 97) && (decide (bt f (st + 2) = 114) && (decide (bt f (st + 3) = 107) && true))))) = true
        simp only [Bool.and_eq_true, decide_eq_true_eq, i_eq, Int32.reduceToInt, and_true]
        omega
    · constructor
      · intro z
        have z := z.2
        show _ = (80155 : Int32)
        have z : ((decide (bt f (st + 0) = 100) && (decide (bt f (st + 1) = 97) && (decide (bt f (st + 2) = 121) && (decide (bt f (st + 3) = 115) && true))))) = true := z
        simp only [Bool.and_eq_true, decide_eq_true_eq, i_eq, Int32.reduceToInt] at z
        rw [i_eq]
        show _ = (80155 : Int)
        omega
      · intro z
        have z := congrArg Int32.toInt z
        have z : (xsn f st 4).toInt = 80155 := z
        refine ⟨rfl, ?_⟩
        show ((decide (bt f (st + 0) = 100) && (decide (bt f (st + 1) = 97) && (decide (bt f (st + 2) = 121) && (decide (bt f (st + 3) = 115) && true))))) = true
        simp only [Bool.and_eq_true, decide_eq_true_eq, i_eq, Int32.reduceToInt, and_true]
        omega
    · constructor
      · intro z
        have z := z.2
        show _ = (46263 : Int32)
        have z : ((decide (bt f (st + 0) = 98) && (decide (bt f (st + 1) = 105) && (decide (bt f (st + 2) = 108) && (decide (bt f (st + 3) = 108) && true))))) = true := z
        simp only [Bool.and_eq_true, decide_eq_true_eq, i_eq, Int32.reduceToInt] at z
        rw [i_eq]
        show _ = (46263 : Int)
        omega
      · intro z
        have z := congrArg Int32.toInt z
        have z : (xsn f st 4).toInt = 46263 := z
        refine ⟨rfl, ?_⟩
        show ((decide (bt f (st + 0) = 98) && (decide (bt f (st + 1) = 105) && (decide (bt f (st + 2) = 108) && (decide (bt f (st + 3) = 108) && true))))) = true
        simp only [Bool.and_eq_true, decide_eq_true_eq, i_eq, Int32.reduceToInt, and_true]
        omega
    · constructor
      · intro z
        have z := z.2
        show _ = (388708 : Int32)
        have z : ((decide (bt f (st + 0) = 115) && (decide (bt f (st + 1) = 116) && (decide (bt f (st + 2) = 101) && (decide (bt f (st + 3) = 112) && true))))) = true := z
        simp only [Bool.and_eq_true, decide_eq_true_eq, i_eq, Int32.reduceToInt] at z
        rw [i_eq]
        show _ = (388708 : Int)
        omega
      · intro z
        have z := congrArg Int32.toInt z
        have z : (xsn f st 4).toInt = 388708 := z
        refine ⟨rfl, ?_⟩
        show ((decide (bt f (st + 0) = 115) && (decide (bt f (st + 1) = 116) && (decide (bt f (st + 2) = 101) && (decide (bt f (st + 3) = 112) && true))))) = true
        simp only [Bool.and_eq_true, decide_eq_true_eq, i_eq, Int32.reduceToInt, and_true]
        omega
    · exact ⟨fun z => absurd z.1 (by decide), fun z => by have z := congrArg Int32.toInt z; have z : (xsn f st 4).toInt = 664272 := z; omega⟩
    · exact ⟨fun z => absurd z.1 (by decide), fun z => by have z := congrArg Int32.toInt z; have z : (xsn f st 4).toInt = 335207579 := z; omega⟩
    · exact ⟨fun z => absurd z.1 (by decide), fun z => by have z := congrArg Int32.toInt z; have z : (xsn f st 4).toInt = 11993594 := z; omega⟩
    · constructor
      · intro z
        have z := z.2
        show _ = (380741 : Int32)
        have z : ((decide (bt f (st + 0) = 115) && (decide (bt f (st + 1) = 105) && (decide (bt f (st + 2) = 103) && (decide (bt f (st + 3) = 110) && true))))) = true := z
        simp only [Bool.and_eq_true, decide_eq_true_eq, i_eq, Int32.reduceToInt] at z
        rw [i_eq]
        show _ = (380741 : Int)
        omega
      · intro z
        have z := congrArg Int32.toInt z
        have z : (xsn f st 4).toInt = 380741 := z
        refine ⟨rfl, ?_⟩
        show ((decide (bt f (st + 0) = 115) && (decide (bt f (st + 1) = 105) && (decide (bt f (st + 2) = 103) && (decide (bt f (st + 3) = 110) && true))))) = true
        simp only [Bool.and_eq_true, decide_eq_true_eq, i_eq, Int32.reduceToInt, and_true]
        omega
    · omega
  · skip
    have c0 := hl 0 (by omega)
    have b0 : 0 ≤ (xsn f st 0).toInt ∧ (xsn f st 0).toInt ≤ 14348907 := by omega
    have e1 : (xsn f st 1).toInt = 27 * (xsn f st 0).toInt + (bt f (st + 0)).toInt - 96 := st27 b0 c0
    have c1 := hl 1 (by omega)
    have b1 : 0 ≤ (xsn f st 1).toInt ∧ (xsn f st 1).toInt ≤ 14348907 := by omega
    have e2 : (xsn f st 2).toInt = 27 * (xsn f st 1).toInt + (bt f (st + 1)).toInt - 96 := st27 b1 c1
    have c2 := hl 2 (by omega)
    have b2 : 0 ≤ (xsn f st 2).toInt ∧ (xsn f st 2).toInt ≤ 14348907 := by omega
    have e3 : (xsn f st 3).toInt = 27 * (xsn f st 2).toInt + (bt f (st + 2)).toInt - 96 := st27 b2 c2
    have c3 := hl 3 (by omega)
    have b3 : 0 ≤ (xsn f st 3).toInt ∧ (xsn f st 3).toInt ≤ 14348907 := by omega
    have e4 : (xsn f st 4).toInt = 27 * (xsn f st 3).toInt + (bt f (st + 3)).toInt - 96 := st27 b3 c3
    have c4 := hl 4 (by omega)
    have b4 : 0 ≤ (xsn f st 4).toInt ∧ (xsn f st 4).toInt ≤ 14348907 := by omega
    have e5 : (xsn f st 5).toInt = 27 * (xsn f st 4).toInt + (bt f (st + 4)).toInt - 96 := st27 b4 c4
    clear hl
    rcases w with _ | _ | _ | _ | _ | _ | _ | _ | _ | _ | _ | _ | _ | _ | w
    · exact ⟨fun z => absurd z.1 (by decide), fun z => by have z := congrArg Int32.toInt z; have z : (xsn f st 5).toInt = 495765 := z; omega⟩
    · constructor
      · intro z
        have z := z.2
        show _ = (3094387 : Int32)
        have z : ((decide (bt f (st + 0) = 101) && (decide (bt f (st + 1) = 118) && (decide (bt f (st + 2) = 101) && (decide (bt f (st + 3) = 114) && (decide (bt f (st + 4) = 121) && true)))))) = true := z
        simp only [Bool.and_eq_true, decide_eq_true_eq, i_eq, Int32.reduceToInt] at z
        rw [i_eq]
        show _ = (3094387 : Int)
        omega
      · intro z
        have z := congrArg Int32.toInt z
        have z : (xsn f st 5).toInt = 3094387 := z
        refine ⟨rfl, ?_⟩
        show ((decide (bt f (st + 0) = 101) && (decide (bt f (st + 1) = 118) && (decide (bt f (st + 2) = 101) && (decide (bt f (st + 3) = 114) && (decide (bt f (st + 4) = 121) && true)))))) = true
        simp only [Bool.and_eq_true, decide_eq_true_eq, i_eq, Int32.reduceToInt, and_true]
        omega
    · exact ⟨fun z => absurd z.1 (by decide), fun z => by have z := congrArg Int32.toInt z; have z : (xsn f st 5).toInt = 131638 := z; omega⟩
    · exact ⟨fun z => absurd z.1 (by decide), fun z => by have z := congrArg Int32.toInt z; have z : (xsn f st 5).toInt = 131360 := z; omega⟩
    · exact ⟨fun z => absurd z.1 (by decide), fun z => by have z := congrArg Int32.toInt z; have z : (xsn f st 5).toInt = 187429700 := z; omega⟩
    · exact ⟨fun z => absurd z.1 (by decide), fun z => by have z := congrArg Int32.toInt z; have z : (xsn f st 5).toInt = 168748 := z; omega⟩
    · exact ⟨fun z => absurd z.1 (by decide), fun z => by have z := congrArg Int32.toInt z; have z : (xsn f st 5).toInt = 79958 := z; omega⟩
    · exact ⟨fun z => absurd z.1 (by decide), fun z => by have z := congrArg Int32.toInt z; have z : (xsn f st 5).toInt = 80155 := z; omega⟩
    · exact ⟨fun z => absurd z.1 (by decide), fun z => by have z := congrArg Int32.toInt z; have z : (xsn f st 5).toInt = 46263 := z; omega⟩
    · exact ⟨fun z => absurd z.1 (by decide), fun z => by have z := congrArg Int32.toInt z; have z : (xsn f st 5).toInt = 388708 := z; omega⟩
    · constructor
      · intro z
        have z := z.2
        show _ = (664272 : Int32)
        have z : ((decide (bt f (st + 0) = 97) && (decide (bt f (st + 1) = 102) && (decide (bt f (st + 2) = 116) && (decide (bt f (st + 3) = 101) && (decide (bt f (st + 4) = 114) && true)))))) = true := z
        simp only [Bool.and_eq_true, decide_eq_true_eq, i_eq, Int32.reduceToInt] at z
        rw [i_eq]
        show _ = (664272 : Int)
        omega
      · intro z
        have z := congrArg Int32.toInt z
        have z : (xsn f st 5).toInt = 664272 := z
        refine ⟨rfl, ?_⟩
        show ((decide (bt f (st + 0) = 97) && (decide (bt f (st + 1) = 102) && (decide (bt f (st + 2) = 116) && (decide (bt f (st + 3) = 101) && (decide (bt f (st + 4) = 114) && true)))))) = true
        simp only [Bool.and_eq_true, decide_eq_true_eq, i_eq, Int32.reduceToInt, and_true]
        omega
    · exact ⟨fun z => absurd z.1 (by decide), fun z => by have z := congrArg Int32.toInt z; have z : (xsn f st 5).toInt = 335207579 := z; omega⟩
    · constructor
      · intro z
        have z := z.2
        show _ = (11993594 : Int32)
        have z : ((decide (bt f (st + 0) = 118) && (decide (bt f (st + 1) = 111) && (decide (bt f (st + 2) = 105) && (decide (bt f (st + 3) = 99) && (decide (bt f (st + 4) = 101) && true)))))) = true := z
        simp only [Bool.and_eq_true, decide_eq_true_eq, i_eq, Int32.reduceToInt] at z
        rw [i_eq]
        show _ = (11993594 : Int)
        omega
      · intro z
        have z := congrArg Int32.toInt z
        have z : (xsn f st 5).toInt = 11993594 := z
        refine ⟨rfl, ?_⟩
        show ((decide (bt f (st + 0) = 118) && (decide (bt f (st + 1) = 111) && (decide (bt f (st + 2) = 105) && (decide (bt f (st + 3) = 99) && (decide (bt f (st + 4) = 101) && true)))))) = true
        simp only [Bool.and_eq_true, decide_eq_true_eq, i_eq, Int32.reduceToInt, and_true]
        omega
    · exact ⟨fun z => absurd z.1 (by decide), fun z => by have z := congrArg Int32.toInt z; have z : (xsn f st 5).toInt = 380741 := z; omega⟩
    · omega
  · skip
    have c0 := hl 0 (by omega)
    have b0 : 0 ≤ (xsn f st 0).toInt ∧ (xsn f st 0).toInt ≤ 14348907 := by omega
    have e1 : (xsn f st 1).toInt = 27 * (xsn f st 0).toInt + (bt f (st + 0)).toInt - 96 := st27 b0 c0
    have c1 := hl 1 (by omega)
    have b1 : 0 ≤ (xsn f st 1).toInt ∧ (xsn f st 1).toInt ≤ 14348907 := by omega
    have e2 : (xsn f st 2).toInt = 27 * (xsn f st 1).toInt + (bt f (st + 1)).toInt - 96 := st27 b1 c1
    have c2 := hl 2 (by omega)
    have b2 : 0 ≤ (xsn f st 2).toInt ∧ (xsn f st 2).toInt ≤ 14348907 := by omega
    have e3 : (xsn f st 3).toInt = 27 * (xsn f st 2).toInt + (bt f (st + 2)).toInt - 96 := st27 b2 c2
    have c3 := hl 3 (by omega)
    have b3 : 0 ≤ (xsn f st 3).toInt ∧ (xsn f st 3).toInt ≤ 14348907 := by omega
    have e4 : (xsn f st 4).toInt = 27 * (xsn f st 3).toInt + (bt f (st + 3)).toInt - 96 := st27 b3 c3
    have c4 := hl 4 (by omega)
    have b4 : 0 ≤ (xsn f st 4).toInt ∧ (xsn f st 4).toInt ≤ 14348907 := by omega
    have e5 : (xsn f st 5).toInt = 27 * (xsn f st 4).toInt + (bt f (st + 4)).toInt - 96 := st27 b4 c4
    have c5 := hl 5 (by omega)
    have b5 : 0 ≤ (xsn f st 5).toInt ∧ (xsn f st 5).toInt ≤ 14348907 := by omega
    have e6 : (xsn f st 6).toInt = 27 * (xsn f st 5).toInt + (bt f (st + 5)).toInt - 96 := st27 b5 c5
    clear hl
    rcases w with _ | _ | _ | _ | _ | _ | _ | _ | _ | _ | _ | _ | _ | _ | w
    · exact ⟨fun z => absurd z.1 (by decide), fun z => by have z := congrArg Int32.toInt z; have z : (xsn f st 6).toInt = 495765 := z; omega⟩
    · exact ⟨fun z => absurd z.1 (by decide), fun z => by have z := congrArg Int32.toInt z; have z : (xsn f st 6).toInt = 3094387 := z; omega⟩
    · exact ⟨fun z => absurd z.1 (by decide), fun z => by have z := congrArg Int32.toInt z; have z : (xsn f st 6).toInt = 131638 := z; omega⟩
    · exact ⟨fun z => absurd z.1 (by decide), fun z => by have z := congrArg Int32.toInt z; have z : (xsn f st 6).toInt = 131360 := z; omega⟩
    · constructor
      · intro z
        have z := z.2
        show _ = (187429700 : Int32)
        have z : ((decide (bt f (st + 0) = 109) && (decide (bt f (st + 1) = 97) && (decide (bt f (st + 2) = 114) && (decide (bt f (st + 3) = 107) && (decide (bt f (st + 4) = 101) && (decide (bt f (st + 5) = 116) && true))))))) = true := z
        simp only [Bool.and_eq_true, decide_eq_true_eq, i_eq, Int32.reduceToInt] at z
        rw [i_eq]
        show _ = (187429700 : Int)
        omega
      · intro z
        have z := congrArg Int32.toInt z
        have z : (xsn f st 6).toInt = 187429700 := z
        refine ⟨rfl, ?_⟩
        show ((decide (bt f (st + 0) = 109) && (decide (bt f (st + 1) = 97) && (decide (bt f (st + 2) = 114) && (decide (bt f (st + 3) = 107) && (decide (bt f (st + 4) = 101) && (decide (bt f (st + 5) = 116) && true))))))) = true
        simp only [Bool.and_eq_true, decide_eq_true_eq, i_eq, Int32.reduceToInt, and_true]
        omega
    · exact ⟨fun z => absurd z.1 (by decide), fun z => by have z := congrArg Int32.toInt z; have z : (xsn f st 6).toInt = 168748 := z; omega⟩
    · exact ⟨fun z => absurd z.1 (by decide), fun z => by have z := congrArg Int32.toInt z; have z : (xsn f st 6).toInt = 79958 := z; omega⟩
    · exact ⟨fun z => absurd z.1 (by decide), fun z => by have z := congrArg Int32.toInt z; have z : (xsn f st 6).toInt = 80155 := z; omega⟩
    · exact ⟨fun z => absurd z.1 (by decide), fun z => by have z := congrArg Int32.toInt z; have z : (xsn f st 6).toInt = 46263 := z; omega⟩
    · exact ⟨fun z => absurd z.1 (by decide), fun z => by have z := congrArg Int32.toInt z; have z : (xsn f st 6).toInt = 388708 := z; omega⟩
    · exact ⟨fun z => absurd z.1 (by decide), fun z => by have z := congrArg Int32.toInt z; have z : (xsn f st 6).toInt = 664272 := z; omega⟩
    · constructor
      · intro z
        have z := z.2
        show _ = (335207579 : Int32)
        have z : ((decide (bt f (st + 0) = 119) && (decide (bt f (st + 1) = 105) && (decide (bt f (st + 2) = 116) && (decide (bt f (st + 3) = 104) && (decide (bt f (st + 4) = 105) && (decide (bt f (st + 5) = 110) && true))))))) = true := z
        simp only [Bool.and_eq_true, decide_eq_true_eq, i_eq, Int32.reduceToInt] at z
        rw [i_eq]
        show _ = (335207579 : Int)
        omega
      · intro z
        have z := congrArg Int32.toInt z
        have z : (xsn f st 6).toInt = 335207579 := z
        refine ⟨rfl, ?_⟩
        show ((decide (bt f (st + 0) = 119) && (decide (bt f (st + 1) = 105) && (decide (bt f (st + 2) = 116) && (decide (bt f (st + 3) = 104) && (decide (bt f (st + 4) = 105) && (decide (bt f (st + 5) = 110) && true))))))) = true
        simp only [Bool.and_eq_true, decide_eq_true_eq, i_eq, Int32.reduceToInt, and_true]
        omega
    · exact ⟨fun z => absurd z.1 (by decide), fun z => by have z := congrArg Int32.toInt z; have z : (xsn f st 6).toInt = 11993594 := z; omega⟩
    · exact ⟨fun z => absurd z.1 (by decide), fun z => by have z := congrArg Int32.toInt z; have z : (xsn f st 6).toInt = 380741 := z; omega⟩
    · omega
def cS (f : Nat → Int32) (s st : Nat) : Int32 := if st < s then (if bt f st = 59 then 3 else if isL (bt f st) = true then 1 else if isD (bt f st) = true then (if kE f s st - st = 1 ∨ kE f s st - st = 2 ∧ bt f st ≠ 48 then 2 else 4) else 4) else 0
theorem isL_59 {c : Int32} (h : isL c = true) : c ≠ 59 := fun e => by rw [e] at h; exact absurd h (by decide)
theorem isD_59 {c : Int32} (h : isD c = true) : c ≠ 59 := fun e => by rw [e] at h; exact absurd h (by decide)
/-- a word stands here just if the reference's sort says so -/
theorem nm {f : Nat → Int32} {s st w : Nat} (hw : w < 14) (hs' : st ≤ s) : (cS f s st = 1 ∧ kE f s st - st = (sbyt.getD w []).length ∧ wq f st 0 (sbyt.getD w []) = true) ↔ kK f s st = wkL.getD w (0, 0) := by
  have no : ∀ v : Int32 × Int32, (v.1 = 0 ∨ 12 ≤ v.1.toInt) → ¬ v = wkL.getD w (0, 0) := by
    intro v hv e
    rw [e] at hv
    have := (by decide +kernel : ∀ w, w < 14 → ¬ ((wkL.getD w (0, 0)).1 = 0 ∨ 12 ≤ (wkL.getD w (0, 0)).1.toInt)) w hw
    exact this hv
  by_cases ls : st < s
  rotate_left 1
  · have e1 : cS f s st = 0 := by unfold cS; rw [if_neg ls]
    have e2 : kK f s st = (0, 0) := by unfold kK; rw [if_neg ls]
    rw [e1, e2]
    exact ⟨fun z => absurd z.1 (by decide), fun z => absurd z (no _ (Or.inl rfl))⟩
  by_cases yL : isL (bt f st) = true
  · have e1 : cS f s st = 1 := by unfold cS; rw [if_pos ls, if_neg (isL_59 yL), if_pos yL]
    have e2 : kK f s st = mn (hc f s st) := by unfold kK; rw [if_pos ls, if_pos yL]
    have eE : kE f s st = rn isL f (s - st) st := by unfold kE; rw [if_pos ls, if_pos yL]
    have kg := kE_rg (f := f) (s := s) (st := st) hs'
    have hl : ∀ i, i < kE f s st - st → 97 ≤ (bt f (st + i)).toInt ∧ (bt f (st + i)).toInt ≤ 122 := fun i hi => (isL_eq _).mp (rn_in isL f (s - st) st (st + i) (by omega) (by rw [← eE]; omega))
    rw [e1, e2, mn_w hw]
    unfold hc
    by_cases c6 : kE f s st - st ≤ 6
    · rw [if_pos c6, show hs f st (kE f s st - st) 0 0 = xsn f st (0 + (kE f s st - st)) from hs_xsn f st (kE f s st - st) 0 (by omega), Nat.zero_add]
      rw [← word_hash _ (by have := kg.2.2 ls; omega) c6 hl w hw]
      exact ⟨fun z => z.2, fun z => ⟨rfl, z⟩⟩
    · rw [if_neg c6]
      have h6 := (by decide +kernel : ∀ w, w < 14 → (sbyt.getD w []).length ≤ 6 ∧ ¬ (0 : Int32) = cwL.getD w 0) w hw
      exact ⟨fun z => by have := z.2.1; omega, fun z => absurd z h6.2⟩
  by_cases yD : isD (bt f st) = true
  · have e1 : ¬ cS f s st = 1 := by
      unfold cS; rw [if_pos ls, if_neg (isD_59 yD), if_neg yL, if_pos yD]
      split <;> decide
    have e2 : 12 ≤ (kK f s st).1.toInt := by
      unfold kK; rw [if_pos ls, if_neg yL, if_pos yD]
      show 12 ≤ (if 99 < (vc f s st).toInt ∨ bt f st = 48 ∧ 1 < kE f s st - st then (14 : Int32) else 12).toInt
      split <;> decide
    exact ⟨fun z => absurd z.1 e1, fun z => absurd z (no _ (Or.inr e2))⟩
  · have e1 : ¬ cS f s st = 1 := by
      unfold cS; rw [if_pos ls]
      by_cases y : bt f st = 59
      · rw [if_pos y]; decide
      · rw [if_neg y, if_neg yL, if_neg yD]; decide
    have e2 : 12 ≤ (kK f s st).1.toInt := by
      unfold kK; rw [if_pos ls, if_neg yL, if_neg yD]
      show 12 ≤ (if bt f st = 59 then (13 : Int32) else 14).toInt
      split <;> decide
    exact ⟨fun z => absurd z.1 e1, fun z => absurd z (no _ (Or.inr e2))⟩
/-! numbers -/
theorem st10 {v c : Int32} (hv : 0 ≤ v.toInt ∧ v.toInt ≤ 99) (hc : 48 ≤ c.toInt ∧ c.toInt ≤ 57) : (10 * v + c - 48).toInt = 10 * v.toInt + c.toInt - 48 := by
  have l27 : (10 : Int32).toInt = 10 := rfl
  have l96 : (48 : Int32).toInt = 48 := rfl
  have e : (10 * v).toInt = 10 * v.toInt := by rw [i_mul (by rw [l27]; omega) (by rw [l27]; omega), l27]
  have e2 : (10 * v + c).toInt = 10 * v.toInt + c.toInt := by rw [i_add (by omega) (by omega), e]
  rw [i_sub (by rw [l96]; omega) (by rw [l96]; omega), l96, e2]
theorem vl_big (f : Nat → Int32) : ∀ k p v, 99 < v.toInt → vl f k p v = v := by
  intro k
  induction k with
  | zero => intros; rfl
  | succ k ih =>
    intro p v h
    rw [vl, if_neg (fun z => by have := y_le z; have z9 : (99 : Int32).toInt = 99 := rfl; omega)]
    exact ih _ _ h
theorem vl_s {f : Nat → Int32} {k p : Nat} {v : Int32} (h : v.toInt ≤ 99) : vl f (k + 1) p v = vl f k (p + 1) (10 * v + bt f p - 48) := by
  rw [vl, if_pos (Int32.le_iff_toInt_le.mpr h)]
theorem num_ok {f : Nat → Int32} {s st : Nat} (ls : st < s) (yD : isD (bt f st) = true) : ((kE f s st - st = 1 ∨ kE f s st - st = 2 ∧ bt f st ≠ 48) ↔ ¬ (99 < (vc f s st).toInt ∨ bt f st = 48 ∧ 1 < kE f s st - st)) ∧ (kE f s st - st = 1 → vc f s st = bt f st - 48) ∧ (kE f s st - st = 2 → vc f s st = (bt f st - 48) * 10 + bt f (st + 1) - 48) := by
  have kg := kE_rg (f := f) (s := s) (st := st) (by omega)
  have nL : ¬ isL (bt f st) = true := fun z => by
    have a := (isL_eq _).mp z
    have b := (isD_eq _).mp yD
    simp only [Int32.reduceToInt] at a b
    omega
  have eE : kE f s st = rn isD f (s - st) st := by unfold kE; rw [if_pos ls, if_neg nL, if_pos yD]
  have hl : ∀ i, i < kE f s st - st → 48 ≤ (bt f (st + i)).toInt ∧ (bt f (st + i)).toInt ≤ 57 := fun i hi => (isD_eq _).mp (rn_in isD f (s - st) st (st + i) (by omega) (by rw [← eE]; omega))
  have g1 : 1 ≤ kE f s st - st := by have := kg.2.2 ls; omega
  unfold vc
  generalize kE f s st - st = m at *
  have z0 : (0 : Int32).toInt = 0 := rfl
  have c0 := hl 0 (by omega)
  rw [Nat.add_zero] at c0
  have s0 : (10 * 0 + bt f st - 48).toInt = (bt f st).toInt - 48 := by rw [st10 (by rw [z0]; omega) c0, z0]; omega
  have x0 : (10 * 0 + bt f st - 48 : Int32) = bt f st - 48 := by simp
  have n48 : bt f st = 48 ↔ (bt f st).toInt = 48 := i_eq
  rcases (show m = 1 ∨ m = 2 ∨ ∃ k, m = k + 3 from if h : m < 3 then by omega else Or.inr (Or.inr ⟨m - 3, by omega⟩)) with rfl | rfl | ⟨k, rfl⟩
  · have ev : vl f 1 st 0 = 10 * 0 + bt f st - 48 := by rw [vl_s (by rw [z0]; omega)]; rfl
    rw [ev]
    refine ⟨⟨fun _ z => ?_, fun _ => Or.inl rfl⟩, fun _ => x0, fun z => by omega⟩
    omega
  · have c1 := hl 1 (by omega)
    have ev : vl f 2 st 0 = 10 * (10 * 0 + bt f st - 48) + bt f (st + 1) - 48 := by rw [vl_s (by rw [z0]; omega), vl_s (by omega)]; rfl
    have s1 := st10 (v := 10 * 0 + bt f st - 48) (c := bt f (st + 1)) (by omega) c1
    rw [ev]
    refine ⟨⟨fun z y => ?_, fun z => Or.inr ⟨rfl, fun y => z (Or.inr ⟨y, by omega⟩)⟩⟩, fun z => by omega, fun _ => ?_⟩
    · rcases z with z | z
      · omega
      · rcases y with y | y
        · omega
        · exact z.2 y.1
    · rw [x0, Int32.mul_comm]
  · have c1 := hl 1 (by omega)
    have c2 := hl 2 (by omega)
    refine ⟨⟨fun z => by omega, fun z => absurd ?_ z⟩, fun z => by omega, fun z => by omega⟩
    by_cases e : bt f st = 48
    · exact Or.inr ⟨e, by omega⟩
    · have e3 : ¬ (bt f st).toInt = 48 := fun z => e (n48.mpr z)
      refine Or.inl ?_
      have s1 := st10 (v := 10 * 0 + bt f st - 48) (c := bt f (st + 1)) (by omega) c1
      have s2 := st10 (v := 10 * (10 * 0 + bt f st - 48) + bt f (st + 1) - 48) (c := bt f (st + 2)) (by omega) c2
      have ev : vl f (k + 3) st 0 = vl f k (st + 3) (10 * (10 * (10 * 0 + bt f st - 48) + bt f (st + 1) - 48) + bt f (st + 2) - 48) := by
        rw [vl_s (by rw [z0]; omega), vl_s (by omega), vl_s (by omega)]
      rw [ev, vl_big f k _ _ (by omega)]
      omega

/-! the class's text -/
def N3 (f : Nat → Int32) (s : Nat) (h : Hp) : Prop := CI h ∧ (h.2.1 28 1).toInt = s ∧ s ≤ 400 ∧ ∀ j, j < 400 → h.2.1 1 j = f j
def Wrd (q j : Nat) : Prop := q = 28 ∧ 3 ≤ j ∧ j ≤ 6
theorem nb28 {j : Nat} : ¬ bslot 28 j := nbX3 rfl
theorem N3.pI {f : Nat → Int32} {s j : Nat} {v : Int32} {h : Hp} (N : N3 f s h) (a : 3 ≤ j) : N3 f s (sI h 28 j v) := by
  refine ⟨N.1.sI (Or.inl nb28), ?_, N.2.2.1, fun i hi => ?_⟩
  · rw [rdI_ne (by omega)]; exact N.2.1
  · rw [rdI_ne (by omega)]; exact N.2.2.2 i hi
theorem po_aln {β : Type} {P : β → Prop} {h : Hp} {q c m : Nat} {k : Int32 → Option β} (e : h.1[q]? = some (c, m)) (hc : 50 ≤ c ∧ c < 56) (K : PO P (k (Int32.ofNat m))) : PO P ((aln q h).bind k) := by
  unfold aln
  rw [e]
  show PO P (Option.bind (if 50 ≤ c ∧ c < 56 then some (Int32.ofNat m) else none) k)
  rw [if_pos hc]; exact K
theorem po_byteAt {β : Type} {P : β → Prop} {f : Nat → Int32} {s p n : Nat} {v : Int32} {h : Hp} {k : Int32 × Hp → Option β} (N : N3 f s h) (A : v.toInt = p) (K : PO P (k (if p < s then bt f p else -9, h))) : PO P ((f_X3_byteAt n 28 v h).bind k) := by
  refine po_bind (Q := fun r => r = (if p < s then bt f p else -9, h)) ?_ fun r er => by rw [er]; exact K
  unfold f_X3_byteAt
  have a := N.2.1
  have b := N.2.2.1
  have z0 : (0 : Int32).toInt = 0 := rfl
  have z4 : (Int32.ofNat 400).toInt = 400 := rfl
  refine po_ck (po_lt (fun c => by omega) fun _ => po_gI (po_le (fun c => po_ret ?_) fun c => po_gR (rx_ok N.1 rfl) (po_aln (shq N.1 rfl) (by decide) (po_le (fun d => by omega) fun _ => po_gR (rx_ok N.1 rfl) (po_aI (shq N.1 rfl) fun i0 i1 => po_ret ?_)))))
  · rw [if_neg (by omega)]
  · rw [if_pos (by omega), N.2.2.2 _ (by rw [cl_i]; omega)]
    rw [show v.toNatClampNeg = p by rw [cl_i]; omega]
    rfl
theorem po_isLetter {β : Type} {P : β → Prop} {n : Nat} {c : Int32} {h : Hp} {k : Int32 × Hp → Option β} (K0 : ¬ isL c = true → PO P (k (0, h))) (K1 : isL c = true → PO P (k (1, h))) : PO P ((f_X3_isLetter n c h).bind k) := by
  unfold f_X3_isLetter
  have l97 : (97 : Int32).toInt = 97 := rfl
  have l122 : (122 : Int32).toInt = 122 := rfl
  refine po_blt (fun a => po_zrb (K0 fun z => ?_)) fun a => po_blt (fun b => po_zrb (K0 fun z => ?_)) fun b => po_zrb (K1 ((isL_eq c).mpr (by omega)))
  · have := (isL_eq c).mp z; omega
  · have := (isL_eq c).mp z; omega
theorem po_isDigit {β : Type} {P : β → Prop} {n : Nat} {c : Int32} {h : Hp} {k : Int32 × Hp → Option β} (K0 : ¬ isD c = true → PO P (k (0, h))) (K1 : isD c = true → PO P (k (1, h))) : PO P ((f_X3_isDigit n c h).bind k) := by
  unfold f_X3_isDigit
  have l97 : (48 : Int32).toInt = 48 := rfl
  have l122 : (57 : Int32).toInt = 57 := rfl
  refine po_blt (fun a => po_zrb (K0 fun z => ?_)) fun a => po_blt (fun b => po_zrb (K0 fun z => ?_)) fun b => po_zrb (K1 ((isD_eq c).mpr (by omega)))
  · have := (isD_eq c).mp z; omega
  · have := (isD_eq c).mp z; omega
theorem p3_L8 {f : Nat → Int32} {s : Nat} {P : Hp → Prop} {k45 : Nat → Hp → Option Hp} {h0 : Hp} {q : Nat} (H : ∀ h, N3 f s h → FW Wrd h0 h → (h.2.1 28 4).toInt = q → PO P (k45 28 h)) : ∀ (n k p : Nat) (h : Hp), p + k = s → q = sk f k p → N3 f s h → FW Wrd h0 h → (h.2.1 28 4).toInt = p → PO P (f_X3_advance_L8 n 28 h k45) := by
  intro n
  induction n with
  | zero => intros; exact po_none
  | succ n ih =>
    intro k p h e eq N F A
    rw [f_X3_advance_L8]
    have hs' := N.2.2.1
    have a := N.2.1
    refine po_gI (po_gI (po_le (fun c => ?_) fun c => ?_))
    · refine H h N F ?_
      rcases k with _ | k
      · rw [eq]; exact A
      · omega
    · rcases k with _ | k
      · omega
      refine po_gI (po_byteAt N A (po_ite (fun d => ?_) fun d => ?_))
      · have d : (if p < s then bt f p else -9) = 32 := d
        rw [if_pos (by omega)] at d
        have e1 := inc1 (v := h.2.1 28 4) (by omega)
        refine po_gI (po_pI (ih k (p + 1) _ (by omega) ?_ (N.pI (by omega)) (F.sI ⟨rfl, by omega, by omega⟩) ?_))
        · rw [eq, sk, if_pos d]
        · show ((sI h 28 4 (h.2.1 28 4 + 1)).2.1 28 4).toInt = _
          rw [rdI_eq, e1]; omega
      · have d : ¬ (if p < s then bt f p else -9) = 32 := d
        rw [if_pos (by omega)] at d
        refine H h N F ?_
        rw [eq, sk, if_neg d]; exact A

theorem p3_advanceLetters_L0 {f : Nat → Int32} {s en : Nat} {P : Hp → Prop} {k38 : Nat → Hp → Option Hp} {h0 : Hp} {st : Int32} (H : ∀ h, N3 f s h → FW Wrd h0 h → (h.2.1 28 5).toInt = en → h.2.1 28 4 = st → PO P (k38 28 h)) : ∀ (n k p : Nat) (h : Hp), p + k = s → en = rn isL f k p → N3 f s h → FW Wrd h0 h → (h.2.1 28 5).toInt = p → h.2.1 28 4 = st → PO P (f_X3_advanceLetters_L0 n 28 h k38) := by
  intro n
  induction n with
  | zero => intros; exact po_none
  | succ n ih =>
    intro k p h e eq N F A B
    rw [f_X3_advanceLetters_L0]
    have hs' := N.2.2.1
    have a := N.2.1
    refine po_gI (po_gI (po_le (fun c => ?_) fun c => ?_))
    · refine H h N F ?_ B
      rcases k with _ | k
      · rw [eq]; exact A
      · omega
    · rcases k with _ | k
      · omega
      refine po_gI (po_byteAt N A ?_)
      rw [if_pos (by omega : p < s)]
      refine po_isLetter (fun d => po_c0 rfl ?_) fun d => po_c1 rfl ?_
      · refine H h N F ?_ B
        rw [eq, rn, if_neg d]; exact A
      · have e1 := inc1 (v := h.2.1 28 5) (by omega)
        refine po_gI (po_pI (ih k (p + 1) _ (by omega) ?_ (N.pI (by omega)) (F.sI ⟨rfl, by omega, by omega⟩) ?_ ?_))
        · rw [eq, rn, if_pos d]
        · show ((sI h 28 5 (h.2.1 28 5 + 1)).2.1 28 5).toInt = _
          rw [rdI_eq, e1]; omega
        · rw [rdI_ne (by omega)]; exact B
theorem p3_advanceNumber_L0 {f : Nat → Int32} {s en : Nat} {P : Hp → Prop} {k38 : Nat → Hp → Option Hp} {h0 : Hp} {st : Int32} (H : ∀ h, N3 f s h → FW Wrd h0 h → (h.2.1 28 5).toInt = en → h.2.1 28 4 = st → PO P (k38 28 h)) : ∀ (n k p : Nat) (h : Hp), p + k = s → en = rn isD f k p → N3 f s h → FW Wrd h0 h → (h.2.1 28 5).toInt = p → h.2.1 28 4 = st → PO P (f_X3_advanceNumber_L0 n 28 h k38) := by
  intro n
  induction n with
  | zero => intros; exact po_none
  | succ n ih =>
    intro k p h e eq N F A B
    rw [f_X3_advanceNumber_L0]
    have hs' := N.2.2.1
    have a := N.2.1
    refine po_gI (po_gI (po_le (fun c => ?_) fun c => ?_))
    · refine H h N F ?_ B
      rcases k with _ | k
      · rw [eq]; exact A
      · omega
    · rcases k with _ | k
      · omega
      refine po_gI (po_byteAt N A ?_)
      rw [if_pos (by omega : p < s)]
      refine po_isDigit (fun d => po_c0 rfl ?_) fun d => po_c1 rfl ?_
      · refine H h N F ?_ B
        rw [eq, rn, if_neg d]; exact A
      · have e1 := inc1 (v := h.2.1 28 5) (by omega)
        refine po_gI (po_pI (ih k (p + 1) _ (by omega) ?_ (N.pI (by omega)) (F.sI ⟨rfl, by omega, by omega⟩) ?_ ?_))
        · rw [eq, rn, if_pos d]
        · show ((sI h 28 5 (h.2.1 28 5 + 1)).2.1 28 5).toInt = _
          rw [rdI_eq, e1]; omega
        · rw [rdI_ne (by omega)]; exact B
/-- the class stands at the token behind p -/
def RC (f : Nat → Int32) (s p : Nat) (h : Hp) : Prop := N3 f s h ∧ (h.2.1 28 4).toInt = tS f s p ∧ (h.2.1 28 5).toInt = tE f s p ∧ h.2.1 28 3 = cS f s (tS f s p) ∧ (cS f s (tS f s p) = 2 → h.2.1 28 6 = tV f s p)
theorem p3_advance {f : Nat → Int32} {s p n : Nat} {h : Hp} (N : N3 f s h) (hp : p ≤ s) (A : (h.2.1 28 5).toInt = p) : PO (fun r : Hp => RC f s p r ∧ FW Wrd h r) (f_X3_advance n 28 h) := by
  unfold f_X3_advance
  refine po_ck (po_gI (po_pI (p3_L8 (h0 := h) (q := tS f s p) (fun h1 N F A => ?_) n (s - p) p _ (by omega) rfl (N.pI (by omega)) (FW.rf.sI ⟨rfl, by omega, by omega⟩) (by rw [rdI_eq]; exact A))))
  have g := tS_rg (f := f) hp
  have hs' := N.2.2.1
  have a1 := N.2.1
  unfold f_X3_advance_J45
  have e1 := inc1 (v := h1.2.1 28 4) (by omega)
  refine po_gI (po_pI ?_)
  have N2 := N.pI (j := 5) (v := h1.2.1 28 4 + 1) (by omega)
  have F2 : FW Wrd h (sI h1 28 5 (h1.2.1 28 4 + 1)) := F.sI ⟨rfl, by omega, by omega⟩
  have A2 : ((sI h1 28 5 (h1.2.1 28 4 + 1)).2.1 28 4).toInt = (tS f s p : Nat) := by rw [rdI_ne (by omega)]; exact A
  have B2 : ((sI h1 28 5 (h1.2.1 28 4 + 1)).2.1 28 5).toInt = (tS f s p + 1 : Nat) := by rw [rdI_eq, e1]; omega
  generalize sI h1 28 5 (h1.2.1 28 4 + 1) = h2 at *
  unfold RC tE tV
  generalize tS f s p = st at *
  have a2 := N2.2.1
  refine po_gI (po_byteAt N2 A2 (po_gI (po_gI (po_lt (fun c => ?_) fun c => ?_))))
  · have c : (h2.2.1 28 4).toInt < (h2.2.1 28 1).toInt := c
    have ls : st < s := by omega
    obtain ⟨k, ek⟩ : ∃ k, s - st = k + 1 := ⟨s - st - 1, by omega⟩
    rw [if_pos ls]
    have kg := kE_rg (f := f) (s := s) (st := st) g.2
    -- a token of one byte
    have one : ∀ w : Int32, kE f s st = st + 1 → w = cS f s st → w ≠ 2 → PO (fun r : Hp => (N3 f s r ∧ (r.2.1 28 4).toInt = (st : Nat) ∧ (r.2.1 28 5).toInt = (kE f s st : Nat) ∧ r.2.1 28 3 = cS f s st ∧ (cS f s st = 2 → r.2.1 28 6 = (kK f s st).2)) ∧ FW Wrd h r) ((pI 3 3 28 w h2).bind fun h99 => some h99) := by
      intro w eE ew nw
      refine po_pI (po_ret ⟨⟨N2.pI (by omega), ?_, ?_, ?_, ?_⟩, F2.sI ⟨rfl, by omega, by omega⟩⟩)
      · rw [rdI_ne (by omega)]; exact A2
      · rw [rdI_ne (by omega), eE]; exact B2
      · rw [rdI_eq, ew]
      · intro z; rw [← ew] at z; exact absurd z nw
    refine po_ite (fun c59 => ?_) fun c59 => ?_
    · have c59 : bt f st = 59 := c59
      have nL : ¬ isL (bt f st) = true := fun z => isL_59 z c59
      have nD : ¬ isD (bt f st) = true := fun z => isD_59 z c59
      exact one 3 (by unfold kE; rw [if_pos ls, if_neg nL, if_neg nD]) (by unfold cS; rw [if_pos ls, if_pos c59]) (by decide)
    have c59 : ¬ bt f st = 59 := c59
    refine po_isLetter (fun nL => po_c0 rfl (po_isDigit (fun nD => po_c0 rfl ?_) fun yD => po_c1 rfl ?_)) fun yL => po_c1 rfl ?_
    · exact one 4 (by unfold kE; rw [if_pos ls, if_neg nL, if_neg nD]) (by unfold cS; rw [if_pos ls, if_neg c59, if_neg nL, if_neg nD]) (by decide)
    · have eE : kE f s st = rn isD f k (st + 1) := by unfold kE; rw [if_pos ls, if_neg nL, if_pos yD, ek, rn, if_pos yD]
      refine po_bind (Q := fun r : Hp => (N3 f s r ∧ (r.2.1 28 4).toInt = (st : Nat) ∧ (r.2.1 28 5).toInt = (kE f s st : Nat) ∧ r.2.1 28 3 = cS f s st ∧ (cS f s st = 2 → r.2.1 28 6 = (kK f s st).2)) ∧ FW Wrd h r) ?_ fun r er => po_ret er
      unfold f_X3_advanceNumber
      refine po_ck (p3_advanceNumber_L0 (h0 := h) (en := kE f s st) (st := h2.2.1 28 4) (fun h3 N3' F3 A3 B3 => ?_) n k (st + 1) h2 (by omega) eE N2 F2 B2 rfl)
      have B4 : (h3.2.1 28 4).toInt = st := by rw [B3]; exact A2
      unfold f_X3_advanceNumber_J38
      have es : (h3.2.1 28 5 - h3.2.1 28 4).toInt = (kE f s st - st : Nat) := by
        rw [i_sub (by omega) (by omega)]; omega
      have ok := num_ok ls yD
      have l1 : (1 : Int32).toInt = 1 := rfl
      have l2 : (2 : Int32).toInt = 2 := rfl
      have eV : (kK f s st).2 = vc f s st := by unfold kK; rw [if_pos ls, if_neg nL, if_pos yD]
      have eS : cS f s st = if kE f s st - st = 1 ∨ kE f s st - st = 2 ∧ bt f st ≠ 48 then 2 else 4 := by unfold cS; rw [if_pos ls, if_neg c59, if_neg nL, if_pos yD]
      -- the end, with a sort
      have fin : ∀ w : Int32, w = cS f s st → PO (fun r : Hp => (N3 f s r ∧ (r.2.1 28 4).toInt = (st : Nat) ∧ (r.2.1 28 5).toInt = (kE f s st : Nat) ∧ r.2.1 28 3 = cS f s st ∧ (cS f s st = 2 → r.2.1 28 6 = (kK f s st).2)) ∧ FW Wrd h r) (f_X3_advanceNumber_J90 n 28 (bt f st - 48) (h3.2.1 28 5 - h3.2.1 28 4) 28 w h3) := by
        intro w ew
        unfold f_X3_advanceNumber_J90
        refine po_pI ?_
        have N4 := N3'.pI (j := 3) (v := w) (by omega)
        have last : ∀ x : Int32, (cS f s st = 2 → x = vc f s st) → PO (fun r : Hp => (N3 f s r ∧ (r.2.1 28 4).toInt = (st : Nat) ∧ (r.2.1 28 5).toInt = (kE f s st : Nat) ∧ r.2.1 28 3 = cS f s st ∧ (cS f s st = 2 → r.2.1 28 6 = (kK f s st).2)) ∧ FW Wrd h r) (f_X3_advanceNumber_J121 n 28 x (sI h3 28 3 w)) := by
          intro x ex
          unfold f_X3_advanceNumber_J121
          refine po_pI (po_ret ⟨⟨N4.pI (by omega), ?_, ?_, ?_, ?_⟩, (F3.sI ⟨rfl, by omega, by omega⟩).sI ⟨rfl, by omega, by omega⟩⟩)
          · rw [rdI_ne (by omega), rdI_ne (by omega)]; exact B4
          · rw [rdI_ne (by omega), rdI_ne (by omega)]; exact A3
          · rw [rdI_ne (by omega), rdI_eq, ew]
          · intro z; rw [rdI_eq, eV]; exact ex z
        refine po_eq (fun d => ?_) fun d => ?_
        · exact last _ fun z => (ok.2.1 (by omega)).symm
        · refine po_gI (po_byteAt (p := st + 1) N4 (by rw [rdI_ne (by omega), inc1 (by omega)]; omega) ?_)
          refine last _ fun z => ?_
          have z2 : kE f s st - st = 2 := by
            rw [eS] at z
            by_cases y : kE f s st - st = 1 ∨ kE f s st - st = 2 ∧ bt f st ≠ 48
            · omega
            · rw [if_neg y] at z; exact absurd z (by decide)
          show (bt f st - 48) * 10 + (if st + 1 < s then bt f (st + 1) else -9) - 48 = _
          rw [if_pos (by omega), ok.2.2 z2]
      refine po_gI (po_byteAt N3' B4 (po_gI (po_gI ?_)))
      rw [if_pos ls]
      have x48 : (bt f st - 48 = 0) ↔ bt f st = 48 := by
        constructor
        · intro z
          have z2 := congrArg (· + 48) z
          simpa using z2
        · intro z; rw [z]; rfl
      refine po_eq (fun d => ?_) fun d => po_eq (fun d2 => po_ite (fun d3 => ?_) fun d3 => ?_) fun d2 => ?_
      · have d : (h3.2.1 28 5 - h3.2.1 28 4).toInt = (1 : Int) := d
        exact fin 2 (by rw [eS, if_pos (Or.inl (by omega))])
      · have d3 : bt f st - 48 = 0 := d3
        have d : ¬ (h3.2.1 28 5 - h3.2.1 28 4).toInt = (1 : Int) := d
        exact fin 4 (by rw [eS, if_neg (fun z => z.elim (fun z => by omega) fun z => z.2 (x48.mp d3))])
      · have d3 : ¬ bt f st - 48 = 0 := d3
        have d2 : (h3.2.1 28 5 - h3.2.1 28 4).toInt = (2 : Int) := d2
        exact fin 2 (by rw [eS, if_pos (Or.inr ⟨by omega, fun z => d3 (x48.mpr z)⟩)])
      · have d : ¬ (h3.2.1 28 5 - h3.2.1 28 4).toInt = (1 : Int) := d
        have d2 : ¬ (h3.2.1 28 5 - h3.2.1 28 4).toInt = (2 : Int) := d2
        exact fin 4 (by rw [eS, if_neg (fun z => by omega)])
    · have eE : kE f s st = rn isL f k (st + 1) := by unfold kE; rw [if_pos ls, if_pos yL, ek, rn, if_pos yL]
      refine po_bind (Q := fun r : Hp => (N3 f s r ∧ (r.2.1 28 4).toInt = (st : Nat) ∧ (r.2.1 28 5).toInt = (kE f s st : Nat) ∧ r.2.1 28 3 = cS f s st ∧ (cS f s st = 2 → r.2.1 28 6 = (kK f s st).2)) ∧ FW Wrd h r) ?_ fun r er => po_ret er
      unfold f_X3_advanceLetters
      refine po_ck (p3_advanceLetters_L0 (h0 := h) (en := kE f s st) (st := h2.2.1 28 4) (fun h3 N3' F3 A3 B3 => ?_) n k (st + 1) h2 (by omega) eE N2 F2 B2 rfl)
      unfold f_X3_advanceLetters_J38
      have eS : cS f s st = 1 := by unfold cS; rw [if_pos ls, if_neg c59, if_pos yL]
      refine po_pI (po_ret ⟨⟨N3'.pI (by omega), ?_, ?_, ?_, ?_⟩, F3.sI ⟨rfl, by omega, by omega⟩⟩)
      · rw [rdI_ne (by omega), B3]; exact A2
      · rw [rdI_ne (by omega)]; exact A3
      · rw [rdI_eq, eS]
      · intro z; rw [eS] at z; exact absurd z (by decide)
  · have c : (h2.2.1 28 1).toInt ≤ (h2.2.1 28 4).toInt := c
    have ls : ¬ st < s := by omega
    have eS : cS f s st = 0 := by unfold cS; rw [if_neg ls]
    refine po_pI (po_gI (po_pI (po_ret ⟨⟨(N2.pI (by omega)).pI (by omega), ?_, ?_, ?_, ?_⟩, (F2.sI ⟨rfl, by omega, by omega⟩).sI ⟨rfl, by omega, by omega⟩⟩)))
    · rw [rdI_ne (by omega), rdI_ne (by omega)]; exact A2
    · rw [rdI_eq, rdI_ne (by omega), a2]; unfold kE; rw [if_neg ls]
    · rw [rdI_ne (by omega), rdI_eq, eS]
    · intro z; rw [eS] at z; exact absurd z (by decide)
/-! words -/
theorem po_sLen {β : Type} {P : β → Prop} {w : Nat} {k : Int32 → Option β} (hw : w < 14) (K : PO P (k (Int32.ofNat (sbyt.getD w []).length))) : PO P ((sLen (10000 + w)).bind k) := by
  unfold sLen
  rw [if_pos (by omega), show 10000 + w - 10000 = w by omega, show slen.getD w 0 = (sbyt.getD w []).length from (by decide +kernel : ∀ w, w < 14 → slen.getD w 0 = (sbyt.getD w []).length) w hw]
  exact K
theorem po_sChr {β : Type} {P : β → Prop} {w i : Nat} {v : Int32} {k : Int32 → Option β} (hw : w < 14) (hv : v.toInt = i) (K : PO P (k ((sbyt.getD w []).getD i 0))) : PO P ((sChr (10000 + w) v).bind k) := by
  unfold sChr
  rw [show 10000 + w - 10000 = w by omega, show v.toNatClampNeg = i by rw [cl_i]; omega]
  by_cases c : (10000 ≤ 10000 + w ∧ 10000 + w < 10014) ∧ inb v (slen.getD w 0) = true
  · rw [if_pos c]; exact K
  · rw [if_neg c]; exact po_none
theorem sbyt_6 {w : Nat} (hw : w < 14) : (sbyt.getD w []).length ≤ 6 := (by decide +kernel : ∀ w, w < 14 → (sbyt.getD w []).length ≤ 6) w hw
theorem p3_isName_L28 {f : Nat → Int32} {s st w : Nat} {h : Hp} (hw : w < 14) (N : N3 f s h) (A : (h.2.1 28 4).toInt = st) (G : st + (sbyt.getD w []).length ≤ s) : ∀ (n k i : Nat) (v : Int32), i + k = (sbyt.getD w []).length → v.toInt = i → PO (fun r => r = (if wq f st i ((sbyt.getD w []).drop i) = true then 1 else 0, h)) (f_X3_isName_L28 n 28 (10000 + w) v h) := by
  intro n
  induction n with
  | zero => intros; exact po_none
  | succ n ih =>
    intro k i v e ev
    rw [f_X3_isName_L28]
    have h6 := sbyt_6 hw
    have hs' := N.2.2.1
    have el : (Int32.ofNat (sbyt.getD w []).length).toInt = (sbyt.getD w []).length := Int32.toInt_ofNat_of_lt (by omega)
    refine po_sLen hw (po_le (fun c => ?_) fun c => ?_)
    · rw [show i = (sbyt.getD w []).length by omega, List.drop_length]
      exact po_zr rfl
    · have hi : i < (sbyt.getD w []).length := by omega
      rw [List.drop_eq_getElem_cons hi, wq]
      have eg : (sbyt.getD w []).getD i 0 = (sbyt.getD w [])[i] := by
        rw [List.getD_eq_getElem?_getD, List.getElem?_eq_getElem hi]; rfl
      refine po_gI (po_byteAt (p := st + i) N (by rw [i_add (by omega) (by omega)]; omega) (po_sChr hw ev ?_))
      rw [if_pos (by omega : st + i < s), eg]
      refine po_ite (fun d => ?_) fun d => ?_
      · have d : bt f (st + i) = (sbyt.getD w [])[i] := d
        rw [decide_eq_true d, Bool.true_and]
        exact ih (k - 1) (i + 1) (v + 1) (by omega) (by rw [inc1 (by omega)]; omega)
      · have d : ¬ bt f (st + i) = (sbyt.getD w [])[i] := d
        rw [decide_eq_false d, Bool.false_and]
        exact po_zr rfl
theorem po_isName {β : Type} {P : β → Prop} {f : Nat → Int32} {s p n v : Nat} {h : Hp} {k : Int32 × Hp → Option β} (w : Nat) (ev : v = 10000 + w) (hw : w < 14) (R : RC f s p h) (hp : p ≤ s) (K1 : kK f s (tS f s p) = wkL.getD w (0, 0) → PO P (k (1, h))) (K0 : ¬ kK f s (tS f s p) = wkL.getD w (0, 0) → PO P (k (0, h))) : PO P ((f_X3_isName n 28 v h).bind k) := by
  have g := tS_rg (f := f) hp
  have kg := kE_rg (f := f) (s := s) (st := tS f s p) g.2
  have h6 := sbyt_6 hw
  obtain ⟨N, A, B, S, _⟩ := R
  have hs' := N.2.2.1
  rw [← nm hw g.2] at K0 K1
  unfold tE at B
  generalize tS f s p = st at *
  refine po_bind (Q := fun r => r = (if cS f s st = 1 ∧ kE f s st - st = (sbyt.getD w []).length ∧ wq f st 0 (sbyt.getD w []) = true then 1 else 0, h)) ?_ fun r er => ?_
  · rw [ev]
    unfold f_X3_isName
    refine po_ck (po_gI ?_)
    rw [S]
    refine po_ite (fun c => po_gI (po_gI (po_sLen hw (po_eq (fun d => ?_) fun d => ?_)))) fun c => po_zr ?_
    · have c : cS f s st = 1 := c
      have es : (h.2.1 28 5 - h.2.1 28 4).toInt = (kE f s st - st : Nat) := by rw [i_sub (by omega) (by omega)]; omega
      have el : (Int32.ofNat (sbyt.getD w []).length).toInt = (sbyt.getD w []).length := Int32.toInt_ofNat_of_lt (by omega)
      have dl : kE f s st - st = (sbyt.getD w []).length := by omega
      refine (p3_isName_L28 hw N A (by omega) n (sbyt.getD w []).length 0 0 (by omega) rfl).w fun r er => ?_
      rw [er, List.drop_zero]
      by_cases y : wq f st 0 (sbyt.getD w []) = true
      · rw [if_pos y, if_pos ⟨c, dl, y⟩]
      · rw [if_neg y, if_neg (fun z => y z.2.2)]
    · have es : (h.2.1 28 5 - h.2.1 28 4).toInt = (kE f s st - st : Nat) := by rw [i_sub (by omega) (by omega)]; omega
      have el : (Int32.ofNat (sbyt.getD w []).length).toInt = (sbyt.getD w []).length := Int32.toInt_ofNat_of_lt (by omega)
      refine po_zr ?_
      rw [if_neg (fun z => by have := z.2.1; omega)]
    · have c : ¬ cS f s st = 1 := c
      rw [if_neg (fun z => c z.1)]
  · rw [er]
    by_cases y : cS f s st = 1 ∧ kE f s st - st = (sbyt.getD w []).length ∧ wq f st 0 (sbyt.getD w []) = true
    · rw [if_pos y]; exact K1 y
    · rw [if_neg y]; exact K0 y
