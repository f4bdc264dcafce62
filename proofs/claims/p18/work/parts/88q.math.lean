/-! DAYS AHEAD: runs and falls, over plain numbers; 1000 is never -/
def lea (p : Nat → Bool) (g : Nat → Nat) : Nat → Nat → Nat
  | 0, _ => 1000
  | m + 1, e => if p e = true then min (g e) (lea p g m (e + 1)) else lea p g m (e + 1)
theorem lea_le (p : Nat → Bool) (g : Nat → Nat) : ∀ m e, lea p g m e ≤ 1000 := by
  intro m
  induction m with
  | zero => intro e; exact Nat.le_refl _
  | succ m ih =>
    intro e
    unfold lea
    have := ih (e + 1)
    by_cases c : p e = true
    · rw [if_pos c]; omega
    · rw [if_neg c]; exact this
theorem le_lea {p : Nat → Bool} {g : Nat → Nat} {z : Nat} (hz : z ≤ 1000) : ∀ m e, z ≤ lea p g m e ↔ ∀ x, e ≤ x → x < e + m → p x = true → z ≤ g x := by
  intro m
  induction m with
  | zero => intro e; exact ⟨fun _ x a b => by omega, fun _ => hz⟩
  | succ m ih =>
    intro e
    have k := ih (e + 1)
    unfold lea
    by_cases c : p e = true
    · rw [if_pos c]
      constructor
      · intro y x a b q
        by_cases d : x = e
        · rw [d]; omega
        · exact k.mp (by omega) x (by omega) (by omega) q
      · intro y
        have y0 := y e (Nat.le_refl _) (by omega) c
        have y1 := k.mpr fun x a b q => y x (by omega) (by omega) q
        omega
    · rw [if_neg c]
      constructor
      · intro y x a b q
        by_cases d : x = e
        · rw [d] at q; exact absurd q c
        · exact k.mp y x (by omega) (by omega) q
      · intro y
        exact k.mpr fun x a b q => y x (by omega) (by omega) q
theorem le_mnK {a b c : Nat} : a ≤ min b c ↔ a ≤ b ∧ a ≤ c := by omega
theorem eq_le {a b : Nat} (ha : a ≤ 1000) (hb : b ≤ 1000) (h : ∀ z, z ≤ 1000 → (z ≤ a ↔ z ≤ b)) : a = b := Nat.le_antisymm ((h a ha).mp (Nat.le_refl _)) ((h b hb).mpr (Nat.le_refl _))
section
variable (N n : Nat) (c : Nat → Nat → Nat) (fa : Nat → Nat → Nat → Bool) (t : Nat → Nat) (w : Nat → Option Nat)
/-- the least of the rest of a run, m of its steps being left, the first of these on a day -/
def RR : Nat → Nat → Nat
  | 0, _ => 1000
  | m + 1, d => min 1000 (c (n - (m + 1)) d + (if m = 0 then t d else lea (fa (n - m) d) (RR m) (N - d) d))
def Rr (k d : Nat) : Nat := RR N n c fa t (n - k) d
def Ss (k l f : Nat) : Nat := lea (fa k l) (Rr N n c fa t k) (N - f) f
/-- anew, behind a fall for want of a step -/
def Aa (k l : Nat) : Nat := match w k with
  | none => 1000
  | some x => Ss N n c fa t 0 0 (l + x + 1)
def GG : Nat → Nat → Nat → Nat
  | 0, _, _ => 1000
  | m + 1, l, f => min (Aa N n c fa t w (n - (m + 1)) l) (if m = 0 then 1000 else lea (fa (n - (m + 1)) l) (fun e => min 1000 (c (n - (m + 1)) e + GG m e e)) (N - f) f)
def Gg (k l f : Nat) : Nat := GG N n c fa t w (n - k) l f
def Vv (k l f : Nat) : Nat := if k = 0 then Ss N n c fa t 0 0 f else min (Ss N n c fa t k l f) (Gg N n c fa t w k l f)
variable {N n c fa t w}
theorem Rr_eq {k d : Nat} (hk : k < n) : Rr N n c fa t k d = min 1000 (c k d + (if k + 1 = n then t d else Ss N n c fa t (k + 1) d d)) := by
  obtain ⟨m, hm⟩ : ∃ m, n - k = m + 1 := ⟨n - k - 1, by omega⟩
  unfold Rr Ss
  rw [hm]
  show min 1000 (c (n - (m + 1)) d + (if m = 0 then t d else lea (fa (n - m) d) (RR N n c fa t m) (N - d) d)) = _
  rw [show n - (m + 1) = k by omega]
  by_cases z : m = 0
  · rw [if_pos z, if_pos (by omega)]
  · rw [if_neg z, if_neg (by omega), show n - m = k + 1 by omega]
    have e : RR N n c fa t m = Rr N n c fa t (k + 1) := by
      funext x
      unfold Rr
      rw [show n - (k + 1) = m by omega]
    rw [e]
theorem Rr_le {k d : Nat} (hk : k < n) : Rr N n c fa t k d ≤ 1000 := by rw [Rr_eq hk]; omega
theorem Ss_le {k l f : Nat} : Ss N n c fa t k l f ≤ 1000 := lea_le _ _ _ _
theorem le_Ss {k l f z : Nat} (hz : z ≤ 1000) : z ≤ Ss N n c fa t k l f ↔ ∀ x, f ≤ x → x < N → fa k l x = true → z ≤ Rr N n c fa t k x := by
  unfold Ss
  rw [le_lea hz]
  exact ⟨fun y x a b q => y x a (by omega) q, fun y x a b q => y x a (by omega) q⟩
theorem Ss_mono {k l f g : Nat} (h : f ≤ g) : Ss N n c fa t k l f ≤ Ss N n c fa t k l g := by
  rw [le_Ss Ss_le]
  intro x a b q
  exact (le_Ss Ss_le).mp (Nat.le_refl _) x (by omega) b q
theorem Aa_le {k l : Nat} : Aa N n c fa t w k l ≤ 1000 := by
  unfold Aa
  split
  · exact Nat.le_refl _
  · exact Ss_le
theorem Gg_eq {k l f : Nat} (hk : k < n) : Gg N n c fa t w k l f = min (Aa N n c fa t w k l) (if k + 1 = n then 1000 else lea (fa k l) (fun e => min 1000 (c k e + Gg N n c fa t w (k + 1) e e)) (N - f) f) := by
  obtain ⟨m, hm⟩ : ∃ m, n - k = m + 1 := ⟨n - k - 1, by omega⟩
  unfold Gg
  rw [hm]
  show min (Aa N n c fa t w (n - (m + 1)) l) (if m = 0 then 1000 else lea (fa (n - (m + 1)) l) (fun e => min 1000 (c (n - (m + 1)) e + GG N n c fa t w m e e)) (N - f) f) = _
  rw [show n - (m + 1) = k by omega]
  by_cases z : m = 0
  · rw [if_pos z, if_pos (by omega)]
  · rw [if_neg z, if_neg (by omega), show n - (k + 1) = m by omega]
theorem Gg_le {k l f : Nat} (hk : k < n) : Gg N n c fa t w k l f ≤ 1000 := by
  rw [Gg_eq hk]
  have := Aa_le (N := N) (n := n) (c := c) (fa := fa) (t := t) (w := w) (k := k) (l := l)
  omega
theorem le_Gg {k l f z : Nat} (hk : k < n) (hz : z ≤ 1000) : z ≤ Gg N n c fa t w k l f ↔ z ≤ Aa N n c fa t w k l ∧ (k + 1 < n → ∀ x, f ≤ x → x < N → fa k l x = true → z ≤ c k x + Gg N n c fa t w (k + 1) x x) := by
  rw [Gg_eq hk, le_mnK]
  refine and_congr_right fun _ => ?_
  by_cases e : k + 1 = n
  · rw [if_pos e]
    exact ⟨fun _ y => by omega, fun _ => hz⟩
  · rw [if_neg e, le_lea hz]
    constructor
    · intro y _ x a b q
      have := y x a (by omega) q
      omega
    · intro y x a b q
      have := y (by omega) x a (by omega) q
      omega
theorem Vv_le {k l f : Nat} : Vv N n c fa t w k l f ≤ 1000 := by
  unfold Vv
  have a := Ss_le (N := N) (n := n) (c := c) (fa := fa) (t := t) (k := k) (l := l) (f := f)
  have b := Ss_le (N := N) (n := n) (c := c) (fa := fa) (t := t) (k := 0) (l := 0) (f := f)
  by_cases z : k = 0
  · rw [if_pos z]; exact b
  · rw [if_neg z]; omega
variable (f0 : ∀ l d, fa 0 l d = true) (fle : ∀ k l d, ¬ k = 0 → fa k l d = true → l ≤ d) (fw : ∀ k l d x, ¬ k = 0 → w k = some x → fa k l d = true → d ≤ l + x)
theorem Gg_ge (fle : ∀ k l d, ¬ k = 0 → fa k l d = true → l ≤ d) : ∀ (m k l f : Nat), n - k = m → ¬ k = 0 → k < n → Ss N n c fa t 0 0 (l + 1) ≤ Gg N n c fa t w k l f := by
  intro m
  induction m with
  | zero => intro k l f a b; omega
  | succ m ih =>
    intro k l f hm h0 hk
    rw [le_Gg hk Ss_le]
    constructor
    · unfold Aa
      split
      · exact Ss_le
      · exact Ss_mono (by omega)
    · intro h1 x a b q
      have le := fle k l x h0 q
      have r := ih (k + 1) x x (by omega) (by omega) h1
      have s := Ss_mono (N := N) (n := n) (c := c) (fa := fa) (t := t) (k := 0) (l := 0) (f := l + 1) (g := x + 1) (by omega)
      omega
/-- a day of it -/
theorem V_day {k l d : Nat} (h0 : ¬ k = 0) (hk : k < n) (hd : d < N) : Vv N n c fa t w k l d = min (Vv N n c fa t w k l (d + 1)) (if fa k l d = true then min 1000 (c k d + (if k + 1 = n then t d else Vv N n c fa t w (k + 1) d d)) else 1000) := by
  have h1 : ¬ k + 1 = 0 := by omega
  refine eq_le Vv_le ?_ fun z hz => ?_
  · have := Vv_le (N := N) (n := n) (c := c) (fa := fa) (t := t) (w := w) (k := k) (l := l) (f := d + 1)
    omega
  unfold Vv
  rw [if_neg h0, if_neg h0, if_neg h1]
  rw [le_mnK, le_mnK, le_mnK, le_Ss hz, le_Gg hk hz, le_Ss hz, le_Gg hk hz]
  have key : fa k l d = true → (z ≤ min 1000 (c k d + (if k + 1 = n then t d else min (Ss N n c fa t (k + 1) d d) (Gg N n c fa t w (k + 1) d d))) ↔ z ≤ Rr N n c fa t k d ∧ (k + 1 < n → z ≤ c k d + Gg N n c fa t w (k + 1) d d)) := by
    intro _
    rw [Rr_eq hk]
    by_cases e : k + 1 = n
    · rw [if_pos e, if_pos e]
      exact ⟨fun y => ⟨y, fun x => by omega⟩, fun y => y.1⟩
    · rw [if_neg e, if_neg e]
      constructor
      · intro y
        exact ⟨by omega, fun _ => by omega⟩
      · intro y
        have y2 := y.2 (by omega)
        have y1 := y.1
        omega
  by_cases q : fa k l d = true
  · rw [if_pos q, key q]
    constructor
    · intro ⟨a, b, e⟩
      exact ⟨⟨fun x u v y => a x (by omega) v y, b, fun h x u v y => e h x (by omega) v y⟩, a d (Nat.le_refl _) hd q, fun h => e h d (Nat.le_refl _) hd q⟩
    · intro ⟨⟨a, b, e⟩, g, i⟩
      refine ⟨fun x u v y => ?_, b, fun h x u v y => ?_⟩
      · by_cases z : x = d
        · rw [z]; exact g
        · exact a x (by omega) v y
      · by_cases z : x = d
        · rw [z]; exact i h
        · exact e h x (by omega) v y
  · rw [if_neg q]
    constructor
    · intro ⟨a, b, e⟩
      exact ⟨⟨fun x u v y => a x (by omega) v y, b, fun h x u v y => e h x (by omega) v y⟩, hz⟩
    · intro ⟨⟨a, b, e⟩, _⟩
      refine ⟨fun x u v y => ?_, b, fun h x u v y => ?_⟩
      · by_cases z : x = d
        · rw [z] at y; exact absurd y q
        · exact a x (by omega) v y
      · by_cases z : x = d
        · rw [z] at y; exact absurd y q
        · exact e h x (by omega) v y
theorem V_day0 {d : Nat} (f0 : ∀ l d, fa 0 l d = true) (fle : ∀ k l d, ¬ k = 0 → fa k l d = true → l ≤ d) (hn : 0 < n) (hd : d < N) : Vv N n c fa t w 0 0 d = min (Vv N n c fa t w 0 0 (d + 1)) (min 1000 (c 0 d + (if 1 = n then t d else Vv N n c fa t w 1 d d))) := by
  refine eq_le Vv_le ?_ fun z hz => ?_
  · omega
  have v1 : Vv N n c fa t w 1 d d = min (Ss N n c fa t 1 d d) (Gg N n c fa t w 1 d d) := if_neg (by decide)
  have v0 : ∀ f, Vv N n c fa t w 0 0 f = Ss N n c fa t 0 0 f := fun f => if_pos rfl
  rw [v0, v0, v1, le_mnK, le_Ss hz, le_Ss hz]
  have r := Rr_eq (N := N) (n := n) (c := c) (fa := fa) (t := t) (k := 0) (d := d) hn
  simp only [Nat.zero_add] at r
  constructor
  · intro a
    refine ⟨fun x u v y => a x (by omega) v y, ?_⟩
    have a0 := a d (Nat.le_refl _) hd (f0 0 d)
    rw [r] at a0
    by_cases e : 1 = n
    · rw [if_pos e] at a0 ⊢; exact a0
    · rw [if_neg e] at a0 ⊢
      have g := Gg_ge (N := N) (c := c) (t := t) (w := w) fle (n - 1) 1 d d rfl (by decide) (by omega)
      have s : z ≤ Ss N n c fa t 0 0 (d + 1) := (le_Ss hz).mpr fun x u v y => a x (by omega) v y
      omega
  · intro ⟨a, b⟩ x u v y
    by_cases q : x = d
    · rw [q, r]
      by_cases e : 1 = n
      · rw [if_pos e] at b ⊢; exact b
      · rw [if_neg e] at b ⊢
        omega
    · exact a x (by omega) v y
/-- on the day on which it has fallen back -/
theorem V_fell {k l f x : Nat} (fw : ∀ k l d x, ¬ k = 0 → w k = some x → fa k l d = true → d ≤ l + x) (h0 : ¬ k = 0) (hk : k < n) (hw : w k = some x) (e : f = l + x + 1) : Vv N n c fa t w k l f = Vv N n c fa t w 0 0 f := by
  unfold Vv
  rw [if_neg h0, if_pos rfl]
  have no : ∀ y, f ≤ y → ¬ fa k l y = true := fun y a q => by
    have := fw k l y x h0 hw q
    omega
  refine eq_le ?_ Ss_le fun z hz => ?_
  · have := Ss_le (N := N) (n := n) (c := c) (fa := fa) (t := t) (k := k) (l := l) (f := f)
    omega
  rw [le_mnK, le_Ss hz, le_Gg hk hz]
  have a : Aa N n c fa t w k l = Ss N n c fa t 0 0 f := by
    unfold Aa
    rw [hw, e]
  rw [a]
  exact ⟨fun y => y.2.1, fun y => ⟨fun u b _ q => absurd q (no u b), y, fun _ u b _ q => absurd q (no u b)⟩⟩
/-- forward: what the steps from the next one on have cost -/
def SP (c : Nat → Nat → Nat) (fa : Nat → Nat → Nat → Bool) (k l f : Nat) : Nat → Nat → Nat
  | 0, d => min 1000 (c k d + (if fa k l d = true then 0 else 1000))
  | j + 1, d => min 1000 (c (k + j + 1) d + lea (fun e => fa (k + j + 1) e d) (SP c fa k l f j) (d + 1 - f) f)
theorem SP_le {k l f j d : Nat} : SP c fa k l f j d ≤ 1000 := by
  cases j with
  | zero => show min 1000 _ ≤ 1000; omega
  | succ j => show min 1000 _ ≤ 1000; omega
theorem sp_step {k l f z : Nat} (fle : ∀ k l d, ¬ k = 0 → fa k l d = true → l ≤ d) (hz : z ≤ 1000) (j : Nat) (hj : k + j + 1 < n) : (∀ d, f ≤ d → d < N → z ≤ SP c fa k l f j d + Gg N n c fa t w (k + j + 1) d d) ↔ (∀ d, f ≤ d → d < N → z ≤ SP c fa k l f j d + Aa N n c fa t w (k + j + 1) d) ∧ (k + j + 2 < n → ∀ d, f ≤ d → d < N → z ≤ SP c fa k l f (j + 1) d + Gg N n c fa t w (k + j + 2) d d) := by
  have e : ∀ a b : Nat, z ≤ a + b ↔ z - a ≤ b := fun a b => by omega
  have G : ∀ d, z ≤ SP c fa k l f j d + Gg N n c fa t w (k + j + 1) d d ↔ z ≤ SP c fa k l f j d + Aa N n c fa t w (k + j + 1) d ∧ (k + j + 2 < n → ∀ x, d ≤ x → x < N → fa (k + j + 1) d x = true → z ≤ SP c fa k l f j d + (c (k + j + 1) x + Gg N n c fa t w (k + j + 2) x x)) := fun d => by
    rw [e, le_Gg hj (by omega), e]
    refine and_congr_right fun _ => ?_
    constructor
    · intro y h x a b q
      rw [e]; exact y h x a b q
    · intro y h x a b q
      rw [← e]; exact y h x a b q
  have S : ∀ d g, z ≤ SP c fa k l f (j + 1) d + g ↔ ∀ x, f ≤ x → x < d + 1 → fa (k + j + 1) x d = true → z ≤ SP c fa k l f j x + (c (k + j + 1) d + g) := fun d g => by
    have s : SP c fa k l f (j + 1) d = min 1000 (c (k + j + 1) d + lea (fun e => fa (k + j + 1) e d) (SP c fa k l f j) (d + 1 - f) f) := rfl
    rw [s]
    have a : z ≤ min 1000 (c (k + j + 1) d + lea (fun e => fa (k + j + 1) e d) (SP c fa k l f j) (d + 1 - f) f) + g ↔ z - (c (k + j + 1) d + g) ≤ lea (fun e => fa (k + j + 1) e d) (SP c fa k l f j) (d + 1 - f) f := by omega
    rw [a, le_lea (by omega)]
    constructor
    · intro y x u v q
      have := y x u (by omega) q
      omega
    · intro y x u v q
      have := y x u (by omega) q
      omega
  constructor
  · intro y
    refine ⟨fun d a b => ((G d).mp (y d a b)).1, fun h d a b => (S d _).mpr fun x u v q => ?_⟩
    exact ((G x).mp (y x u (by omega))).2 h d (fle _ _ _ (by omega) q) b q
  · intro ⟨y, g⟩ d a b
    refine (G d).mpr ⟨y d a b, fun h x u v q => ?_⟩
    exact (S x _).mp (g h x (by omega) v) d a (by omega) q
theorem sp_all {k l f z : Nat} (fle : ∀ k l d, ¬ k = 0 → fa k l d = true → l ≤ d) (hz : z ≤ 1000) : ∀ (m j : Nat), n - (k + j + 1) = m → k + j + 1 < n → ((∀ d, f ≤ d → d < N → z ≤ SP c fa k l f j d + Gg N n c fa t w (k + j + 1) d d) ↔ ∀ i, j ≤ i → k + i + 1 < n → ∀ d, f ≤ d → d < N → z ≤ SP c fa k l f i d + Aa N n c fa t w (k + i + 1) d) := by
  intro m
  induction m with
  | zero => intro j a b; omega
  | succ m ih =>
    intro j hm hj
    rw [sp_step fle hz j hj]
    constructor
    · intro ⟨a, b⟩ i hi h
      by_cases e : i = j
      · rw [e]; exact a
      · exact (ih (j + 1) (by omega) (by omega)).mp (b (by omega)) i (by omega) h
    · intro a
      exact ⟨a j (Nat.le_refl _) hj, fun h => (ih (j + 1) (by omega) (by omega)).mpr fun i hi h2 => a i (by omega) h2⟩
/-- falls, as they are counted forward -/
theorem G_fwd {k l f z : Nat} (fle : ∀ k l d, ¬ k = 0 → fa k l d = true → l ≤ d) (hz : z ≤ 1000) (hk : k < n) : z ≤ Gg N n c fa t w k l f ↔ z ≤ Aa N n c fa t w k l ∧ ∀ i, k + i + 1 < n → ∀ d, f ≤ d → d < N → z ≤ SP c fa k l f i d + Aa N n c fa t w (k + i + 1) d := by
  rw [le_Gg hk hz]
  refine and_congr_right fun _ => ?_
  by_cases h1 : k + 1 < n
  · have s := sp_all (N := N) (n := n) (c := c) (t := t) (w := w) (k := k) (l := l) (f := f) fle hz (n - (k + 0 + 1)) 0 rfl h1
    have b : (k + 1 < n → ∀ x, f ≤ x → x < N → fa k l x = true → z ≤ c k x + Gg N n c fa t w (k + 1) x x) ↔ ∀ d, f ≤ d → d < N → z ≤ SP c fa k l f 0 d + Gg N n c fa t w (k + 0 + 1) d d := by
      constructor
      · intro y d a b
        show z ≤ min 1000 (c k d + (if fa k l d = true then 0 else 1000)) + Gg N n c fa t w (k + 1) d d
        by_cases q : fa k l d = true
        · rw [if_pos q]
          have := y h1 d a b q
          omega
        · rw [if_neg q]; omega
      · intro y _ d a b q
        have y : z ≤ min 1000 (c k d + (if fa k l d = true then 0 else 1000)) + Gg N n c fa t w (k + 1) d d := y d a b
        rw [if_pos q] at y
        omega
    rw [b, s]
    exact ⟨fun y i h => y i (Nat.zero_le _) h, fun y i _ h => y i h⟩
  · exact ⟨fun _ i h => by omega, fun _ h => absurd h h1⟩
end
