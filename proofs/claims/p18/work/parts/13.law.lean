/-! THE LAW, over the layer (by program: wip/gen, but for its first rows) -/
def scr (L : Nat) (xs : Nat → Int32) (i : Int32) : Option Int32 := if inb i L = true then some (xs i.toNatClampNeg) else none
def Scr (X : Cx) (G : Gc) (L : Nat) (xs : Nat → Int32) : Prop := va_X (G.2.2.2.1 9999) L xs (xS X) (xS X).heap ∧ G.2.2.2.1 9999 < (xS X).heap.size ∧ ¬ AG G (G.2.2.2.1 9999)
theorem adG_scr (G : Gc) : adG G 19999 = G.2.2.2.1 9999 := by
  unfold adG
  rw [if_neg (by decide), if_pos (by decide)]
theorem zr_no {v : Int32} {h : Hp} {out : Int32 × Hp} (hv : ¬ v = 1) (e : zr v h = some out) : ¬ out.1 = 1 := by
  obtain ⟨-, e2⟩ := ite_some e
  cases e2
  exact hv
section ROWS9
variable {X : Cx} {G : Gc} {cc : ByteArray} {own nm : String} {nL : Nat} {ret : Option FieldType} {d mc ms : Nat} {Q : State → Prop} {n k pc : Nat} {lv : List (Nat × Value)} {st : List Value} {h : Hp}
theorem r_scrld (C : Ok X G cc own nm nL ret d mc ms) {L : Nat} {xs : Nat → Int32} {i v : Int32} (SX : Scr X G L xs) (hd : decode cc pc = .ok (.iaload, 1)) (e : scr L xs i = some v) (K : At X G Q n k (pc + 1) lv (.int v :: st) h) : At X G Q n k pc lv (.int i :: .ref 19999 :: st) h := by
  obtain ⟨e1, e2⟩ := ite_some e
  cases e2
  intro H locs ls M S L'
  have K' := K H locs ls M S L'
  show WW X H locs n k Q (F0 (xM X) pc ls (.int i :: .ref (adG G 19999) :: st.map (phi G)))
  rw [adG_scr]
  exact va_sld C.1 C.2.1 SX.1 SX.2.1 SX.2.2 S (inb_in e1) hd K'
theorem r_scrlen (C : Ok X G cc own nm nL ret d mc ms) {L : Nat} {xs : Nat → Int32} (SX : Scr X G L xs) (hd : decode cc pc = .ok (.arraylength, 1)) (K : At X G Q n k (pc + 1) lv (.int (Int32.ofNat L) :: st) h) : At X G Q n k pc lv (.ref 19999 :: st) h := by
  intro H locs ls M S L'
  have K' := K H locs ls M S L'
  show WW X H locs n k Q (F0 (xM X) pc ls (.ref (adG G 19999) :: st.map (phi G)))
  rw [adG_scr]
  exact va_slen C.1 C.2.1 SX.1 SX.2.1 SX.2.2 S hd K'
end ROWS9
theorem in_5 (x : Int32) : x + Int32.ofInt 5 = x + 5 := by rw [show Int32.ofInt 5 = 5 by decide]
theorem w_cL_13 : Cond.constantLong RL 13 4294967295 ∈ tg := tk6 (i := 201) (by decide +kernel) rfl
theorem w_lL_15 : Cond.methodLink RL 15 yX7_type ∈ tg := tk2 (i := 80) (by decide +kernel) rfl
theorem w_iX7_type : Cond.instanceMethod yX7_type ∈ tg ∧ Cond.selects (yX7_type).cls yX7_type yX7_type ∈ tg := ⟨tk2 (i := 81) (by decide +kernel) rfl, tk2 (i := 82) (by decide +kernel) rfl⟩
theorem w_lL_19 : Cond.methodLink RL 19 yX8_type ∈ tg := tk5 (i := 147) (by decide +kernel) rfl
theorem w_iX8_type : Cond.instanceMethod yX8_type ∈ tg ∧ Cond.selects (yX8_type).cls yX8_type yX8_type ∈ tg := ⟨tk5 (i := 148) (by decide +kernel) rfl, tk5 (i := 149) (by decide +kernel) rfl⟩
theorem w_lL_20 : Cond.methodLink RL 20 yX7_clear ∈ tg := tk2 (i := 84) (by decide +kernel) rfl
theorem w_iX7_clear : Cond.instanceMethod yX7_clear ∈ tg ∧ Cond.selects (yX7_clear).cls yX7_clear yX7_clear ∈ tg := ⟨tk2 (i := 85) (by decide +kernel) rfl, tk2 (i := 86) (by decide +kernel) rfl⟩
theorem w_lL_24 : Cond.methodLink RL 24 yX8_clear ∈ tg := tk5 (i := 155) (by decide +kernel) rfl
theorem w_iX8_clear : Cond.instanceMethod yX8_clear ∈ tg ∧ Cond.selects (yX8_clear).cls yX8_clear yX8_clear ∈ tg := ⟨tk5 (i := 156) (by decide +kernel) rfl, tk5 (i := 157) (by decide +kernel) rfl⟩
theorem w_lL_25 : Cond.methodLink RL 25 yX7_law ∈ tg := tk2 (i := 88) (by decide +kernel) rfl
theorem w_iX7_law : Cond.instanceMethod yX7_law ∈ tg ∧ Cond.selects (yX7_law).cls yX7_law yX7_law ∈ tg := ⟨tk2 (i := 89) (by decide +kernel) rfl, tk2 (i := 90) (by decide +kernel) rfl⟩
theorem w_lL_28 : Cond.methodLink RL 28 yX8_law ∈ tg := tk5 (i := 159) (by decide +kernel) rfl
theorem w_iX8_law : Cond.instanceMethod yX8_law ∈ tg ∧ Cond.selects (yX8_law).cls yX8_law yX8_law ∈ tg := ⟨tk5 (i := 160) (by decide +kernel) rfl, tk5 (i := 161) (by decide +kernel) rfl⟩
theorem w_lL_29 : Cond.methodLink RL 29 yX7_day ∈ tg := tk3 (i := 41) (by decide +kernel) rfl
theorem w_iX7_day : Cond.instanceMethod yX7_day ∈ tg ∧ Cond.selects (yX7_day).cls yX7_day yX7_day ∈ tg := ⟨tk3 (i := 42) (by decide +kernel) rfl, tk3 (i := 43) (by decide +kernel) rfl⟩
theorem w_lL_33 : Cond.methodLink RL 33 yX8_day ∈ tg := tk5 (i := 195) (by decide +kernel) rfl
theorem w_iX8_day : Cond.instanceMethod yX8_day ∈ tg ∧ Cond.selects (yX8_day).cls yX8_day yX8_day ∈ tg := ⟨tk5 (i := 196) (by decide +kernel) rfl, tk5 (i := 197) (by decide +kernel) rfl⟩
theorem w_lL_34 : Cond.methodLink RL 34 yX7_days ∈ tg := tk3 (i := 61) (by decide +kernel) rfl
theorem w_iX7_days : Cond.instanceMethod yX7_days ∈ tg ∧ Cond.selects (yX7_days).cls yX7_days yX7_days ∈ tg := ⟨tk3 (i := 62) (by decide +kernel) rfl, tk3 (i := 63) (by decide +kernel) rfl⟩
theorem w_lL_38 : Cond.methodLink RL 38 yX8_days ∈ tg := tk5 (i := 207) (by decide +kernel) rfl
theorem w_iX8_days : Cond.instanceMethod yX8_days ∈ tg ∧ Cond.selects (yX8_days).cls yX8_days yX8_days ∈ tg := ⟨tk5 (i := 208) (by decide +kernel) rfl, tk5 (i := 209) (by decide +kernel) rfl⟩
theorem w_lL_39 : Cond.methodLink RL 39 yX7_step ∈ tg := tk3 (i := 68) (by decide +kernel) rfl
theorem w_iX7_step : Cond.instanceMethod yX7_step ∈ tg ∧ Cond.selects (yX7_step).cls yX7_step yX7_step ∈ tg := ⟨tk3 (i := 69) (by decide +kernel) rfl, tk3 (i := 70) (by decide +kernel) rfl⟩
theorem w_lL_42 : Cond.methodLink RL 42 yX8_step ∈ tg := tk5 (i := 211) (by decide +kernel) rfl
theorem w_iX8_step : Cond.instanceMethod yX8_step ∈ tg ∧ Cond.selects (yX8_step).cls yX8_step yX8_step ∈ tg := ⟨tk5 (i := 212) (by decide +kernel) rfl, tk5 (i := 213) (by decide +kernel) rfl⟩
theorem w_lL_43 : Cond.methodLink RL 43 yX7_may ∈ tg := tk3 (i := 77) (by decide +kernel) rfl
theorem w_iX7_may : Cond.instanceMethod yX7_may ∈ tg ∧ Cond.selects (yX7_may).cls yX7_may yX7_may ∈ tg := ⟨tk3 (i := 78) (by decide +kernel) rfl, tk3 (i := 79) (by decide +kernel) rfl⟩
theorem w_lL_47 : Cond.methodLink RL 47 yX8_may ∈ tg := tk5 (i := 222) (by decide +kernel) rfl
theorem w_iX8_may : Cond.instanceMethod yX8_may ∈ tg ∧ Cond.selects (yX8_may).cls yX8_may yX8_may ∈ tg := ⟨tk5 (i := 223) (by decide +kernel) rfl, tk5 (i := 224) (by decide +kernel) rfl⟩
theorem w_lL_48 : Cond.methodLink RL 48 yX7_person ∈ tg := tk3 (i := 101) (by decide +kernel) rfl
theorem w_iX7_person : Cond.instanceMethod yX7_person ∈ tg ∧ Cond.selects (yX7_person).cls yX7_person yX7_person ∈ tg := ⟨tk3 (i := 102) (by decide +kernel) rfl, tk3 (i := 103) (by decide +kernel) rfl⟩
theorem w_lL_52 : Cond.methodLink RL 52 yX8_person ∈ tg := tk5 (i := 238) (by decide +kernel) rfl
theorem w_iX8_person : Cond.instanceMethod yX8_person ∈ tg ∧ Cond.selects (yX8_person).cls yX8_person yX8_person ∈ tg := ⟨tk5 (i := 239) (by decide +kernel) rfl, tk6 (i := 0) (by decide +kernel) rfl⟩
theorem w_lL_53 : Cond.methodLink RL 53 yX7_who ∈ tg := tk3 (i := 120) (by decide +kernel) rfl
theorem w_iX7_who : Cond.instanceMethod yX7_who ∈ tg ∧ Cond.selects (yX7_who).cls yX7_who yX7_who ∈ tg := ⟨tk3 (i := 121) (by decide +kernel) rfl, tk3 (i := 122) (by decide +kernel) rfl⟩
theorem w_lL_56 : Cond.methodLink RL 56 yX8_who ∈ tg := tk6 (i := 6) (by decide +kernel) rfl
theorem w_iX8_who : Cond.instanceMethod yX8_who ∈ tg ∧ Cond.selects (yX8_who).cls yX8_who yX8_who ∈ tg := ⟨tk6 (i := 7) (by decide +kernel) rfl, tk6 (i := 8) (by decide +kernel) rfl⟩
theorem w_lL_57 : Cond.methodLink RL 57 yX7_act ∈ tg := tk3 (i := 131) (by decide +kernel) rfl
theorem w_iX7_act : Cond.instanceMethod yX7_act ∈ tg ∧ Cond.selects (yX7_act).cls yX7_act yX7_act ∈ tg := ⟨tk3 (i := 132) (by decide +kernel) rfl, tk3 (i := 133) (by decide +kernel) rfl⟩
theorem w_lL_60 : Cond.methodLink RL 60 yX8_act ∈ tg := tk6 (i := 14) (by decide +kernel) rfl
theorem w_iX8_act : Cond.instanceMethod yX8_act ∈ tg ∧ Cond.selects (yX8_act).cls yX8_act yX8_act ∈ tg := ⟨tk6 (i := 15) (by decide +kernel) rfl, tk6 (i := 16) (by decide +kernel) rfl⟩
theorem w_lL_61 : Cond.methodLink RL 61 yX7_now ∈ tg := tk3 (i := 203) (by decide +kernel) rfl
theorem w_iX7_now : Cond.instanceMethod yX7_now ∈ tg ∧ Cond.selects (yX7_now).cls yX7_now yX7_now ∈ tg := ⟨tk3 (i := 204) (by decide +kernel) rfl, tk3 (i := 205) (by decide +kernel) rfl⟩
theorem w_lL_64 : Cond.methodLink RL 64 yX8_now ∈ tg := tk6 (i := 46) (by decide +kernel) rfl
theorem w_iX8_now : Cond.instanceMethod yX8_now ∈ tg ∧ Cond.selects (yX8_now).cls yX8_now yX8_now ∈ tg := ⟨tk6 (i := 47) (by decide +kernel) rfl, tk6 (i := 48) (by decide +kernel) rfl⟩
theorem w_lL_65 : Cond.methodLink RL 65 yX7_bill ∈ tg := tk3 (i := 220) (by decide +kernel) rfl
theorem w_iX7_bill : Cond.instanceMethod yX7_bill ∈ tg ∧ Cond.selects (yX7_bill).cls yX7_bill yX7_bill ∈ tg := ⟨tk3 (i := 221) (by decide +kernel) rfl, tk3 (i := 222) (by decide +kernel) rfl⟩
theorem w_lL_68 : Cond.methodLink RL 68 yX8_bill ∈ tg := tk6 (i := 50) (by decide +kernel) rfl
theorem w_iX8_bill : Cond.instanceMethod yX8_bill ∈ tg ∧ Cond.selects (yX8_bill).cls yX8_bill yX8_bill ∈ tg := ⟨tk6 (i := 51) (by decide +kernel) rfl, tk6 (i := 52) (by decide +kernel) rfl⟩
theorem w_lL_69 : Cond.methodLink RL 69 yX7_soon ∈ tg := tk3 (i := 224) (by decide +kernel) rfl
theorem w_iX7_soon : Cond.instanceMethod yX7_soon ∈ tg ∧ Cond.selects (yX7_soon).cls yX7_soon yX7_soon ∈ tg := ⟨tk3 (i := 225) (by decide +kernel) rfl, tk3 (i := 226) (by decide +kernel) rfl⟩
theorem w_lL_72 : Cond.methodLink RL 72 yX8_soon ∈ tg := tk6 (i := 54) (by decide +kernel) rfl
theorem w_iX8_soon : Cond.instanceMethod yX8_soon ∈ tg ∧ Cond.selects (yX8_soon).cls yX8_soon yX8_soon ∈ tg := ⟨tk6 (i := 55) (by decide +kernel) rfl, tk6 (i := 56) (by decide +kernel) rfl⟩
theorem w_lL_73 : Cond.methodLink RL 73 yX7_against ∈ tg := tk4 (i := 42) (by decide +kernel) rfl
theorem w_iX7_against : Cond.instanceMethod yX7_against ∈ tg ∧ Cond.selects (yX7_against).cls yX7_against yX7_against ∈ tg := ⟨tk4 (i := 43) (by decide +kernel) rfl, tk4 (i := 44) (by decide +kernel) rfl⟩
theorem w_lL_76 : Cond.methodLink RL 76 yX8_against ∈ tg := tk6 (i := 78) (by decide +kernel) rfl
theorem w_iX8_against : Cond.instanceMethod yX8_against ∈ tg ∧ Cond.selects (yX8_against).cls yX8_against yX8_against ∈ tg := ⟨tk6 (i := 79) (by decide +kernel) rfl, tk6 (i := 80) (by decide +kernel) rfl⟩
theorem w_lL_77 : Cond.methodLink RL 77 yX7_sure ∈ tg := tk4 (i := 50) (by decide +kernel) rfl
theorem w_iX7_sure : Cond.instanceMethod yX7_sure ∈ tg ∧ Cond.selects (yX7_sure).cls yX7_sure yX7_sure ∈ tg := ⟨tk4 (i := 51) (by decide +kernel) rfl, tk4 (i := 52) (by decide +kernel) rfl⟩
theorem w_lL_80 : Cond.methodLink RL 80 yX8_sure ∈ tg := tk6 (i := 101) (by decide +kernel) rfl
theorem w_iX8_sure : Cond.instanceMethod yX8_sure ∈ tg ∧ Cond.selects (yX8_sure).cls yX8_sure yX8_sure ∈ tg := ⟨tk6 (i := 102) (by decide +kernel) rfl, tk6 (i := 103) (by decide +kernel) rfl⟩
theorem w_lL_81 : Cond.methodLink RL 81 yX7_delay ∈ tg := tk4 (i := 54) (by decide +kernel) rfl
theorem w_iX7_delay : Cond.instanceMethod yX7_delay ∈ tg ∧ Cond.selects (yX7_delay).cls yX7_delay yX7_delay ∈ tg := ⟨tk4 (i := 55) (by decide +kernel) rfl, tk4 (i := 56) (by decide +kernel) rfl⟩
theorem w_lL_84 : Cond.methodLink RL 84 yX8_delay ∈ tg := tk6 (i := 117) (by decide +kernel) rfl
theorem w_iX8_delay : Cond.instanceMethod yX8_delay ∈ tg ∧ Cond.selects (yX8_delay).cls yX8_delay yX8_delay ∈ tg := ⟨tk6 (i := 118) (by decide +kernel) rfl, tk6 (i := 119) (by decide +kernel) rfl⟩
theorem w_lL_85 : Cond.methodLink RL 85 yX7_stop ∈ tg := tk4 (i := 58) (by decide +kernel) rfl
theorem w_iX7_stop : Cond.instanceMethod yX7_stop ∈ tg ∧ Cond.selects (yX7_stop).cls yX7_stop yX7_stop ∈ tg := ⟨tk4 (i := 59) (by decide +kernel) rfl, tk4 (i := 60) (by decide +kernel) rfl⟩
theorem w_lL_88 : Cond.methodLink RL 88 yX8_stop ∈ tg := tk6 (i := 121) (by decide +kernel) rfl
theorem w_iX8_stop : Cond.instanceMethod yX8_stop ∈ tg ∧ Cond.selects (yX8_stop).cls yX8_stop yX8_stop ∈ tg := ⟨tk6 (i := 122) (by decide +kernel) rfl, tk6 (i := 123) (by decide +kernel) rfl⟩
theorem w_lL_89 : Cond.methodLink RL 89 yX7_group ∈ tg := tk4 (i := 62) (by decide +kernel) rfl
theorem w_iX7_group : Cond.instanceMethod yX7_group ∈ tg ∧ Cond.selects (yX7_group).cls yX7_group yX7_group ∈ tg := ⟨tk4 (i := 63) (by decide +kernel) rfl, tk4 (i := 64) (by decide +kernel) rfl⟩
theorem w_lL_92 : Cond.methodLink RL 92 yX8_group ∈ tg := tk6 (i := 128) (by decide +kernel) rfl
theorem w_iX8_group : Cond.instanceMethod yX8_group ∈ tg ∧ Cond.selects (yX8_group).cls yX8_group yX8_group ∈ tg := ⟨tk6 (i := 129) (by decide +kernel) rfl, tk6 (i := 130) (by decide +kernel) rfl⟩
theorem w_lL_93 : Cond.methodLink RL 93 yX7_wish ∈ tg := tk4 (i := 70) (by decide +kernel) rfl
theorem w_iX7_wish : Cond.instanceMethod yX7_wish ∈ tg ∧ Cond.selects (yX7_wish).cls yX7_wish yX7_wish ∈ tg := ⟨tk4 (i := 71) (by decide +kernel) rfl, tk4 (i := 72) (by decide +kernel) rfl⟩
theorem w_lL_96 : Cond.methodLink RL 96 yX8_wish ∈ tg := tk6 (i := 132) (by decide +kernel) rfl
theorem w_iX8_wish : Cond.instanceMethod yX8_wish ∈ tg ∧ Cond.selects (yX8_wish).cls yX8_wish yX8_wish ∈ tg := ⟨tk6 (i := 133) (by decide +kernel) rfl, tk6 (i := 134) (by decide +kernel) rfl⟩
theorem w_lL_97 : Cond.methodLink RL 97 yX7_passes ∈ tg := tk4 (i := 87) (by decide +kernel) rfl
theorem w_iX7_passes : Cond.instanceMethod yX7_passes ∈ tg ∧ Cond.selects (yX7_passes).cls yX7_passes yX7_passes ∈ tg := ⟨tk4 (i := 88) (by decide +kernel) rfl, tk4 (i := 89) (by decide +kernel) rfl⟩
theorem w_lL_100 : Cond.methodLink RL 100 yX8_passes ∈ tg := tk6 (i := 136) (by decide +kernel) rfl
theorem w_iX8_passes : Cond.instanceMethod yX8_passes ∈ tg ∧ Cond.selects (yX8_passes).cls yX8_passes yX8_passes ∈ tg := ⟨tk6 (i := 137) (by decide +kernel) rfl, tk6 (i := 138) (by decide +kernel) rfl⟩
theorem w_lL_101 : Cond.methodLink RL 101 yX7_ride ∈ tg := tk4 (i := 102) (by decide +kernel) rfl
theorem w_iX7_ride : Cond.instanceMethod yX7_ride ∈ tg ∧ Cond.selects (yX7_ride).cls yX7_ride yX7_ride ∈ tg := ⟨tk4 (i := 103) (by decide +kernel) rfl, tk4 (i := 104) (by decide +kernel) rfl⟩
theorem w_lL_104 : Cond.methodLink RL 104 yX8_ride ∈ tg := tk6 (i := 144) (by decide +kernel) rfl
theorem w_iX8_ride : Cond.instanceMethod yX8_ride ∈ tg ∧ Cond.selects (yX8_ride).cls yX8_ride yX8_ride ∈ tg := ⟨tk6 (i := 145) (by decide +kernel) rfl, tk6 (i := 146) (by decide +kernel) rfl⟩
theorem w_lL_105 : Cond.methodLink RL 105 yX7_tears ∈ tg := tk4 (i := 118) (by decide +kernel) rfl
theorem w_iX7_tears : Cond.instanceMethod yX7_tears ∈ tg ∧ Cond.selects (yX7_tears).cls yX7_tears yX7_tears ∈ tg := ⟨tk4 (i := 119) (by decide +kernel) rfl, tk4 (i := 120) (by decide +kernel) rfl⟩
theorem w_lL_108 : Cond.methodLink RL 108 yX8_tears ∈ tg := tk6 (i := 148) (by decide +kernel) rfl
theorem w_iX8_tears : Cond.instanceMethod yX8_tears ∈ tg ∧ Cond.selects (yX8_tears).cls yX8_tears yX8_tears ∈ tg := ⟨tk6 (i := 149) (by decide +kernel) rfl, tk6 (i := 150) (by decide +kernel) rfl⟩
theorem w_lL_109 : Cond.methodLink RL 109 yX7_word ∈ tg := tk4 (i := 126) (by decide +kernel) rfl
theorem w_iX7_word : Cond.instanceMethod yX7_word ∈ tg ∧ Cond.selects (yX7_word).cls yX7_word yX7_word ∈ tg := ⟨tk4 (i := 127) (by decide +kernel) rfl, tk4 (i := 128) (by decide +kernel) rfl⟩
theorem w_lL_112 : Cond.methodLink RL 112 yX8_word ∈ tg := tk6 (i := 152) (by decide +kernel) rfl
theorem w_iX8_word : Cond.instanceMethod yX8_word ∈ tg ∧ Cond.selects (yX8_word).cls yX8_word yX8_word ∈ tg := ⟨tk6 (i := 153) (by decide +kernel) rfl, tk6 (i := 154) (by decide +kernel) rfl⟩
theorem w_lL_113 : Cond.methodLink RL 113 yX7_mended ∈ tg := tk4 (i := 133) (by decide +kernel) rfl
theorem w_iX7_mended : Cond.instanceMethod yX7_mended ∈ tg ∧ Cond.selects (yX7_mended).cls yX7_mended yX7_mended ∈ tg := ⟨tk4 (i := 134) (by decide +kernel) rfl, tk4 (i := 135) (by decide +kernel) rfl⟩
theorem w_lL_116 : Cond.methodLink RL 116 yX8_mended ∈ tg := tk6 (i := 156) (by decide +kernel) rfl
theorem w_iX8_mended : Cond.instanceMethod yX8_mended ∈ tg ∧ Cond.selects (yX8_mended).cls yX8_mended yX8_mended ∈ tg := ⟨tk6 (i := 157) (by decide +kernel) rfl, tk6 (i := 158) (by decide +kernel) rfl⟩
theorem w_lL_117 : Cond.methodLink RL 117 yX7_price ∈ tg := tk4 (i := 166) (by decide +kernel) rfl
theorem w_iX7_price : Cond.instanceMethod yX7_price ∈ tg ∧ Cond.selects (yX7_price).cls yX7_price yX7_price ∈ tg := ⟨tk4 (i := 167) (by decide +kernel) rfl, tk4 (i := 168) (by decide +kernel) rfl⟩
theorem w_lL_120 : Cond.methodLink RL 120 yX8_price ∈ tg := tk6 (i := 167) (by decide +kernel) rfl
theorem w_iX8_price : Cond.instanceMethod yX8_price ∈ tg ∧ Cond.selects (yX8_price).cls yX8_price yX8_price ∈ tg := ⟨tk6 (i := 168) (by decide +kernel) rfl, tk6 (i := 169) (by decide +kernel) rfl⟩
theorem w_lL_121 : Cond.methodLink RL 121 yX7_keep ∈ tg := tk4 (i := 207) (by decide +kernel) rfl
theorem w_iX7_keep : Cond.instanceMethod yX7_keep ∈ tg ∧ Cond.selects (yX7_keep).cls yX7_keep yX7_keep ∈ tg := ⟨tk4 (i := 208) (by decide +kernel) rfl, tk4 (i := 209) (by decide +kernel) rfl⟩
theorem w_lL_124 : Cond.methodLink RL 124 yX8_keep ∈ tg := tk6 (i := 177) (by decide +kernel) rfl
theorem w_iX8_keep : Cond.instanceMethod yX8_keep ∈ tg ∧ Cond.selects (yX8_keep).cls yX8_keep yX8_keep ∈ tg := ⟨tk6 (i := 178) (by decide +kernel) rfl, tk6 (i := 179) (by decide +kernel) rfl⟩
theorem w_lL_125 : Cond.methodLink RL 125 yX7_back ∈ tg := tk4 (i := 220) (by decide +kernel) rfl
theorem w_iX7_back : Cond.instanceMethod yX7_back ∈ tg ∧ Cond.selects (yX7_back).cls yX7_back yX7_back ∈ tg := ⟨tk4 (i := 221) (by decide +kernel) rfl, tk4 (i := 222) (by decide +kernel) rfl⟩
theorem w_lL_128 : Cond.methodLink RL 128 yX8_back ∈ tg := tk6 (i := 185) (by decide +kernel) rfl
theorem w_iX8_back : Cond.instanceMethod yX8_back ∈ tg ∧ Cond.selects (yX8_back).cls yX8_back yX8_back ∈ tg := ⟨tk6 (i := 186) (by decide +kernel) rfl, tk6 (i := 187) (by decide +kernel) rfl⟩
theorem w_lL_129 : Cond.methodLink RL 129 yX7_count ∈ tg := tk4 (i := 224) (by decide +kernel) rfl
theorem w_iX7_count : Cond.instanceMethod yX7_count ∈ tg ∧ Cond.selects (yX7_count).cls yX7_count yX7_count ∈ tg := ⟨tk4 (i := 225) (by decide +kernel) rfl, tk4 (i := 226) (by decide +kernel) rfl⟩
theorem w_lL_132 : Cond.methodLink RL 132 yX8_count ∈ tg := tk6 (i := 189) (by decide +kernel) rfl
theorem w_iX8_count : Cond.instanceMethod yX8_count ∈ tg ∧ Cond.selects (yX8_count).cls yX8_count yX8_count ∈ tg := ⟨tk6 (i := 190) (by decide +kernel) rfl, tk6 (i := 191) (by decide +kernel) rfl⟩
theorem w_lL_133 : Cond.methodLink RL 133 yX7_trace ∈ tg := tk4 (i := 238) (by decide +kernel) rfl
theorem w_iX7_trace : Cond.instanceMethod yX7_trace ∈ tg ∧ Cond.selects (yX7_trace).cls yX7_trace yX7_trace ∈ tg := ⟨tk4 (i := 239) (by decide +kernel) rfl, tk5 (i := 0) (by decide +kernel) rfl⟩
theorem w_lL_137 : Cond.methodLink RL 137 yX8_trace ∈ tg := tk6 (i := 197) (by decide +kernel) rfl
theorem w_iX8_trace : Cond.instanceMethod yX8_trace ∈ tg ∧ Cond.selects (yX8_trace).cls yX8_trace yX8_trace ∈ tg := ⟨tk6 (i := 198) (by decide +kernel) rfl, tk6 (i := 199) (by decide +kernel) rfl⟩
theorem w_kL_7 : Cond.classLink RL 7 (ROf 7) ∈ tg := tk1 (i := 19) (by decide +kernel) rfl
theorem w_o7 : Cond.instantiable (ROf 7) (nOf 7) ∈ tg ∧ Cond.initialized (ROf 7) ∈ tg := ⟨tk1 (i := 20) (by decide +kernel) rfl, tk1 (i := 1) (by decide +kernel) rfl⟩
theorem w_lL_9 : Cond.methodLink RL 9 yX7_init ∈ tg := tk1 (i := 21) (by decide +kernel) rfl
theorem w_nX7_init : (yX7_init).name = "<init>" ∧ Cond.instanceMethod yX7_init ∈ tg := ⟨rfl, tk1 (i := 22) (by decide +kernel) rfl⟩
theorem w_kL_10 : Cond.classLink RL 10 (ROf 8) ∈ tg := tk5 (i := 2) (by decide +kernel) rfl
theorem w_o8 : Cond.instantiable (ROf 8) (nOf 8) ∈ tg ∧ Cond.initialized (ROf 8) ∈ tg := ⟨tk5 (i := 3) (by decide +kernel) rfl, tk1 (i := 10) (by decide +kernel) rfl⟩
theorem w_lL_12 : Cond.methodLink RL 12 yX8_init ∈ tg := tk5 (i := 4) (by decide +kernel) rfl
theorem w_nX8_init : (yX8_init).name = "<init>" ∧ Cond.instanceMethod yX8_init ∈ tg := ⟨rfl, tk5 (i := 5) (by decide +kernel) rfl⟩
def f_L_law_J1071 (L : Nat) (xs : Nat → Int32) (n : Nat) (v1 : Nat) (v2 : Nat) (v3 : Int32) (h : Hp) (k18 : Nat → Nat → Int32 → Hp → Option (Int32 × Hp)) : Option (Int32 × Hp) :=
  k18 v1 v2 (v3 + 5) h
def f_L_law_L18 (L : Nat) (xs : Nat → Int32) : Nat → Nat → Nat → Int32 → Hp → Option (Int32 × Hp)
  | 0, _, _, _, _ => none
  | n + 1, v1, v2, v3, h =>
    if ((Int32.ofNat L) - 5) < v3 then
      zr 1 h
    else
      (scr L xs v3).bind fun x28 =>
      if (x28 &&& 31) = 0 then
        (scr L xs (v3 + 1)).bind fun x169 =>
        (scr L xs (v3 + 2)).bind fun x178 =>
        (scr L xs (v3 + 3)).bind fun x189 =>
        (f_X7_type n v1 ((x169.toInt64 <<< ((32 : Int32).toInt64 &&& 63)) ||| (x178.toInt64 &&& 4294967295)) x189 h).bind fun x190 =>
        (scr L xs (v3 + 1)).bind fun x199 =>
        (scr L xs (v3 + 2)).bind fun x208 =>
        (scr L xs (v3 + 3)).bind fun x219 =>
        (f_X8_type n v2 ((x199.toInt64 <<< ((32 : Int32).toInt64 &&& 63)) ||| (x208.toInt64 &&& 4294967295)) x219 x190.2).bind fun x220 =>
        f_L_law_J1071 L xs n v1 v2 v3 x220.2 (fun a1 a2 a3 h => f_L_law_L18 L xs n a1 a2 a3 h)
      else if (x28 &&& 31) = 1 then
        (f_X7_clear n v1 h).bind fun x228 =>
        (f_X8_clear n v2 x228.2).bind fun x233 =>
        f_L_law_J1071 L xs n v1 v2 v3 x233.2 (fun a1 a2 a3 h => f_L_law_L18 L xs n a1 a2 a3 h)
      else if (x28 &&& 31) = 2 then
        (f_X7_law n v1 h).bind fun x241 =>
        (f_X8_law n v2 x241.2).bind fun x246 =>
        f_L_law_J1071 L xs n v1 v2 v3 x246.2 (fun a1 a2 a3 h => f_L_law_L18 L xs n a1 a2 a3 h)
      else if (x28 &&& 31) = 3 then
        (scr L xs (v3 + 1)).bind fun x258 =>
        (f_X7_day n v1 x258 h).bind fun x259 =>
        (scr L xs (v3 + 1)).bind fun x268 =>
        (f_X8_day n v2 x268 x259.2).bind fun x269 =>
        f_L_law_J1071 L xs n v1 v2 v3 x269.2 (fun a1 a2 a3 h => f_L_law_L18 L xs n a1 a2 a3 h)
      else if (x28 &&& 31) = 4 then
        (scr L xs (v3 + 1)).bind fun x281 =>
        (scr L xs (v3 + 2)).bind fun x286 =>
        (scr L xs (v3 + 3)).bind fun x291 =>
        (f_X7_days n v1 x281 x286 x291 h).bind fun x292 =>
        (scr L xs (v3 + 1)).bind fun x301 =>
        (scr L xs (v3 + 2)).bind fun x306 =>
        (scr L xs (v3 + 3)).bind fun x311 =>
        (f_X8_days n v2 x301 x306 x311 x292.2).bind fun x312 =>
        f_L_law_J1071 L xs n v1 v2 v3 x312.2 (fun a1 a2 a3 h => f_L_law_L18 L xs n a1 a2 a3 h)
      else if (x28 &&& 31) = 5 then
        (scr L xs (v3 + 1)).bind fun x324 =>
        (scr L xs (v3 + 2)).bind fun x329 =>
        (scr L xs (v3 + 3)).bind fun x334 =>
        (f_X7_step n v1 x324 x329 x334 h).bind fun x335 =>
        (scr L xs (v3 + 1)).bind fun x344 =>
        (scr L xs (v3 + 2)).bind fun x349 =>
        (scr L xs (v3 + 3)).bind fun x354 =>
        (f_X8_step n v2 x344 x349 x354 x335.2).bind fun x355 =>
        f_L_law_J1071 L xs n v1 v2 v3 x355.2 (fun a1 a2 a3 h => f_L_law_L18 L xs n a1 a2 a3 h)
      else if (x28 &&& 31) = 6 then
        (scr L xs (v3 + 1)).bind fun x367 =>
        (scr L xs (v3 + 2)).bind fun x372 =>
        (scr L xs (v3 + 3)).bind fun x377 =>
        (scr L xs (v3 + 4)).bind fun x382 =>
        (f_X7_may n v1 x367 x372 x377 x382 h).bind fun x383 =>
        (scr L xs (v3 + 1)).bind fun x392 =>
        (scr L xs (v3 + 2)).bind fun x397 =>
        (scr L xs (v3 + 3)).bind fun x402 =>
        (scr L xs (v3 + 4)).bind fun x407 =>
        (f_X8_may n v2 x392 x397 x402 x407 x383.2).bind fun x408 =>
        f_L_law_J1071 L xs n v1 v2 v3 x408.2 (fun a1 a2 a3 h => f_L_law_L18 L xs n a1 a2 a3 h)
      else if (x28 &&& 31) = 7 then
        (scr L xs (v3 + 1)).bind fun x420 =>
        (scr L xs (v3 + 2)).bind fun x425 =>
        (f_X7_person n v1 x420 x425 h).bind fun x426 =>
        (scr L xs (v3 + 1)).bind fun x435 =>
        (scr L xs (v3 + 2)).bind fun x440 =>
        (f_X8_person n v2 x435 x440 x426.2).bind fun x441 =>
        f_L_law_J1071 L xs n v1 v2 v3 x441.2 (fun a1 a2 a3 h => f_L_law_L18 L xs n a1 a2 a3 h)
      else if (x28 &&& 31) = 8 then
        (scr L xs (v3 + 1)).bind fun x453 =>
        (scr L xs (v3 + 2)).bind fun x458 =>
        (f_X7_who n v1 x453 x458 h).bind fun x459 =>
        (scr L xs (v3 + 1)).bind fun x468 =>
        (scr L xs (v3 + 2)).bind fun x473 =>
        (f_X8_who n v2 x468 x473 x459.2).bind fun x474 =>
        f_L_law_J1071 L xs n v1 v2 v3 x474.2 (fun a1 a2 a3 h => f_L_law_L18 L xs n a1 a2 a3 h)
      else if (x28 &&& 31) = 9 then
        (scr L xs (v3 + 1)).bind fun x486 =>
        (scr L xs (v3 + 2)).bind fun x491 =>
        (scr L xs (v3 + 3)).bind fun x496 =>
        (f_X7_act n v1 x486 x491 x496 h).bind fun x497 =>
        (scr L xs (v3 + 1)).bind fun x506 =>
        (scr L xs (v3 + 2)).bind fun x511 =>
        (scr L xs (v3 + 3)).bind fun x516 =>
        (f_X8_act n v2 x506 x511 x516 x497.2).bind fun x517 =>
        f_L_law_J1071 L xs n v1 v2 v3 x517.2 (fun a1 a2 a3 h => f_L_law_L18 L xs n a1 a2 a3 h)
      else if (x28 &&& 31) = 10 then
        (scr L xs (v3 + 1)).bind fun x529 =>
        (f_X7_now n v1 x529 h).bind fun x530 =>
        (scr L xs (v3 + 1)).bind fun x539 =>
        (f_X8_now n v2 x539 x530.2).bind fun x540 =>
        f_L_law_J1071 L xs n v1 v2 v3 x540.2 (fun a1 a2 a3 h => f_L_law_L18 L xs n a1 a2 a3 h)
      else if (x28 &&& 31) = 11 then
        (scr L xs (v3 + 1)).bind fun x552 =>
        (scr L xs (v3 + 2)).bind fun x557 =>
        (f_X7_bill n v1 x552 x557 h).bind fun x558 =>
        (scr L xs (v3 + 1)).bind fun x567 =>
        (scr L xs (v3 + 2)).bind fun x572 =>
        (f_X8_bill n v2 x567 x572 x558.2).bind fun x573 =>
        f_L_law_J1071 L xs n v1 v2 v3 x573.2 (fun a1 a2 a3 h => f_L_law_L18 L xs n a1 a2 a3 h)
      else if (x28 &&& 31) = 12 then
        (scr L xs (v3 + 1)).bind fun x585 =>
        (scr L xs (v3 + 2)).bind fun x590 =>
        (f_X7_soon n v1 x585 x590 h).bind fun x591 =>
        (scr L xs (v3 + 1)).bind fun x600 =>
        (scr L xs (v3 + 2)).bind fun x605 =>
        (f_X8_soon n v2 x600 x605 x591.2).bind fun x606 =>
        f_L_law_J1071 L xs n v1 v2 v3 x606.2 (fun a1 a2 a3 h => f_L_law_L18 L xs n a1 a2 a3 h)
      else if (x28 &&& 31) = 13 then
        (scr L xs (v3 + 1)).bind fun x618 =>
        (f_X7_against n v1 x618 h).bind fun x619 =>
        (scr L xs (v3 + 1)).bind fun x628 =>
        (f_X8_against n v2 x628 x619.2).bind fun x629 =>
        f_L_law_J1071 L xs n v1 v2 v3 x629.2 (fun a1 a2 a3 h => f_L_law_L18 L xs n a1 a2 a3 h)
      else if (x28 &&& 31) = 14 then
        (scr L xs (v3 + 1)).bind fun x641 =>
        (scr L xs (v3 + 2)).bind fun x646 =>
        (scr L xs (v3 + 3)).bind fun x651 =>
        (f_X7_sure n v1 x641 x646 x651 h).bind fun x652 =>
        (scr L xs (v3 + 1)).bind fun x661 =>
        (scr L xs (v3 + 2)).bind fun x666 =>
        (scr L xs (v3 + 3)).bind fun x671 =>
        (f_X8_sure n v2 x661 x666 x671 x652.2).bind fun x672 =>
        f_L_law_J1071 L xs n v1 v2 v3 x672.2 (fun a1 a2 a3 h => f_L_law_L18 L xs n a1 a2 a3 h)
      else if (x28 &&& 31) = 15 then
        (scr L xs (v3 + 1)).bind fun x684 =>
        (scr L xs (v3 + 2)).bind fun x689 =>
        (f_X7_delay n v1 x684 x689 h).bind fun x690 =>
        (scr L xs (v3 + 1)).bind fun x699 =>
        (scr L xs (v3 + 2)).bind fun x704 =>
        (f_X8_delay n v2 x699 x704 x690.2).bind fun x705 =>
        f_L_law_J1071 L xs n v1 v2 v3 x705.2 (fun a1 a2 a3 h => f_L_law_L18 L xs n a1 a2 a3 h)
      else if (x28 &&& 31) = 16 then
        (scr L xs (v3 + 1)).bind fun x717 =>
        (scr L xs (v3 + 2)).bind fun x722 =>
        (f_X7_stop n v1 x717 x722 h).bind fun x723 =>
        (scr L xs (v3 + 1)).bind fun x731 =>
        (scr L xs (v3 + 2)).bind fun x736 =>
        (f_X8_stop n v2 x731 x736 x723.2).bind fun x737 =>
        if x723.1 = x737.1 then
          f_L_law_J1071 L xs n v1 v2 v3 x737.2 (fun a1 a2 a3 h => f_L_law_L18 L xs n a1 a2 a3 h)
        else
          zr 0 x737.2
      else if (x28 &&& 31) = 17 then
        (f_X7_group n v1 h).bind fun x746 =>
        (f_X8_group n v2 x746.2).bind fun x751 =>
        f_L_law_J1071 L xs n v1 v2 v3 x751.2 (fun a1 a2 a3 h => f_L_law_L18 L xs n a1 a2 a3 h)
      else if (x28 &&& 31) = 18 then
        (scr L xs (v3 + 1)).bind fun x763 =>
        (scr L xs (v3 + 2)).bind fun x768 =>
        (scr L xs (v3 + 3)).bind fun x773 =>
        (f_X7_wish n v1 x763 x768 x773 h).bind fun x774 =>
        (scr L xs (v3 + 1)).bind fun x783 =>
        (scr L xs (v3 + 2)).bind fun x788 =>
        (scr L xs (v3 + 3)).bind fun x793 =>
        (f_X8_wish n v2 x783 x788 x793 x774.2).bind fun x794 =>
        f_L_law_J1071 L xs n v1 v2 v3 x794.2 (fun a1 a2 a3 h => f_L_law_L18 L xs n a1 a2 a3 h)
      else if (x28 &&& 31) = 19 then
        (scr L xs (v3 + 1)).bind fun x806 =>
        (f_X7_passes n v1 x806 h).bind fun x807 =>
        (scr L xs (v3 + 1)).bind fun x816 =>
        (f_X8_passes n v2 x816 x807.2).bind fun x817 =>
        f_L_law_J1071 L xs n v1 v2 v3 x817.2 (fun a1 a2 a3 h => f_L_law_L18 L xs n a1 a2 a3 h)
      else if (x28 &&& 31) = 20 then
        (scr L xs (v3 + 1)).bind fun x829 =>
        (scr L xs (v3 + 2)).bind fun x834 =>
        (f_X7_ride n v1 x829 x834 h).bind fun x835 =>
        (scr L xs (v3 + 1)).bind fun x844 =>
        (scr L xs (v3 + 2)).bind fun x849 =>
        (f_X8_ride n v2 x844 x849 x835.2).bind fun x850 =>
        f_L_law_J1071 L xs n v1 v2 v3 x850.2 (fun a1 a2 a3 h => f_L_law_L18 L xs n a1 a2 a3 h)
      else if (x28 &&& 31) = 21 then
        (scr L xs (v3 + 1)).bind fun x862 =>
        (f_X7_tears n v1 x862 h).bind fun x863 =>
        (scr L xs (v3 + 1)).bind fun x872 =>
        (f_X8_tears n v2 x872 x863.2).bind fun x873 =>
        f_L_law_J1071 L xs n v1 v2 v3 x873.2 (fun a1 a2 a3 h => f_L_law_L18 L xs n a1 a2 a3 h)
      else if (x28 &&& 31) = 22 then
        (scr L xs (v3 + 1)).bind fun x885 =>
        (scr L xs (v3 + 2)).bind fun x890 =>
        (scr L xs (v3 + 3)).bind fun x895 =>
        (scr L xs (v3 + 4)).bind fun x900 =>
        (f_X7_word n v1 x885 x890 x895 x900 h).bind fun x901 =>
        (scr L xs (v3 + 1)).bind fun x910 =>
        (scr L xs (v3 + 2)).bind fun x915 =>
        (scr L xs (v3 + 3)).bind fun x920 =>
        (scr L xs (v3 + 4)).bind fun x925 =>
        (f_X8_word n v2 x910 x915 x920 x925 x901.2).bind fun x926 =>
        f_L_law_J1071 L xs n v1 v2 v3 x926.2 (fun a1 a2 a3 h => f_L_law_L18 L xs n a1 a2 a3 h)
      else if (x28 &&& 31) = 23 then
        (scr L xs (v3 + 1)).bind fun x938 =>
        (f_X7_mended n v1 x938 h).bind fun x939 =>
        (scr L xs (v3 + 1)).bind fun x948 =>
        (f_X8_mended n v2 x948 x939.2).bind fun x949 =>
        f_L_law_J1071 L xs n v1 v2 v3 x949.2 (fun a1 a2 a3 h => f_L_law_L18 L xs n a1 a2 a3 h)
      else if (x28 &&& 31) = 24 then
        (scr L xs (v3 + 1)).bind fun x961 =>
        (scr L xs (v3 + 2)).bind fun x966 =>
        (f_X7_price n v1 x961 x966 h).bind fun x967 =>
        (scr L xs (v3 + 1)).bind fun x976 =>
        (scr L xs (v3 + 2)).bind fun x981 =>
        (f_X8_price n v2 x976 x981 x967.2).bind fun x982 =>
        f_L_law_J1071 L xs n v1 v2 v3 x982.2 (fun a1 a2 a3 h => f_L_law_L18 L xs n a1 a2 a3 h)
      else if (x28 &&& 31) = 25 then
        (scr L xs (v3 + 1)).bind fun x994 =>
        (f_X7_keep n v1 x994 h).bind fun x995 =>
        (scr L xs (v3 + 1)).bind fun x1004 =>
        (f_X8_keep n v2 x1004 x995.2).bind fun x1005 =>
        f_L_law_J1071 L xs n v1 v2 v3 x1005.2 (fun a1 a2 a3 h => f_L_law_L18 L xs n a1 a2 a3 h)
      else if (x28 &&& 31) = 26 then
        (scr L xs (v3 + 1)).bind fun x1017 =>
        (f_X7_back n v1 x1017 h).bind fun x1018 =>
        (scr L xs (v3 + 1)).bind fun x1027 =>
        (f_X8_back n v2 x1027 x1018.2).bind fun x1028 =>
        f_L_law_J1071 L xs n v1 v2 v3 x1028.2 (fun a1 a2 a3 h => f_L_law_L18 L xs n a1 a2 a3 h)
      else if (x28 &&& 31) = 27 then
        (scr L xs (v3 + 1)).bind fun x1040 =>
        (f_X7_count n v1 x1040 h).bind fun x1041 =>
        (scr L xs (v3 + 1)).bind fun x1050 =>
        (f_X8_count n v2 x1050 x1041.2).bind fun x1051 =>
        f_L_law_J1071 L xs n v1 v2 v3 x1051.2 (fun a1 a2 a3 h => f_L_law_L18 L xs n a1 a2 a3 h)
      else if (x28 &&& 31) = 28 then
        (f_X7_trace n v1 h).bind fun x1059 =>
        (f_X8_trace n v2 x1059.2).bind fun x1064 =>
        f_L_law_J1071 L xs n v1 v2 v3 x1064.2 (fun a1 a2 a3 h => f_L_law_L18 L xs n a1 a2 a3 h)
      else 
        f_L_law_J1071 L xs n v1 v2 v3 h (fun a1 a2 a3 h => f_L_law_L18 L xs n a1 a2 a3 h)
def f_L_law (L : Nat) (xs : Nat → Int32) (n : Nat) (h : Hp) : Option (Int32 × Hp) :=
  (nwO 7 h).bind fun x0 =>
  (f_X7_init n x0.1 x0.2).bind fun x4 =>
  (nwO 8 x4).bind fun x8 =>
  (f_X8_init n x8.1 x8.2).bind fun x12 =>
  f_L_law_L18 L xs n x0.1 x8.1 0 x12
set_option maxHeartbeats 4000000 in
theorem l_L_law_J1071 {X : Cx} {G : Gc} {nm : String} (C : Ok X G code RL nm 4 ret 11 97 26523) (out : (Int32 × Hp)) (L : Nat) (xs : Nat → Int32) (SX : Scr X G L xs) {Q : State → Prop} (ho : out.1 = 1) (R0 : ∀ (h : Hp) (lv : List (Nat × Value)) (pc : Nat), decode code pc = .ok (.ireturn, 1) → At X G Q 97 26523 pc lv [.int 1] h) (n : Nat) (v1 : Nat) (v2 : Nat) (v3 : Int32) (h : Hp) (k18 : Nat → Nat → Int32 → Hp → Option (Int32 × Hp)) (hf : f_L_law_J1071 L xs n v1 v2 v3 h k18 = some out) (H18 : (∀ (u1 : Nat) (u2 : Nat) (u3 : Int32) (h2 : Hp), k18 u1 u2 u3 h2 = some out → At X G Q 97 26523 18 [(0, .ref 19999), (1, .ref u1), (2, .ref u2), (3, .int u3)] [] h2)) : At X G Q 97 26523 1071 [(0, .ref 19999), (1, .ref v1), (2, .ref v2), (3, .int v3)] [] h := by
  unfold f_L_law_J1071 at hf
  refine r_iinc C (lv' := [(3, .int (v3 + 5)), (0, .ref 19999), (1, .ref v1), (2, .ref v2)]) dL_law_1071 rfl (in_5 _) (by decide) rfl ?_
  refine r_goto C 18 dL_law_1074 (by decide) ?_
  refine r_sub [1, 2, 3, 0] (lv' := [(0, .ref 19999), (1, .ref v1), (2, .ref v2), (3, .int (v3 + 5))]) rfl ?_
  exact H18 _ _ _ _ hf

set_option maxHeartbeats 4000000 in
theorem l_L_law_L18 {X : Cx} {G : Gc} {nm : String} (C : Ok X G code RL nm 4 ret 11 97 26523) (out : (Int32 × Hp)) (L : Nat) (xs : Nat → Int32) (SX : Scr X G L xs) {Q : State → Prop} (ho : out.1 = 1) (R0 : ∀ (h : Hp) (lv : List (Nat × Value)) (pc : Nat), decode code pc = .ok (.ireturn, 1) → At X G Q 97 26523 pc lv [.int 1] h) : ∀ (n : Nat) (v1 : Nat) (v2 : Nat) (v3 : Int32) (h : Hp), f_L_law_L18 L xs n v1 v2 v3 h = some out → At X G Q 97 26523 18 [(0, .ref 19999), (1, .ref v1), (2, .ref v2), (3, .int v3)] [] h
  | 0, _, _, _, _, hf => by cases hf
  | n + 1, v1, v2, v3, h, hf => by
    rw [f_L_law_L18] at hf
    refine r_iload_n C dL_law_18 rfl rfl ?_
    refine r_aload_n C dL_law_19 rfl rfl ?_
    refine r_scrlen C SX dL_law_20 ?_
    refine r_iconst C dL_law_21 ic_5 ?_
    refine r_isub C dL_law_22 ?_
    refine r_icmp_gt C 1077 dL_law_23 (by decide) (fun c_23 => ?_) (fun c_23 => ?_)
    · rw [if_pos c_23] at hf
      refine r_iconst C dL_law_1077 ic_1 ?_
      exact R0 _ _ _ dL_law_1078
    · rw [if_neg c_23] at hf
      refine r_aload_n C dL_law_26 rfl rfl ?_
      refine r_iload_n C dL_law_27 rfl rfl ?_
      obtain ⟨x28, ex28, hf⟩ := Option.bind_eq_some_iff.mp hf
      refine r_scrld C SX dL_law_28 ex28 ?_
      refine r_bipush C dL_law_29 bc_31 ?_
      refine r_iand C dL_law_31 ?_
      by_cases c_32_0 : (x28 &&& 31) = 0
      · rw [if_pos c_32_0] at hf
        refine r_tableIn C 164 dL_law_32 (by rw [c_32_0]; decide) (by rw [c_32_0]; decide) (by rw [c_32_0]; first | done | rfl) (by decide) ?_
        refine r_aload_n C dL_law_164 rfl rfl ?_
        refine r_aload_n C dL_law_165 rfl rfl ?_
        refine r_iload_n C dL_law_166 rfl rfl ?_
        refine r_iconst C dL_law_167 ic_1 ?_
        refine r_iadd C dL_law_168 ?_
        obtain ⟨x169, ex169, hf⟩ := Option.bind_eq_some_iff.mp hf
        refine r_scrld C SX dL_law_169 ex169 ?_
        refine r_i2l C dL_law_170 ?_
        refine r_bipush C dL_law_171 bc_32 ?_
        refine r_lshl C dL_law_173 ?_
        refine r_aload_n C dL_law_174 rfl rfl ?_
        refine r_iload_n C dL_law_175 rfl rfl ?_
        refine r_iconst C dL_law_176 ic_2 ?_
        refine r_iadd C dL_law_177 ?_
        obtain ⟨x178, ex178, hf⟩ := Option.bind_eq_some_iff.mp hf
        refine r_scrld C SX dL_law_178 ex178 ?_
        refine r_i2l C dL_law_179 ?_
        refine r_ldc2 C w_cL_13 dL_law_180 ?_
        refine r_land C dL_law_183 ?_
        refine r_lor C dL_law_184 ?_
        refine r_aload_n C dL_law_185 rfl rfl ?_
        refine r_iload_n C dL_law_186 rfl rfl ?_
        refine r_iconst C dL_law_187 ic_3 ?_
        refine r_iadd C dL_law_188 ?_
        obtain ⟨x189, ex189, hf⟩ := Option.bind_eq_some_iff.mp hf
        refine r_scrld C SX dL_law_189 ex189 ?_
        obtain ⟨x190, ex190, hf⟩ := Option.bind_eq_some_iff.mp hf
        refine r_callVi C w_mX7_type w_iX7_type w_lL_15 (by decide) (as := [.long ((x169.toInt64 <<< ((32 : Int32).toInt64 &&& 63)) ||| (x178.toInt64 &&& 4294967295)), .int x189]) rfl (c := 7) (by decide) rfl (Nat.le_of_ble_eq_true rfl) (by decide) dL_law_190 rfl (k_X7_type ex190).1 (k_X7_type ex190).2 ?_
        refine r_pop C dL_law_193 rfl ?_
        refine r_aload_n C dL_law_194 rfl rfl ?_
        refine r_aload_n C dL_law_195 rfl rfl ?_
        refine r_iload_n C dL_law_196 rfl rfl ?_
        refine r_iconst C dL_law_197 ic_1 ?_
        refine r_iadd C dL_law_198 ?_
        obtain ⟨x199, ex199, hf⟩ := Option.bind_eq_some_iff.mp hf
        refine r_scrld C SX dL_law_199 ex199 ?_
        refine r_i2l C dL_law_200 ?_
        refine r_bipush C dL_law_201 bc_32 ?_
        refine r_lshl C dL_law_203 ?_
        refine r_aload_n C dL_law_204 rfl rfl ?_
        refine r_iload_n C dL_law_205 rfl rfl ?_
        refine r_iconst C dL_law_206 ic_2 ?_
        refine r_iadd C dL_law_207 ?_
        obtain ⟨x208, ex208, hf⟩ := Option.bind_eq_some_iff.mp hf
        refine r_scrld C SX dL_law_208 ex208 ?_
        refine r_i2l C dL_law_209 ?_
        refine r_ldc2 C w_cL_13 dL_law_210 ?_
        refine r_land C dL_law_213 ?_
        refine r_lor C dL_law_214 ?_
        refine r_aload_n C dL_law_215 rfl rfl ?_
        refine r_iload_n C dL_law_216 rfl rfl ?_
        refine r_iconst C dL_law_217 ic_3 ?_
        refine r_iadd C dL_law_218 ?_
        obtain ⟨x219, ex219, hf⟩ := Option.bind_eq_some_iff.mp hf
        refine r_scrld C SX dL_law_219 ex219 ?_
        obtain ⟨x220, ex220, hf⟩ := Option.bind_eq_some_iff.mp hf
        refine r_callVi C w_mX8_type w_iX8_type w_lL_19 (by decide) (as := [.long ((x199.toInt64 <<< ((32 : Int32).toInt64 &&& 63)) ||| (x208.toInt64 &&& 4294967295)), .int x219]) rfl (c := 8) (by decide) rfl (Nat.le_of_ble_eq_true rfl) (by decide) dL_law_220 rfl (k_X8_type ex220).1 (k_X8_type ex220).2 ?_
        refine r_pop C dL_law_223 rfl ?_
        refine r_goto C 1071 dL_law_224 (by decide) ?_
        exact l_L_law_J1071 C _ L xs SX ho R0 _ _ _ _ _ _ hf (fun _ _ _ _ q => l_L_law_L18 C _ L xs SX ho R0 _ _ _ _ _ q )
      rw [if_neg c_32_0] at hf
      by_cases c_32_1 : (x28 &&& 31) = 1
      · rw [if_pos c_32_1] at hf
        refine r_tableIn C 227 dL_law_32 (by rw [c_32_1]; decide) (by rw [c_32_1]; decide) (by rw [c_32_1]; first | done | rfl) (by decide) ?_
        refine r_aload_n C dL_law_227 rfl rfl ?_
        obtain ⟨x228, ex228, hf⟩ := Option.bind_eq_some_iff.mp hf
        refine r_callVi C w_mX7_clear w_iX7_clear w_lL_20 (by decide) (as := []) rfl (c := 7) (by decide) rfl (Nat.le_of_ble_eq_true rfl) (by decide) dL_law_228 rfl (k_X7_clear ex228).1 (k_X7_clear ex228).2 ?_
        refine r_pop C dL_law_231 rfl ?_
        refine r_aload_n C dL_law_232 rfl rfl ?_
        obtain ⟨x233, ex233, hf⟩ := Option.bind_eq_some_iff.mp hf
        refine r_callVi C w_mX8_clear w_iX8_clear w_lL_24 (by decide) (as := []) rfl (c := 8) (by decide) rfl (Nat.le_of_ble_eq_true rfl) (by decide) dL_law_233 rfl (k_X8_clear ex233).1 (k_X8_clear ex233).2 ?_
        refine r_pop C dL_law_236 rfl ?_
        refine r_goto C 1071 dL_law_237 (by decide) ?_
        exact l_L_law_J1071 C _ L xs SX ho R0 _ _ _ _ _ _ hf (fun _ _ _ _ q => l_L_law_L18 C _ L xs SX ho R0 _ _ _ _ _ q )
      rw [if_neg c_32_1] at hf
      by_cases c_32_2 : (x28 &&& 31) = 2
      · rw [if_pos c_32_2] at hf
        refine r_tableIn C 240 dL_law_32 (by rw [c_32_2]; decide) (by rw [c_32_2]; decide) (by rw [c_32_2]; first | done | rfl) (by decide) ?_
        refine r_aload_n C dL_law_240 rfl rfl ?_
        obtain ⟨x241, ex241, hf⟩ := Option.bind_eq_some_iff.mp hf
        refine r_callVi C w_mX7_law w_iX7_law w_lL_25 (by decide) (as := []) rfl (c := 7) (by decide) rfl (Nat.le_of_ble_eq_true rfl) (by decide) dL_law_241 rfl (k_X7_law ex241).1 (k_X7_law ex241).2 ?_
        refine r_pop C dL_law_244 rfl ?_
        refine r_aload_n C dL_law_245 rfl rfl ?_
        obtain ⟨x246, ex246, hf⟩ := Option.bind_eq_some_iff.mp hf
        refine r_callVi C w_mX8_law w_iX8_law w_lL_28 (by decide) (as := []) rfl (c := 8) (by decide) rfl (Nat.le_of_ble_eq_true rfl) (by decide) dL_law_246 rfl (k_X8_law ex246).1 (k_X8_law ex246).2 ?_
        refine r_pop C dL_law_249 rfl ?_
        refine r_goto C 1071 dL_law_250 (by decide) ?_
        exact l_L_law_J1071 C _ L xs SX ho R0 _ _ _ _ _ _ hf (fun _ _ _ _ q => l_L_law_L18 C _ L xs SX ho R0 _ _ _ _ _ q )
      rw [if_neg c_32_2] at hf
      by_cases c_32_3 : (x28 &&& 31) = 3
      · rw [if_pos c_32_3] at hf
        refine r_tableIn C 253 dL_law_32 (by rw [c_32_3]; decide) (by rw [c_32_3]; decide) (by rw [c_32_3]; first | done | rfl) (by decide) ?_
        refine r_aload_n C dL_law_253 rfl rfl ?_
        refine r_aload_n C dL_law_254 rfl rfl ?_
        refine r_iload_n C dL_law_255 rfl rfl ?_
        refine r_iconst C dL_law_256 ic_1 ?_
        refine r_iadd C dL_law_257 ?_
        obtain ⟨x258, ex258, hf⟩ := Option.bind_eq_some_iff.mp hf
        refine r_scrld C SX dL_law_258 ex258 ?_
        obtain ⟨x259, ex259, hf⟩ := Option.bind_eq_some_iff.mp hf
        refine r_callVi C w_mX7_day w_iX7_day w_lL_29 (by decide) (as := [.int x258]) rfl (c := 7) (by decide) rfl (Nat.le_of_ble_eq_true rfl) (by decide) dL_law_259 rfl (k_X7_day ex259).1 (k_X7_day ex259).2 ?_
        refine r_pop C dL_law_262 rfl ?_
        refine r_aload_n C dL_law_263 rfl rfl ?_
        refine r_aload_n C dL_law_264 rfl rfl ?_
        refine r_iload_n C dL_law_265 rfl rfl ?_
        refine r_iconst C dL_law_266 ic_1 ?_
        refine r_iadd C dL_law_267 ?_
        obtain ⟨x268, ex268, hf⟩ := Option.bind_eq_some_iff.mp hf
        refine r_scrld C SX dL_law_268 ex268 ?_
        obtain ⟨x269, ex269, hf⟩ := Option.bind_eq_some_iff.mp hf
        refine r_callVi C w_mX8_day w_iX8_day w_lL_33 (by decide) (as := [.int x268]) rfl (c := 8) (by decide) rfl (Nat.le_of_ble_eq_true rfl) (by decide) dL_law_269 rfl (k_X8_day ex269).1 (k_X8_day ex269).2 ?_
        refine r_pop C dL_law_272 rfl ?_
        refine r_goto C 1071 dL_law_273 (by decide) ?_
        exact l_L_law_J1071 C _ L xs SX ho R0 _ _ _ _ _ _ hf (fun _ _ _ _ q => l_L_law_L18 C _ L xs SX ho R0 _ _ _ _ _ q )
      rw [if_neg c_32_3] at hf
      by_cases c_32_4 : (x28 &&& 31) = 4
      · rw [if_pos c_32_4] at hf
        refine r_tableIn C 276 dL_law_32 (by rw [c_32_4]; decide) (by rw [c_32_4]; decide) (by rw [c_32_4]; first | done | rfl) (by decide) ?_
        refine r_aload_n C dL_law_276 rfl rfl ?_
        refine r_aload_n C dL_law_277 rfl rfl ?_
        refine r_iload_n C dL_law_278 rfl rfl ?_
        refine r_iconst C dL_law_279 ic_1 ?_
        refine r_iadd C dL_law_280 ?_
        obtain ⟨x281, ex281, hf⟩ := Option.bind_eq_some_iff.mp hf
        refine r_scrld C SX dL_law_281 ex281 ?_
        refine r_aload_n C dL_law_282 rfl rfl ?_
        refine r_iload_n C dL_law_283 rfl rfl ?_
        refine r_iconst C dL_law_284 ic_2 ?_
        refine r_iadd C dL_law_285 ?_
        obtain ⟨x286, ex286, hf⟩ := Option.bind_eq_some_iff.mp hf
        refine r_scrld C SX dL_law_286 ex286 ?_
        refine r_aload_n C dL_law_287 rfl rfl ?_
        refine r_iload_n C dL_law_288 rfl rfl ?_
        refine r_iconst C dL_law_289 ic_3 ?_
        refine r_iadd C dL_law_290 ?_
        obtain ⟨x291, ex291, hf⟩ := Option.bind_eq_some_iff.mp hf
        refine r_scrld C SX dL_law_291 ex291 ?_
        obtain ⟨x292, ex292, hf⟩ := Option.bind_eq_some_iff.mp hf
        refine r_callVi C w_mX7_days w_iX7_days w_lL_34 (by decide) (as := [.int x281, .int x286, .int x291]) rfl (c := 7) (by decide) rfl (Nat.le_of_ble_eq_true rfl) (by decide) dL_law_292 rfl (k_X7_days ex292).1 (k_X7_days ex292).2 ?_
        refine r_pop C dL_law_295 rfl ?_
        refine r_aload_n C dL_law_296 rfl rfl ?_
        refine r_aload_n C dL_law_297 rfl rfl ?_
        refine r_iload_n C dL_law_298 rfl rfl ?_
        refine r_iconst C dL_law_299 ic_1 ?_
        refine r_iadd C dL_law_300 ?_
        obtain ⟨x301, ex301, hf⟩ := Option.bind_eq_some_iff.mp hf
        refine r_scrld C SX dL_law_301 ex301 ?_
        refine r_aload_n C dL_law_302 rfl rfl ?_
        refine r_iload_n C dL_law_303 rfl rfl ?_
        refine r_iconst C dL_law_304 ic_2 ?_
        refine r_iadd C dL_law_305 ?_
        obtain ⟨x306, ex306, hf⟩ := Option.bind_eq_some_iff.mp hf
        refine r_scrld C SX dL_law_306 ex306 ?_
        refine r_aload_n C dL_law_307 rfl rfl ?_
        refine r_iload_n C dL_law_308 rfl rfl ?_
        refine r_iconst C dL_law_309 ic_3 ?_
        refine r_iadd C dL_law_310 ?_
        obtain ⟨x311, ex311, hf⟩ := Option.bind_eq_some_iff.mp hf
        refine r_scrld C SX dL_law_311 ex311 ?_
        obtain ⟨x312, ex312, hf⟩ := Option.bind_eq_some_iff.mp hf
        refine r_callVi C w_mX8_days w_iX8_days w_lL_38 (by decide) (as := [.int x301, .int x306, .int x311]) rfl (c := 8) (by decide) rfl (Nat.le_of_ble_eq_true rfl) (by decide) dL_law_312 rfl (k_X8_days ex312).1 (k_X8_days ex312).2 ?_
        refine r_pop C dL_law_315 rfl ?_
        refine r_goto C 1071 dL_law_316 (by decide) ?_
        exact l_L_law_J1071 C _ L xs SX ho R0 _ _ _ _ _ _ hf (fun _ _ _ _ q => l_L_law_L18 C _ L xs SX ho R0 _ _ _ _ _ q )
      rw [if_neg c_32_4] at hf
      by_cases c_32_5 : (x28 &&& 31) = 5
      · rw [if_pos c_32_5] at hf
        refine r_tableIn C 319 dL_law_32 (by rw [c_32_5]; decide) (by rw [c_32_5]; decide) (by rw [c_32_5]; first | done | rfl) (by decide) ?_
        refine r_aload_n C dL_law_319 rfl rfl ?_
        refine r_aload_n C dL_law_320 rfl rfl ?_
        refine r_iload_n C dL_law_321 rfl rfl ?_
        refine r_iconst C dL_law_322 ic_1 ?_
        refine r_iadd C dL_law_323 ?_
        obtain ⟨x324, ex324, hf⟩ := Option.bind_eq_some_iff.mp hf
        refine r_scrld C SX dL_law_324 ex324 ?_
        refine r_aload_n C dL_law_325 rfl rfl ?_
        refine r_iload_n C dL_law_326 rfl rfl ?_
        refine r_iconst C dL_law_327 ic_2 ?_
        refine r_iadd C dL_law_328 ?_
        obtain ⟨x329, ex329, hf⟩ := Option.bind_eq_some_iff.mp hf
        refine r_scrld C SX dL_law_329 ex329 ?_
        refine r_aload_n C dL_law_330 rfl rfl ?_
        refine r_iload_n C dL_law_331 rfl rfl ?_
        refine r_iconst C dL_law_332 ic_3 ?_
        refine r_iadd C dL_law_333 ?_
        obtain ⟨x334, ex334, hf⟩ := Option.bind_eq_some_iff.mp hf
        refine r_scrld C SX dL_law_334 ex334 ?_
        obtain ⟨x335, ex335, hf⟩ := Option.bind_eq_some_iff.mp hf
        refine r_callVi C w_mX7_step w_iX7_step w_lL_39 (by decide) (as := [.int x324, .int x329, .int x334]) rfl (c := 7) (by decide) rfl (Nat.le_of_ble_eq_true rfl) (by decide) dL_law_335 rfl (k_X7_step ex335).1 (k_X7_step ex335).2 ?_
        refine r_pop C dL_law_338 rfl ?_
        refine r_aload_n C dL_law_339 rfl rfl ?_
        refine r_aload_n C dL_law_340 rfl rfl ?_
        refine r_iload_n C dL_law_341 rfl rfl ?_
        refine r_iconst C dL_law_342 ic_1 ?_
        refine r_iadd C dL_law_343 ?_
        obtain ⟨x344, ex344, hf⟩ := Option.bind_eq_some_iff.mp hf
        refine r_scrld C SX dL_law_344 ex344 ?_
        refine r_aload_n C dL_law_345 rfl rfl ?_
        refine r_iload_n C dL_law_346 rfl rfl ?_
        refine r_iconst C dL_law_347 ic_2 ?_
        refine r_iadd C dL_law_348 ?_
        obtain ⟨x349, ex349, hf⟩ := Option.bind_eq_some_iff.mp hf
        refine r_scrld C SX dL_law_349 ex349 ?_
        refine r_aload_n C dL_law_350 rfl rfl ?_
        refine r_iload_n C dL_law_351 rfl rfl ?_
        refine r_iconst C dL_law_352 ic_3 ?_
        refine r_iadd C dL_law_353 ?_
        obtain ⟨x354, ex354, hf⟩ := Option.bind_eq_some_iff.mp hf
        refine r_scrld C SX dL_law_354 ex354 ?_
        obtain ⟨x355, ex355, hf⟩ := Option.bind_eq_some_iff.mp hf
        refine r_callVi C w_mX8_step w_iX8_step w_lL_42 (by decide) (as := [.int x344, .int x349, .int x354]) rfl (c := 8) (by decide) rfl (Nat.le_of_ble_eq_true rfl) (by decide) dL_law_355 rfl (k_X8_step ex355).1 (k_X8_step ex355).2 ?_
        refine r_pop C dL_law_358 rfl ?_
        refine r_goto C 1071 dL_law_359 (by decide) ?_
        exact l_L_law_J1071 C _ L xs SX ho R0 _ _ _ _ _ _ hf (fun _ _ _ _ q => l_L_law_L18 C _ L xs SX ho R0 _ _ _ _ _ q )
      rw [if_neg c_32_5] at hf
      by_cases c_32_6 : (x28 &&& 31) = 6
      · rw [if_pos c_32_6] at hf
        refine r_tableIn C 362 dL_law_32 (by rw [c_32_6]; decide) (by rw [c_32_6]; decide) (by rw [c_32_6]; first | done | rfl) (by decide) ?_
        refine r_aload_n C dL_law_362 rfl rfl ?_
        refine r_aload_n C dL_law_363 rfl rfl ?_
        refine r_iload_n C dL_law_364 rfl rfl ?_
        refine r_iconst C dL_law_365 ic_1 ?_
        refine r_iadd C dL_law_366 ?_
        obtain ⟨x367, ex367, hf⟩ := Option.bind_eq_some_iff.mp hf
        refine r_scrld C SX dL_law_367 ex367 ?_
        refine r_aload_n C dL_law_368 rfl rfl ?_
        refine r_iload_n C dL_law_369 rfl rfl ?_
        refine r_iconst C dL_law_370 ic_2 ?_
        refine r_iadd C dL_law_371 ?_
        obtain ⟨x372, ex372, hf⟩ := Option.bind_eq_some_iff.mp hf
        refine r_scrld C SX dL_law_372 ex372 ?_
        refine r_aload_n C dL_law_373 rfl rfl ?_
        refine r_iload_n C dL_law_374 rfl rfl ?_
        refine r_iconst C dL_law_375 ic_3 ?_
        refine r_iadd C dL_law_376 ?_
        obtain ⟨x377, ex377, hf⟩ := Option.bind_eq_some_iff.mp hf
        refine r_scrld C SX dL_law_377 ex377 ?_
        refine r_aload_n C dL_law_378 rfl rfl ?_
        refine r_iload_n C dL_law_379 rfl rfl ?_
        refine r_iconst C dL_law_380 ic_4 ?_
        refine r_iadd C dL_law_381 ?_
        obtain ⟨x382, ex382, hf⟩ := Option.bind_eq_some_iff.mp hf
        refine r_scrld C SX dL_law_382 ex382 ?_
        obtain ⟨x383, ex383, hf⟩ := Option.bind_eq_some_iff.mp hf
        refine r_callVi C w_mX7_may w_iX7_may w_lL_43 (by decide) (as := [.int x367, .int x372, .int x377, .int x382]) rfl (c := 7) (by decide) rfl (Nat.le_of_ble_eq_true rfl) (by decide) dL_law_383 rfl (k_X7_may ex383).1 (k_X7_may ex383).2 ?_
        refine r_pop C dL_law_386 rfl ?_
        refine r_aload_n C dL_law_387 rfl rfl ?_
        refine r_aload_n C dL_law_388 rfl rfl ?_
        refine r_iload_n C dL_law_389 rfl rfl ?_
        refine r_iconst C dL_law_390 ic_1 ?_
        refine r_iadd C dL_law_391 ?_
        obtain ⟨x392, ex392, hf⟩ := Option.bind_eq_some_iff.mp hf
        refine r_scrld C SX dL_law_392 ex392 ?_
        refine r_aload_n C dL_law_393 rfl rfl ?_
        refine r_iload_n C dL_law_394 rfl rfl ?_
        refine r_iconst C dL_law_395 ic_2 ?_
        refine r_iadd C dL_law_396 ?_
        obtain ⟨x397, ex397, hf⟩ := Option.bind_eq_some_iff.mp hf
        refine r_scrld C SX dL_law_397 ex397 ?_
        refine r_aload_n C dL_law_398 rfl rfl ?_
        refine r_iload_n C dL_law_399 rfl rfl ?_
        refine r_iconst C dL_law_400 ic_3 ?_
        refine r_iadd C dL_law_401 ?_
        obtain ⟨x402, ex402, hf⟩ := Option.bind_eq_some_iff.mp hf
        refine r_scrld C SX dL_law_402 ex402 ?_
        refine r_aload_n C dL_law_403 rfl rfl ?_
        refine r_iload_n C dL_law_404 rfl rfl ?_
        refine r_iconst C dL_law_405 ic_4 ?_
        refine r_iadd C dL_law_406 ?_
        obtain ⟨x407, ex407, hf⟩ := Option.bind_eq_some_iff.mp hf
        refine r_scrld C SX dL_law_407 ex407 ?_
        obtain ⟨x408, ex408, hf⟩ := Option.bind_eq_some_iff.mp hf
        refine r_callVi C w_mX8_may w_iX8_may w_lL_47 (by decide) (as := [.int x392, .int x397, .int x402, .int x407]) rfl (c := 8) (by decide) rfl (Nat.le_of_ble_eq_true rfl) (by decide) dL_law_408 rfl (k_X8_may ex408).1 (k_X8_may ex408).2 ?_
        refine r_pop C dL_law_411 rfl ?_
        refine r_goto C 1071 dL_law_412 (by decide) ?_
        exact l_L_law_J1071 C _ L xs SX ho R0 _ _ _ _ _ _ hf (fun _ _ _ _ q => l_L_law_L18 C _ L xs SX ho R0 _ _ _ _ _ q )
      rw [if_neg c_32_6] at hf
      by_cases c_32_7 : (x28 &&& 31) = 7
      · rw [if_pos c_32_7] at hf
        refine r_tableIn C 415 dL_law_32 (by rw [c_32_7]; decide) (by rw [c_32_7]; decide) (by rw [c_32_7]; first | done | rfl) (by decide) ?_
        refine r_aload_n C dL_law_415 rfl rfl ?_
        refine r_aload_n C dL_law_416 rfl rfl ?_
        refine r_iload_n C dL_law_417 rfl rfl ?_
        refine r_iconst C dL_law_418 ic_1 ?_
        refine r_iadd C dL_law_419 ?_
        obtain ⟨x420, ex420, hf⟩ := Option.bind_eq_some_iff.mp hf
        refine r_scrld C SX dL_law_420 ex420 ?_
        refine r_aload_n C dL_law_421 rfl rfl ?_
        refine r_iload_n C dL_law_422 rfl rfl ?_
        refine r_iconst C dL_law_423 ic_2 ?_
        refine r_iadd C dL_law_424 ?_
        obtain ⟨x425, ex425, hf⟩ := Option.bind_eq_some_iff.mp hf
        refine r_scrld C SX dL_law_425 ex425 ?_
        obtain ⟨x426, ex426, hf⟩ := Option.bind_eq_some_iff.mp hf
        refine r_callVi C w_mX7_person w_iX7_person w_lL_48 (by decide) (as := [.int x420, .int x425]) rfl (c := 7) (by decide) rfl (Nat.le_of_ble_eq_true rfl) (by decide) dL_law_426 rfl (k_X7_person ex426).1 (k_X7_person ex426).2 ?_
        refine r_pop C dL_law_429 rfl ?_
        refine r_aload_n C dL_law_430 rfl rfl ?_
        refine r_aload_n C dL_law_431 rfl rfl ?_
        refine r_iload_n C dL_law_432 rfl rfl ?_
        refine r_iconst C dL_law_433 ic_1 ?_
        refine r_iadd C dL_law_434 ?_
        obtain ⟨x435, ex435, hf⟩ := Option.bind_eq_some_iff.mp hf
        refine r_scrld C SX dL_law_435 ex435 ?_
        refine r_aload_n C dL_law_436 rfl rfl ?_
        refine r_iload_n C dL_law_437 rfl rfl ?_
        refine r_iconst C dL_law_438 ic_2 ?_
        refine r_iadd C dL_law_439 ?_
        obtain ⟨x440, ex440, hf⟩ := Option.bind_eq_some_iff.mp hf
        refine r_scrld C SX dL_law_440 ex440 ?_
        obtain ⟨x441, ex441, hf⟩ := Option.bind_eq_some_iff.mp hf
        refine r_callVi C w_mX8_person w_iX8_person w_lL_52 (by decide) (as := [.int x435, .int x440]) rfl (c := 8) (by decide) rfl (Nat.le_of_ble_eq_true rfl) (by decide) dL_law_441 rfl (k_X8_person ex441).1 (k_X8_person ex441).2 ?_
        refine r_pop C dL_law_444 rfl ?_
        refine r_goto C 1071 dL_law_445 (by decide) ?_
        exact l_L_law_J1071 C _ L xs SX ho R0 _ _ _ _ _ _ hf (fun _ _ _ _ q => l_L_law_L18 C _ L xs SX ho R0 _ _ _ _ _ q )
      rw [if_neg c_32_7] at hf
      by_cases c_32_8 : (x28 &&& 31) = 8
      · rw [if_pos c_32_8] at hf
        refine r_tableIn C 448 dL_law_32 (by rw [c_32_8]; decide) (by rw [c_32_8]; decide) (by rw [c_32_8]; first | done | rfl) (by decide) ?_
        refine r_aload_n C dL_law_448 rfl rfl ?_
        refine r_aload_n C dL_law_449 rfl rfl ?_
        refine r_iload_n C dL_law_450 rfl rfl ?_
        refine r_iconst C dL_law_451 ic_1 ?_
        refine r_iadd C dL_law_452 ?_
        obtain ⟨x453, ex453, hf⟩ := Option.bind_eq_some_iff.mp hf
        refine r_scrld C SX dL_law_453 ex453 ?_
        refine r_aload_n C dL_law_454 rfl rfl ?_
        refine r_iload_n C dL_law_455 rfl rfl ?_
        refine r_iconst C dL_law_456 ic_2 ?_
        refine r_iadd C dL_law_457 ?_
        obtain ⟨x458, ex458, hf⟩ := Option.bind_eq_some_iff.mp hf
        refine r_scrld C SX dL_law_458 ex458 ?_
        obtain ⟨x459, ex459, hf⟩ := Option.bind_eq_some_iff.mp hf
        refine r_callVi C w_mX7_who w_iX7_who w_lL_53 (by decide) (as := [.int x453, .int x458]) rfl (c := 7) (by decide) rfl (Nat.le_of_ble_eq_true rfl) (by decide) dL_law_459 rfl (k_X7_who ex459).1 (k_X7_who ex459).2 ?_
        refine r_pop C dL_law_462 rfl ?_
        refine r_aload_n C dL_law_463 rfl rfl ?_
        refine r_aload_n C dL_law_464 rfl rfl ?_
        refine r_iload_n C dL_law_465 rfl rfl ?_
        refine r_iconst C dL_law_466 ic_1 ?_
        refine r_iadd C dL_law_467 ?_
        obtain ⟨x468, ex468, hf⟩ := Option.bind_eq_some_iff.mp hf
        refine r_scrld C SX dL_law_468 ex468 ?_
        refine r_aload_n C dL_law_469 rfl rfl ?_
        refine r_iload_n C dL_law_470 rfl rfl ?_
        refine r_iconst C dL_law_471 ic_2 ?_
        refine r_iadd C dL_law_472 ?_
        obtain ⟨x473, ex473, hf⟩ := Option.bind_eq_some_iff.mp hf
        refine r_scrld C SX dL_law_473 ex473 ?_
        obtain ⟨x474, ex474, hf⟩ := Option.bind_eq_some_iff.mp hf
        refine r_callVi C w_mX8_who w_iX8_who w_lL_56 (by decide) (as := [.int x468, .int x473]) rfl (c := 8) (by decide) rfl (Nat.le_of_ble_eq_true rfl) (by decide) dL_law_474 rfl (k_X8_who ex474).1 (k_X8_who ex474).2 ?_
        refine r_pop C dL_law_477 rfl ?_
        refine r_goto C 1071 dL_law_478 (by decide) ?_
        exact l_L_law_J1071 C _ L xs SX ho R0 _ _ _ _ _ _ hf (fun _ _ _ _ q => l_L_law_L18 C _ L xs SX ho R0 _ _ _ _ _ q )
      rw [if_neg c_32_8] at hf
      by_cases c_32_9 : (x28 &&& 31) = 9
      · rw [if_pos c_32_9] at hf
        refine r_tableIn C 481 dL_law_32 (by rw [c_32_9]; decide) (by rw [c_32_9]; decide) (by rw [c_32_9]; first | done | rfl) (by decide) ?_
        refine r_aload_n C dL_law_481 rfl rfl ?_
        refine r_aload_n C dL_law_482 rfl rfl ?_
        refine r_iload_n C dL_law_483 rfl rfl ?_
        refine r_iconst C dL_law_484 ic_1 ?_
        refine r_iadd C dL_law_485 ?_
        obtain ⟨x486, ex486, hf⟩ := Option.bind_eq_some_iff.mp hf
        refine r_scrld C SX dL_law_486 ex486 ?_
        refine r_aload_n C dL_law_487 rfl rfl ?_
        refine r_iload_n C dL_law_488 rfl rfl ?_
        refine r_iconst C dL_law_489 ic_2 ?_
        refine r_iadd C dL_law_490 ?_
        obtain ⟨x491, ex491, hf⟩ := Option.bind_eq_some_iff.mp hf
        refine r_scrld C SX dL_law_491 ex491 ?_
        refine r_aload_n C dL_law_492 rfl rfl ?_
        refine r_iload_n C dL_law_493 rfl rfl ?_
        refine r_iconst C dL_law_494 ic_3 ?_
        refine r_iadd C dL_law_495 ?_
        obtain ⟨x496, ex496, hf⟩ := Option.bind_eq_some_iff.mp hf
        refine r_scrld C SX dL_law_496 ex496 ?_
        obtain ⟨x497, ex497, hf⟩ := Option.bind_eq_some_iff.mp hf
        refine r_callVi C w_mX7_act w_iX7_act w_lL_57 (by decide) (as := [.int x486, .int x491, .int x496]) rfl (c := 7) (by decide) rfl (Nat.le_of_ble_eq_true rfl) (by decide) dL_law_497 rfl (k_X7_act ex497).1 (k_X7_act ex497).2 ?_
        refine r_pop C dL_law_500 rfl ?_
        refine r_aload_n C dL_law_501 rfl rfl ?_
        refine r_aload_n C dL_law_502 rfl rfl ?_
        refine r_iload_n C dL_law_503 rfl rfl ?_
        refine r_iconst C dL_law_504 ic_1 ?_
        refine r_iadd C dL_law_505 ?_
        obtain ⟨x506, ex506, hf⟩ := Option.bind_eq_some_iff.mp hf
        refine r_scrld C SX dL_law_506 ex506 ?_
        refine r_aload_n C dL_law_507 rfl rfl ?_
        refine r_iload_n C dL_law_508 rfl rfl ?_
        refine r_iconst C dL_law_509 ic_2 ?_
        refine r_iadd C dL_law_510 ?_
        obtain ⟨x511, ex511, hf⟩ := Option.bind_eq_some_iff.mp hf
        refine r_scrld C SX dL_law_511 ex511 ?_
        refine r_aload_n C dL_law_512 rfl rfl ?_
        refine r_iload_n C dL_law_513 rfl rfl ?_
        refine r_iconst C dL_law_514 ic_3 ?_
        refine r_iadd C dL_law_515 ?_
        obtain ⟨x516, ex516, hf⟩ := Option.bind_eq_some_iff.mp hf
        refine r_scrld C SX dL_law_516 ex516 ?_
        obtain ⟨x517, ex517, hf⟩ := Option.bind_eq_some_iff.mp hf
        refine r_callVi C w_mX8_act w_iX8_act w_lL_60 (by decide) (as := [.int x506, .int x511, .int x516]) rfl (c := 8) (by decide) rfl (Nat.le_of_ble_eq_true rfl) (by decide) dL_law_517 rfl (k_X8_act ex517).1 (k_X8_act ex517).2 ?_
        refine r_pop C dL_law_520 rfl ?_
        refine r_goto C 1071 dL_law_521 (by decide) ?_
        exact l_L_law_J1071 C _ L xs SX ho R0 _ _ _ _ _ _ hf (fun _ _ _ _ q => l_L_law_L18 C _ L xs SX ho R0 _ _ _ _ _ q )
      rw [if_neg c_32_9] at hf
      by_cases c_32_10 : (x28 &&& 31) = 10
      · rw [if_pos c_32_10] at hf
        refine r_tableIn C 524 dL_law_32 (by rw [c_32_10]; decide) (by rw [c_32_10]; decide) (by rw [c_32_10]; first | done | rfl) (by decide) ?_
        refine r_aload_n C dL_law_524 rfl rfl ?_
        refine r_aload_n C dL_law_525 rfl rfl ?_
        refine r_iload_n C dL_law_526 rfl rfl ?_
        refine r_iconst C dL_law_527 ic_1 ?_
        refine r_iadd C dL_law_528 ?_
        obtain ⟨x529, ex529, hf⟩ := Option.bind_eq_some_iff.mp hf
        refine r_scrld C SX dL_law_529 ex529 ?_
        obtain ⟨x530, ex530, hf⟩ := Option.bind_eq_some_iff.mp hf
        refine r_callVi C w_mX7_now w_iX7_now w_lL_61 (by decide) (as := [.int x529]) rfl (c := 7) (by decide) rfl (Nat.le_of_ble_eq_true rfl) (by decide) dL_law_530 rfl (k_X7_now ex530).1 (k_X7_now ex530).2 ?_
        refine r_pop C dL_law_533 rfl ?_
        refine r_aload_n C dL_law_534 rfl rfl ?_
        refine r_aload_n C dL_law_535 rfl rfl ?_
        refine r_iload_n C dL_law_536 rfl rfl ?_
        refine r_iconst C dL_law_537 ic_1 ?_
        refine r_iadd C dL_law_538 ?_
        obtain ⟨x539, ex539, hf⟩ := Option.bind_eq_some_iff.mp hf
        refine r_scrld C SX dL_law_539 ex539 ?_
        obtain ⟨x540, ex540, hf⟩ := Option.bind_eq_some_iff.mp hf
        refine r_callVi C w_mX8_now w_iX8_now w_lL_64 (by decide) (as := [.int x539]) rfl (c := 8) (by decide) rfl (Nat.le_of_ble_eq_true rfl) (by decide) dL_law_540 rfl (k_X8_now ex540).1 (k_X8_now ex540).2 ?_
        refine r_pop C dL_law_543 rfl ?_
        refine r_goto C 1071 dL_law_544 (by decide) ?_
        exact l_L_law_J1071 C _ L xs SX ho R0 _ _ _ _ _ _ hf (fun _ _ _ _ q => l_L_law_L18 C _ L xs SX ho R0 _ _ _ _ _ q )
      rw [if_neg c_32_10] at hf
      by_cases c_32_11 : (x28 &&& 31) = 11
      · rw [if_pos c_32_11] at hf
        refine r_tableIn C 547 dL_law_32 (by rw [c_32_11]; decide) (by rw [c_32_11]; decide) (by rw [c_32_11]; first | done | rfl) (by decide) ?_
        refine r_aload_n C dL_law_547 rfl rfl ?_
        refine r_aload_n C dL_law_548 rfl rfl ?_
        refine r_iload_n C dL_law_549 rfl rfl ?_
        refine r_iconst C dL_law_550 ic_1 ?_
        refine r_iadd C dL_law_551 ?_
        obtain ⟨x552, ex552, hf⟩ := Option.bind_eq_some_iff.mp hf
        refine r_scrld C SX dL_law_552 ex552 ?_
        refine r_aload_n C dL_law_553 rfl rfl ?_
        refine r_iload_n C dL_law_554 rfl rfl ?_
        refine r_iconst C dL_law_555 ic_2 ?_
        refine r_iadd C dL_law_556 ?_
        obtain ⟨x557, ex557, hf⟩ := Option.bind_eq_some_iff.mp hf
        refine r_scrld C SX dL_law_557 ex557 ?_
        obtain ⟨x558, ex558, hf⟩ := Option.bind_eq_some_iff.mp hf
        refine r_callVi C w_mX7_bill w_iX7_bill w_lL_65 (by decide) (as := [.int x552, .int x557]) rfl (c := 7) (by decide) rfl (Nat.le_of_ble_eq_true rfl) (by decide) dL_law_558 rfl (k_X7_bill ex558).1 (k_X7_bill ex558).2 ?_
        refine r_pop C dL_law_561 rfl ?_
        refine r_aload_n C dL_law_562 rfl rfl ?_
        refine r_aload_n C dL_law_563 rfl rfl ?_
        refine r_iload_n C dL_law_564 rfl rfl ?_
        refine r_iconst C dL_law_565 ic_1 ?_
        refine r_iadd C dL_law_566 ?_
        obtain ⟨x567, ex567, hf⟩ := Option.bind_eq_some_iff.mp hf
        refine r_scrld C SX dL_law_567 ex567 ?_
        refine r_aload_n C dL_law_568 rfl rfl ?_
        refine r_iload_n C dL_law_569 rfl rfl ?_
        refine r_iconst C dL_law_570 ic_2 ?_
        refine r_iadd C dL_law_571 ?_
        obtain ⟨x572, ex572, hf⟩ := Option.bind_eq_some_iff.mp hf
        refine r_scrld C SX dL_law_572 ex572 ?_
        obtain ⟨x573, ex573, hf⟩ := Option.bind_eq_some_iff.mp hf
        refine r_callVi C w_mX8_bill w_iX8_bill w_lL_68 (by decide) (as := [.int x567, .int x572]) rfl (c := 8) (by decide) rfl (Nat.le_of_ble_eq_true rfl) (by decide) dL_law_573 rfl (k_X8_bill ex573).1 (k_X8_bill ex573).2 ?_
        refine r_pop C dL_law_576 rfl ?_
        refine r_goto C 1071 dL_law_577 (by decide) ?_
        exact l_L_law_J1071 C _ L xs SX ho R0 _ _ _ _ _ _ hf (fun _ _ _ _ q => l_L_law_L18 C _ L xs SX ho R0 _ _ _ _ _ q )
      rw [if_neg c_32_11] at hf
      by_cases c_32_12 : (x28 &&& 31) = 12
      · rw [if_pos c_32_12] at hf
        refine r_tableIn C 580 dL_law_32 (by rw [c_32_12]; decide) (by rw [c_32_12]; decide) (by rw [c_32_12]; first | done | rfl) (by decide) ?_
        refine r_aload_n C dL_law_580 rfl rfl ?_
        refine r_aload_n C dL_law_581 rfl rfl ?_
        refine r_iload_n C dL_law_582 rfl rfl ?_
        refine r_iconst C dL_law_583 ic_1 ?_
        refine r_iadd C dL_law_584 ?_
        obtain ⟨x585, ex585, hf⟩ := Option.bind_eq_some_iff.mp hf
        refine r_scrld C SX dL_law_585 ex585 ?_
        refine r_aload_n C dL_law_586 rfl rfl ?_
        refine r_iload_n C dL_law_587 rfl rfl ?_
        refine r_iconst C dL_law_588 ic_2 ?_
        refine r_iadd C dL_law_589 ?_
        obtain ⟨x590, ex590, hf⟩ := Option.bind_eq_some_iff.mp hf
        refine r_scrld C SX dL_law_590 ex590 ?_
        obtain ⟨x591, ex591, hf⟩ := Option.bind_eq_some_iff.mp hf
        refine r_callVi C w_mX7_soon w_iX7_soon w_lL_69 (by decide) (as := [.int x585, .int x590]) rfl (c := 7) (by decide) rfl (Nat.le_of_ble_eq_true rfl) (by decide) dL_law_591 rfl (k_X7_soon ex591).1 (k_X7_soon ex591).2 ?_
        refine r_pop C dL_law_594 rfl ?_
        refine r_aload_n C dL_law_595 rfl rfl ?_
        refine r_aload_n C dL_law_596 rfl rfl ?_
        refine r_iload_n C dL_law_597 rfl rfl ?_
        refine r_iconst C dL_law_598 ic_1 ?_
        refine r_iadd C dL_law_599 ?_
        obtain ⟨x600, ex600, hf⟩ := Option.bind_eq_some_iff.mp hf
        refine r_scrld C SX dL_law_600 ex600 ?_
        refine r_aload_n C dL_law_601 rfl rfl ?_
        refine r_iload_n C dL_law_602 rfl rfl ?_
        refine r_iconst C dL_law_603 ic_2 ?_
        refine r_iadd C dL_law_604 ?_
        obtain ⟨x605, ex605, hf⟩ := Option.bind_eq_some_iff.mp hf
        refine r_scrld C SX dL_law_605 ex605 ?_
        obtain ⟨x606, ex606, hf⟩ := Option.bind_eq_some_iff.mp hf
        refine r_callVi C w_mX8_soon w_iX8_soon w_lL_72 (by decide) (as := [.int x600, .int x605]) rfl (c := 8) (by decide) rfl (Nat.le_of_ble_eq_true rfl) (by decide) dL_law_606 rfl (k_X8_soon ex606).1 (k_X8_soon ex606).2 ?_
        refine r_pop C dL_law_609 rfl ?_
        refine r_goto C 1071 dL_law_610 (by decide) ?_
        exact l_L_law_J1071 C _ L xs SX ho R0 _ _ _ _ _ _ hf (fun _ _ _ _ q => l_L_law_L18 C _ L xs SX ho R0 _ _ _ _ _ q )
      rw [if_neg c_32_12] at hf
      by_cases c_32_13 : (x28 &&& 31) = 13
      · rw [if_pos c_32_13] at hf
        refine r_tableIn C 613 dL_law_32 (by rw [c_32_13]; decide) (by rw [c_32_13]; decide) (by rw [c_32_13]; first | done | rfl) (by decide) ?_
        refine r_aload_n C dL_law_613 rfl rfl ?_
        refine r_aload_n C dL_law_614 rfl rfl ?_
        refine r_iload_n C dL_law_615 rfl rfl ?_
        refine r_iconst C dL_law_616 ic_1 ?_
        refine r_iadd C dL_law_617 ?_
        obtain ⟨x618, ex618, hf⟩ := Option.bind_eq_some_iff.mp hf
        refine r_scrld C SX dL_law_618 ex618 ?_
        obtain ⟨x619, ex619, hf⟩ := Option.bind_eq_some_iff.mp hf
        refine r_callVi C w_mX7_against w_iX7_against w_lL_73 (by decide) (as := [.int x618]) rfl (c := 7) (by decide) rfl (Nat.le_of_ble_eq_true rfl) (by decide) dL_law_619 rfl (k_X7_against ex619).1 (k_X7_against ex619).2 ?_
        refine r_pop C dL_law_622 rfl ?_
        refine r_aload_n C dL_law_623 rfl rfl ?_
        refine r_aload_n C dL_law_624 rfl rfl ?_
        refine r_iload_n C dL_law_625 rfl rfl ?_
        refine r_iconst C dL_law_626 ic_1 ?_
        refine r_iadd C dL_law_627 ?_
        obtain ⟨x628, ex628, hf⟩ := Option.bind_eq_some_iff.mp hf
        refine r_scrld C SX dL_law_628 ex628 ?_
        obtain ⟨x629, ex629, hf⟩ := Option.bind_eq_some_iff.mp hf
        refine r_callVi C w_mX8_against w_iX8_against w_lL_76 (by decide) (as := [.int x628]) rfl (c := 8) (by decide) rfl (Nat.le_of_ble_eq_true rfl) (by decide) dL_law_629 rfl (k_X8_against ex629).1 (k_X8_against ex629).2 ?_
        refine r_pop C dL_law_632 rfl ?_
        refine r_goto C 1071 dL_law_633 (by decide) ?_
        exact l_L_law_J1071 C _ L xs SX ho R0 _ _ _ _ _ _ hf (fun _ _ _ _ q => l_L_law_L18 C _ L xs SX ho R0 _ _ _ _ _ q )
      rw [if_neg c_32_13] at hf
      by_cases c_32_14 : (x28 &&& 31) = 14
      · rw [if_pos c_32_14] at hf
        refine r_tableIn C 636 dL_law_32 (by rw [c_32_14]; decide) (by rw [c_32_14]; decide) (by rw [c_32_14]; first | done | rfl) (by decide) ?_
        refine r_aload_n C dL_law_636 rfl rfl ?_
        refine r_aload_n C dL_law_637 rfl rfl ?_
        refine r_iload_n C dL_law_638 rfl rfl ?_
        refine r_iconst C dL_law_639 ic_1 ?_
        refine r_iadd C dL_law_640 ?_
        obtain ⟨x641, ex641, hf⟩ := Option.bind_eq_some_iff.mp hf
        refine r_scrld C SX dL_law_641 ex641 ?_
        refine r_aload_n C dL_law_642 rfl rfl ?_
        refine r_iload_n C dL_law_643 rfl rfl ?_
        refine r_iconst C dL_law_644 ic_2 ?_
        refine r_iadd C dL_law_645 ?_
        obtain ⟨x646, ex646, hf⟩ := Option.bind_eq_some_iff.mp hf
        refine r_scrld C SX dL_law_646 ex646 ?_
        refine r_aload_n C dL_law_647 rfl rfl ?_
        refine r_iload_n C dL_law_648 rfl rfl ?_
        refine r_iconst C dL_law_649 ic_3 ?_
        refine r_iadd C dL_law_650 ?_
        obtain ⟨x651, ex651, hf⟩ := Option.bind_eq_some_iff.mp hf
        refine r_scrld C SX dL_law_651 ex651 ?_
        obtain ⟨x652, ex652, hf⟩ := Option.bind_eq_some_iff.mp hf
        refine r_callVi C w_mX7_sure w_iX7_sure w_lL_77 (by decide) (as := [.int x641, .int x646, .int x651]) rfl (c := 7) (by decide) rfl (Nat.le_of_ble_eq_true rfl) (by decide) dL_law_652 rfl (k_X7_sure ex652).1 (k_X7_sure ex652).2 ?_
        refine r_pop C dL_law_655 rfl ?_
        refine r_aload_n C dL_law_656 rfl rfl ?_
        refine r_aload_n C dL_law_657 rfl rfl ?_
        refine r_iload_n C dL_law_658 rfl rfl ?_
        refine r_iconst C dL_law_659 ic_1 ?_
        refine r_iadd C dL_law_660 ?_
        obtain ⟨x661, ex661, hf⟩ := Option.bind_eq_some_iff.mp hf
        refine r_scrld C SX dL_law_661 ex661 ?_
        refine r_aload_n C dL_law_662 rfl rfl ?_
        refine r_iload_n C dL_law_663 rfl rfl ?_
        refine r_iconst C dL_law_664 ic_2 ?_
        refine r_iadd C dL_law_665 ?_
        obtain ⟨x666, ex666, hf⟩ := Option.bind_eq_some_iff.mp hf
        refine r_scrld C SX dL_law_666 ex666 ?_
        refine r_aload_n C dL_law_667 rfl rfl ?_
        refine r_iload_n C dL_law_668 rfl rfl ?_
        refine r_iconst C dL_law_669 ic_3 ?_
        refine r_iadd C dL_law_670 ?_
        obtain ⟨x671, ex671, hf⟩ := Option.bind_eq_some_iff.mp hf
        refine r_scrld C SX dL_law_671 ex671 ?_
        obtain ⟨x672, ex672, hf⟩ := Option.bind_eq_some_iff.mp hf
        refine r_callVi C w_mX8_sure w_iX8_sure w_lL_80 (by decide) (as := [.int x661, .int x666, .int x671]) rfl (c := 8) (by decide) rfl (Nat.le_of_ble_eq_true rfl) (by decide) dL_law_672 rfl (k_X8_sure ex672).1 (k_X8_sure ex672).2 ?_
        refine r_pop C dL_law_675 rfl ?_
        refine r_goto C 1071 dL_law_676 (by decide) ?_
        exact l_L_law_J1071 C _ L xs SX ho R0 _ _ _ _ _ _ hf (fun _ _ _ _ q => l_L_law_L18 C _ L xs SX ho R0 _ _ _ _ _ q )
      rw [if_neg c_32_14] at hf
      by_cases c_32_15 : (x28 &&& 31) = 15
      · rw [if_pos c_32_15] at hf
        refine r_tableIn C 679 dL_law_32 (by rw [c_32_15]; decide) (by rw [c_32_15]; decide) (by rw [c_32_15]; first | done | rfl) (by decide) ?_
        refine r_aload_n C dL_law_679 rfl rfl ?_
        refine r_aload_n C dL_law_680 rfl rfl ?_
        refine r_iload_n C dL_law_681 rfl rfl ?_
        refine r_iconst C dL_law_682 ic_1 ?_
        refine r_iadd C dL_law_683 ?_
        obtain ⟨x684, ex684, hf⟩ := Option.bind_eq_some_iff.mp hf
        refine r_scrld C SX dL_law_684 ex684 ?_
        refine r_aload_n C dL_law_685 rfl rfl ?_
        refine r_iload_n C dL_law_686 rfl rfl ?_
        refine r_iconst C dL_law_687 ic_2 ?_
        refine r_iadd C dL_law_688 ?_
        obtain ⟨x689, ex689, hf⟩ := Option.bind_eq_some_iff.mp hf
        refine r_scrld C SX dL_law_689 ex689 ?_
        obtain ⟨x690, ex690, hf⟩ := Option.bind_eq_some_iff.mp hf
        refine r_callVi C w_mX7_delay w_iX7_delay w_lL_81 (by decide) (as := [.int x684, .int x689]) rfl (c := 7) (by decide) rfl (Nat.le_of_ble_eq_true rfl) (by decide) dL_law_690 rfl (k_X7_delay ex690).1 (k_X7_delay ex690).2 ?_
        refine r_pop C dL_law_693 rfl ?_
        refine r_aload_n C dL_law_694 rfl rfl ?_
        refine r_aload_n C dL_law_695 rfl rfl ?_
        refine r_iload_n C dL_law_696 rfl rfl ?_
        refine r_iconst C dL_law_697 ic_1 ?_
        refine r_iadd C dL_law_698 ?_
        obtain ⟨x699, ex699, hf⟩ := Option.bind_eq_some_iff.mp hf
        refine r_scrld C SX dL_law_699 ex699 ?_
        refine r_aload_n C dL_law_700 rfl rfl ?_
        refine r_iload_n C dL_law_701 rfl rfl ?_
        refine r_iconst C dL_law_702 ic_2 ?_
        refine r_iadd C dL_law_703 ?_
        obtain ⟨x704, ex704, hf⟩ := Option.bind_eq_some_iff.mp hf
        refine r_scrld C SX dL_law_704 ex704 ?_
        obtain ⟨x705, ex705, hf⟩ := Option.bind_eq_some_iff.mp hf
        refine r_callVi C w_mX8_delay w_iX8_delay w_lL_84 (by decide) (as := [.int x699, .int x704]) rfl (c := 8) (by decide) rfl (Nat.le_of_ble_eq_true rfl) (by decide) dL_law_705 rfl (k_X8_delay ex705).1 (k_X8_delay ex705).2 ?_
        refine r_pop C dL_law_708 rfl ?_
        refine r_goto C 1071 dL_law_709 (by decide) ?_
        exact l_L_law_J1071 C _ L xs SX ho R0 _ _ _ _ _ _ hf (fun _ _ _ _ q => l_L_law_L18 C _ L xs SX ho R0 _ _ _ _ _ q )
      rw [if_neg c_32_15] at hf
      by_cases c_32_16 : (x28 &&& 31) = 16
      · rw [if_pos c_32_16] at hf
        refine r_tableIn C 712 dL_law_32 (by rw [c_32_16]; decide) (by rw [c_32_16]; decide) (by rw [c_32_16]; first | done | rfl) (by decide) ?_
        refine r_aload_n C dL_law_712 rfl rfl ?_
        refine r_aload_n C dL_law_713 rfl rfl ?_
        refine r_iload_n C dL_law_714 rfl rfl ?_
        refine r_iconst C dL_law_715 ic_1 ?_
        refine r_iadd C dL_law_716 ?_
        obtain ⟨x717, ex717, hf⟩ := Option.bind_eq_some_iff.mp hf
        refine r_scrld C SX dL_law_717 ex717 ?_
        refine r_aload_n C dL_law_718 rfl rfl ?_
        refine r_iload_n C dL_law_719 rfl rfl ?_
        refine r_iconst C dL_law_720 ic_2 ?_
        refine r_iadd C dL_law_721 ?_
        obtain ⟨x722, ex722, hf⟩ := Option.bind_eq_some_iff.mp hf
        refine r_scrld C SX dL_law_722 ex722 ?_
        obtain ⟨x723, ex723, hf⟩ := Option.bind_eq_some_iff.mp hf
        refine r_callVi C w_mX7_stop w_iX7_stop w_lL_85 (by decide) (as := [.int x717, .int x722]) rfl (c := 7) (by decide) rfl (Nat.le_of_ble_eq_true rfl) (by decide) dL_law_723 rfl (k_X7_stop ex723).1 (k_X7_stop ex723).2 ?_
        refine r_aload_n C dL_law_726 rfl rfl ?_
        refine r_aload_n C dL_law_727 rfl rfl ?_
        refine r_iload_n C dL_law_728 rfl rfl ?_
        refine r_iconst C dL_law_729 ic_1 ?_
        refine r_iadd C dL_law_730 ?_
        obtain ⟨x731, ex731, hf⟩ := Option.bind_eq_some_iff.mp hf
        refine r_scrld C SX dL_law_731 ex731 ?_
        refine r_aload_n C dL_law_732 rfl rfl ?_
        refine r_iload_n C dL_law_733 rfl rfl ?_
        refine r_iconst C dL_law_734 ic_2 ?_
        refine r_iadd C dL_law_735 ?_
        obtain ⟨x736, ex736, hf⟩ := Option.bind_eq_some_iff.mp hf
        refine r_scrld C SX dL_law_736 ex736 ?_
        obtain ⟨x737, ex737, hf⟩ := Option.bind_eq_some_iff.mp hf
        refine r_callVi C w_mX8_stop w_iX8_stop w_lL_88 (by decide) (as := [.int x731, .int x736]) rfl (c := 8) (by decide) rfl (Nat.le_of_ble_eq_true rfl) (by decide) dL_law_737 rfl (k_X8_stop ex737).1 (k_X8_stop ex737).2 ?_
        refine r_icmp_eq C 1071 dL_law_740 (by decide) (fun c_740 => ?_) (fun c_740 => ?_)
        · rw [if_pos c_740] at hf
          exact l_L_law_J1071 C _ L xs SX ho R0 _ _ _ _ _ _ hf (fun _ _ _ _ q => l_L_law_L18 C _ L xs SX ho R0 _ _ _ _ _ q )
        · rw [if_neg c_740] at hf
          refine r_iconst C dL_law_743 ic_0 ?_
          exact absurd ho (zr_no (by decide) hf)
      rw [if_neg c_32_16] at hf
      by_cases c_32_17 : (x28 &&& 31) = 17
      · rw [if_pos c_32_17] at hf
        refine r_tableIn C 745 dL_law_32 (by rw [c_32_17]; decide) (by rw [c_32_17]; decide) (by rw [c_32_17]; first | done | rfl) (by decide) ?_
        refine r_aload_n C dL_law_745 rfl rfl ?_
        obtain ⟨x746, ex746, hf⟩ := Option.bind_eq_some_iff.mp hf
        refine r_callVi C w_mX7_group w_iX7_group w_lL_89 (by decide) (as := []) rfl (c := 7) (by decide) rfl (Nat.le_of_ble_eq_true rfl) (by decide) dL_law_746 rfl (k_X7_group ex746).1 (k_X7_group ex746).2 ?_
        refine r_pop C dL_law_749 rfl ?_
        refine r_aload_n C dL_law_750 rfl rfl ?_
        obtain ⟨x751, ex751, hf⟩ := Option.bind_eq_some_iff.mp hf
        refine r_callVi C w_mX8_group w_iX8_group w_lL_92 (by decide) (as := []) rfl (c := 8) (by decide) rfl (Nat.le_of_ble_eq_true rfl) (by decide) dL_law_751 rfl (k_X8_group ex751).1 (k_X8_group ex751).2 ?_
        refine r_pop C dL_law_754 rfl ?_
        refine r_goto C 1071 dL_law_755 (by decide) ?_
        exact l_L_law_J1071 C _ L xs SX ho R0 _ _ _ _ _ _ hf (fun _ _ _ _ q => l_L_law_L18 C _ L xs SX ho R0 _ _ _ _ _ q )
      rw [if_neg c_32_17] at hf
      by_cases c_32_18 : (x28 &&& 31) = 18
      · rw [if_pos c_32_18] at hf
        refine r_tableIn C 758 dL_law_32 (by rw [c_32_18]; decide) (by rw [c_32_18]; decide) (by rw [c_32_18]; first | done | rfl) (by decide) ?_
        refine r_aload_n C dL_law_758 rfl rfl ?_
        refine r_aload_n C dL_law_759 rfl rfl ?_
        refine r_iload_n C dL_law_760 rfl rfl ?_
        refine r_iconst C dL_law_761 ic_1 ?_
        refine r_iadd C dL_law_762 ?_
        obtain ⟨x763, ex763, hf⟩ := Option.bind_eq_some_iff.mp hf
        refine r_scrld C SX dL_law_763 ex763 ?_
        refine r_aload_n C dL_law_764 rfl rfl ?_
        refine r_iload_n C dL_law_765 rfl rfl ?_
        refine r_iconst C dL_law_766 ic_2 ?_
        refine r_iadd C dL_law_767 ?_
        obtain ⟨x768, ex768, hf⟩ := Option.bind_eq_some_iff.mp hf
        refine r_scrld C SX dL_law_768 ex768 ?_
        refine r_aload_n C dL_law_769 rfl rfl ?_
        refine r_iload_n C dL_law_770 rfl rfl ?_
        refine r_iconst C dL_law_771 ic_3 ?_
        refine r_iadd C dL_law_772 ?_
        obtain ⟨x773, ex773, hf⟩ := Option.bind_eq_some_iff.mp hf
        refine r_scrld C SX dL_law_773 ex773 ?_
        obtain ⟨x774, ex774, hf⟩ := Option.bind_eq_some_iff.mp hf
        refine r_callVi C w_mX7_wish w_iX7_wish w_lL_93 (by decide) (as := [.int x763, .int x768, .int x773]) rfl (c := 7) (by decide) rfl (Nat.le_of_ble_eq_true rfl) (by decide) dL_law_774 rfl (k_X7_wish ex774).1 (k_X7_wish ex774).2 ?_
        refine r_pop C dL_law_777 rfl ?_
        refine r_aload_n C dL_law_778 rfl rfl ?_
        refine r_aload_n C dL_law_779 rfl rfl ?_
        refine r_iload_n C dL_law_780 rfl rfl ?_
        refine r_iconst C dL_law_781 ic_1 ?_
        refine r_iadd C dL_law_782 ?_
        obtain ⟨x783, ex783, hf⟩ := Option.bind_eq_some_iff.mp hf
        refine r_scrld C SX dL_law_783 ex783 ?_
        refine r_aload_n C dL_law_784 rfl rfl ?_
        refine r_iload_n C dL_law_785 rfl rfl ?_
        refine r_iconst C dL_law_786 ic_2 ?_
        refine r_iadd C dL_law_787 ?_
        obtain ⟨x788, ex788, hf⟩ := Option.bind_eq_some_iff.mp hf
        refine r_scrld C SX dL_law_788 ex788 ?_
        refine r_aload_n C dL_law_789 rfl rfl ?_
        refine r_iload_n C dL_law_790 rfl rfl ?_
        refine r_iconst C dL_law_791 ic_3 ?_
        refine r_iadd C dL_law_792 ?_
        obtain ⟨x793, ex793, hf⟩ := Option.bind_eq_some_iff.mp hf
        refine r_scrld C SX dL_law_793 ex793 ?_
        obtain ⟨x794, ex794, hf⟩ := Option.bind_eq_some_iff.mp hf
        refine r_callVi C w_mX8_wish w_iX8_wish w_lL_96 (by decide) (as := [.int x783, .int x788, .int x793]) rfl (c := 8) (by decide) rfl (Nat.le_of_ble_eq_true rfl) (by decide) dL_law_794 rfl (k_X8_wish ex794).1 (k_X8_wish ex794).2 ?_
        refine r_pop C dL_law_797 rfl ?_
        refine r_goto C 1071 dL_law_798 (by decide) ?_
        exact l_L_law_J1071 C _ L xs SX ho R0 _ _ _ _ _ _ hf (fun _ _ _ _ q => l_L_law_L18 C _ L xs SX ho R0 _ _ _ _ _ q )
      rw [if_neg c_32_18] at hf
      by_cases c_32_19 : (x28 &&& 31) = 19
      · rw [if_pos c_32_19] at hf
        refine r_tableIn C 801 dL_law_32 (by rw [c_32_19]; decide) (by rw [c_32_19]; decide) (by rw [c_32_19]; first | done | rfl) (by decide) ?_
        refine r_aload_n C dL_law_801 rfl rfl ?_
        refine r_aload_n C dL_law_802 rfl rfl ?_
        refine r_iload_n C dL_law_803 rfl rfl ?_
        refine r_iconst C dL_law_804 ic_1 ?_
        refine r_iadd C dL_law_805 ?_
        obtain ⟨x806, ex806, hf⟩ := Option.bind_eq_some_iff.mp hf
        refine r_scrld C SX dL_law_806 ex806 ?_
        obtain ⟨x807, ex807, hf⟩ := Option.bind_eq_some_iff.mp hf
        refine r_callVi C w_mX7_passes w_iX7_passes w_lL_97 (by decide) (as := [.int x806]) rfl (c := 7) (by decide) rfl (Nat.le_of_ble_eq_true rfl) (by decide) dL_law_807 rfl (k_X7_passes ex807).1 (k_X7_passes ex807).2 ?_
        refine r_pop C dL_law_810 rfl ?_
        refine r_aload_n C dL_law_811 rfl rfl ?_
        refine r_aload_n C dL_law_812 rfl rfl ?_
        refine r_iload_n C dL_law_813 rfl rfl ?_
        refine r_iconst C dL_law_814 ic_1 ?_
        refine r_iadd C dL_law_815 ?_
        obtain ⟨x816, ex816, hf⟩ := Option.bind_eq_some_iff.mp hf
        refine r_scrld C SX dL_law_816 ex816 ?_
        obtain ⟨x817, ex817, hf⟩ := Option.bind_eq_some_iff.mp hf
        refine r_callVi C w_mX8_passes w_iX8_passes w_lL_100 (by decide) (as := [.int x816]) rfl (c := 8) (by decide) rfl (Nat.le_of_ble_eq_true rfl) (by decide) dL_law_817 rfl (k_X8_passes ex817).1 (k_X8_passes ex817).2 ?_
        refine r_pop C dL_law_820 rfl ?_
        refine r_goto C 1071 dL_law_821 (by decide) ?_
        exact l_L_law_J1071 C _ L xs SX ho R0 _ _ _ _ _ _ hf (fun _ _ _ _ q => l_L_law_L18 C _ L xs SX ho R0 _ _ _ _ _ q )
      rw [if_neg c_32_19] at hf
      by_cases c_32_20 : (x28 &&& 31) = 20
      · rw [if_pos c_32_20] at hf
        refine r_tableIn C 824 dL_law_32 (by rw [c_32_20]; decide) (by rw [c_32_20]; decide) (by rw [c_32_20]; first | done | rfl) (by decide) ?_
        refine r_aload_n C dL_law_824 rfl rfl ?_
        refine r_aload_n C dL_law_825 rfl rfl ?_
        refine r_iload_n C dL_law_826 rfl rfl ?_
        refine r_iconst C dL_law_827 ic_1 ?_
        refine r_iadd C dL_law_828 ?_
        obtain ⟨x829, ex829, hf⟩ := Option.bind_eq_some_iff.mp hf
        refine r_scrld C SX dL_law_829 ex829 ?_
        refine r_aload_n C dL_law_830 rfl rfl ?_
        refine r_iload_n C dL_law_831 rfl rfl ?_
        refine r_iconst C dL_law_832 ic_2 ?_
        refine r_iadd C dL_law_833 ?_
        obtain ⟨x834, ex834, hf⟩ := Option.bind_eq_some_iff.mp hf
        refine r_scrld C SX dL_law_834 ex834 ?_
        obtain ⟨x835, ex835, hf⟩ := Option.bind_eq_some_iff.mp hf
        refine r_callVi C w_mX7_ride w_iX7_ride w_lL_101 (by decide) (as := [.int x829, .int x834]) rfl (c := 7) (by decide) rfl (Nat.le_of_ble_eq_true rfl) (by decide) dL_law_835 rfl (k_X7_ride ex835).1 (k_X7_ride ex835).2 ?_
        refine r_pop C dL_law_838 rfl ?_
        refine r_aload_n C dL_law_839 rfl rfl ?_
        refine r_aload_n C dL_law_840 rfl rfl ?_
        refine r_iload_n C dL_law_841 rfl rfl ?_
        refine r_iconst C dL_law_842 ic_1 ?_
        refine r_iadd C dL_law_843 ?_
        obtain ⟨x844, ex844, hf⟩ := Option.bind_eq_some_iff.mp hf
        refine r_scrld C SX dL_law_844 ex844 ?_
        refine r_aload_n C dL_law_845 rfl rfl ?_
        refine r_iload_n C dL_law_846 rfl rfl ?_
        refine r_iconst C dL_law_847 ic_2 ?_
        refine r_iadd C dL_law_848 ?_
        obtain ⟨x849, ex849, hf⟩ := Option.bind_eq_some_iff.mp hf
        refine r_scrld C SX dL_law_849 ex849 ?_
        obtain ⟨x850, ex850, hf⟩ := Option.bind_eq_some_iff.mp hf
        refine r_callVi C w_mX8_ride w_iX8_ride w_lL_104 (by decide) (as := [.int x844, .int x849]) rfl (c := 8) (by decide) rfl (Nat.le_of_ble_eq_true rfl) (by decide) dL_law_850 rfl (k_X8_ride ex850).1 (k_X8_ride ex850).2 ?_
        refine r_pop C dL_law_853 rfl ?_
        refine r_goto C 1071 dL_law_854 (by decide) ?_
        exact l_L_law_J1071 C _ L xs SX ho R0 _ _ _ _ _ _ hf (fun _ _ _ _ q => l_L_law_L18 C _ L xs SX ho R0 _ _ _ _ _ q )
      rw [if_neg c_32_20] at hf
      by_cases c_32_21 : (x28 &&& 31) = 21
      · rw [if_pos c_32_21] at hf
        refine r_tableIn C 857 dL_law_32 (by rw [c_32_21]; decide) (by rw [c_32_21]; decide) (by rw [c_32_21]; first | done | rfl) (by decide) ?_
        refine r_aload_n C dL_law_857 rfl rfl ?_
        refine r_aload_n C dL_law_858 rfl rfl ?_
        refine r_iload_n C dL_law_859 rfl rfl ?_
        refine r_iconst C dL_law_860 ic_1 ?_
        refine r_iadd C dL_law_861 ?_
        obtain ⟨x862, ex862, hf⟩ := Option.bind_eq_some_iff.mp hf
        refine r_scrld C SX dL_law_862 ex862 ?_
        obtain ⟨x863, ex863, hf⟩ := Option.bind_eq_some_iff.mp hf
        refine r_callVi C w_mX7_tears w_iX7_tears w_lL_105 (by decide) (as := [.int x862]) rfl (c := 7) (by decide) rfl (Nat.le_of_ble_eq_true rfl) (by decide) dL_law_863 rfl (k_X7_tears ex863).1 (k_X7_tears ex863).2 ?_
        refine r_pop C dL_law_866 rfl ?_
        refine r_aload_n C dL_law_867 rfl rfl ?_
        refine r_aload_n C dL_law_868 rfl rfl ?_
        refine r_iload_n C dL_law_869 rfl rfl ?_
        refine r_iconst C dL_law_870 ic_1 ?_
        refine r_iadd C dL_law_871 ?_
        obtain ⟨x872, ex872, hf⟩ := Option.bind_eq_some_iff.mp hf
        refine r_scrld C SX dL_law_872 ex872 ?_
        obtain ⟨x873, ex873, hf⟩ := Option.bind_eq_some_iff.mp hf
        refine r_callVi C w_mX8_tears w_iX8_tears w_lL_108 (by decide) (as := [.int x872]) rfl (c := 8) (by decide) rfl (Nat.le_of_ble_eq_true rfl) (by decide) dL_law_873 rfl (k_X8_tears ex873).1 (k_X8_tears ex873).2 ?_
        refine r_pop C dL_law_876 rfl ?_
        refine r_goto C 1071 dL_law_877 (by decide) ?_
        exact l_L_law_J1071 C _ L xs SX ho R0 _ _ _ _ _ _ hf (fun _ _ _ _ q => l_L_law_L18 C _ L xs SX ho R0 _ _ _ _ _ q )
      rw [if_neg c_32_21] at hf
      by_cases c_32_22 : (x28 &&& 31) = 22
      · rw [if_pos c_32_22] at hf
        refine r_tableIn C 880 dL_law_32 (by rw [c_32_22]; decide) (by rw [c_32_22]; decide) (by rw [c_32_22]; first | done | rfl) (by decide) ?_
        refine r_aload_n C dL_law_880 rfl rfl ?_
        refine r_aload_n C dL_law_881 rfl rfl ?_
        refine r_iload_n C dL_law_882 rfl rfl ?_
        refine r_iconst C dL_law_883 ic_1 ?_
        refine r_iadd C dL_law_884 ?_
        obtain ⟨x885, ex885, hf⟩ := Option.bind_eq_some_iff.mp hf
        refine r_scrld C SX dL_law_885 ex885 ?_
        refine r_aload_n C dL_law_886 rfl rfl ?_
        refine r_iload_n C dL_law_887 rfl rfl ?_
        refine r_iconst C dL_law_888 ic_2 ?_
        refine r_iadd C dL_law_889 ?_
        obtain ⟨x890, ex890, hf⟩ := Option.bind_eq_some_iff.mp hf
        refine r_scrld C SX dL_law_890 ex890 ?_
        refine r_aload_n C dL_law_891 rfl rfl ?_
        refine r_iload_n C dL_law_892 rfl rfl ?_
        refine r_iconst C dL_law_893 ic_3 ?_
        refine r_iadd C dL_law_894 ?_
        obtain ⟨x895, ex895, hf⟩ := Option.bind_eq_some_iff.mp hf
        refine r_scrld C SX dL_law_895 ex895 ?_
        refine r_aload_n C dL_law_896 rfl rfl ?_
        refine r_iload_n C dL_law_897 rfl rfl ?_
        refine r_iconst C dL_law_898 ic_4 ?_
        refine r_iadd C dL_law_899 ?_
        obtain ⟨x900, ex900, hf⟩ := Option.bind_eq_some_iff.mp hf
        refine r_scrld C SX dL_law_900 ex900 ?_
        obtain ⟨x901, ex901, hf⟩ := Option.bind_eq_some_iff.mp hf
        refine r_callVi C w_mX7_word w_iX7_word w_lL_109 (by decide) (as := [.int x885, .int x890, .int x895, .int x900]) rfl (c := 7) (by decide) rfl (Nat.le_of_ble_eq_true rfl) (by decide) dL_law_901 rfl (k_X7_word ex901).1 (k_X7_word ex901).2 ?_
        refine r_pop C dL_law_904 rfl ?_
        refine r_aload_n C dL_law_905 rfl rfl ?_
        refine r_aload_n C dL_law_906 rfl rfl ?_
        refine r_iload_n C dL_law_907 rfl rfl ?_
        refine r_iconst C dL_law_908 ic_1 ?_
        refine r_iadd C dL_law_909 ?_
        obtain ⟨x910, ex910, hf⟩ := Option.bind_eq_some_iff.mp hf
        refine r_scrld C SX dL_law_910 ex910 ?_
        refine r_aload_n C dL_law_911 rfl rfl ?_
        refine r_iload_n C dL_law_912 rfl rfl ?_
        refine r_iconst C dL_law_913 ic_2 ?_
        refine r_iadd C dL_law_914 ?_
        obtain ⟨x915, ex915, hf⟩ := Option.bind_eq_some_iff.mp hf
        refine r_scrld C SX dL_law_915 ex915 ?_
        refine r_aload_n C dL_law_916 rfl rfl ?_
        refine r_iload_n C dL_law_917 rfl rfl ?_
        refine r_iconst C dL_law_918 ic_3 ?_
        refine r_iadd C dL_law_919 ?_
        obtain ⟨x920, ex920, hf⟩ := Option.bind_eq_some_iff.mp hf
        refine r_scrld C SX dL_law_920 ex920 ?_
        refine r_aload_n C dL_law_921 rfl rfl ?_
        refine r_iload_n C dL_law_922 rfl rfl ?_
        refine r_iconst C dL_law_923 ic_4 ?_
        refine r_iadd C dL_law_924 ?_
        obtain ⟨x925, ex925, hf⟩ := Option.bind_eq_some_iff.mp hf
        refine r_scrld C SX dL_law_925 ex925 ?_
        obtain ⟨x926, ex926, hf⟩ := Option.bind_eq_some_iff.mp hf
        refine r_callVi C w_mX8_word w_iX8_word w_lL_112 (by decide) (as := [.int x910, .int x915, .int x920, .int x925]) rfl (c := 8) (by decide) rfl (Nat.le_of_ble_eq_true rfl) (by decide) dL_law_926 rfl (k_X8_word ex926).1 (k_X8_word ex926).2 ?_
        refine r_pop C dL_law_929 rfl ?_
        refine r_goto C 1071 dL_law_930 (by decide) ?_
        exact l_L_law_J1071 C _ L xs SX ho R0 _ _ _ _ _ _ hf (fun _ _ _ _ q => l_L_law_L18 C _ L xs SX ho R0 _ _ _ _ _ q )
      rw [if_neg c_32_22] at hf
      by_cases c_32_23 : (x28 &&& 31) = 23
      · rw [if_pos c_32_23] at hf
        refine r_tableIn C 933 dL_law_32 (by rw [c_32_23]; decide) (by rw [c_32_23]; decide) (by rw [c_32_23]; first | done | rfl) (by decide) ?_
        refine r_aload_n C dL_law_933 rfl rfl ?_
        refine r_aload_n C dL_law_934 rfl rfl ?_
        refine r_iload_n C dL_law_935 rfl rfl ?_
        refine r_iconst C dL_law_936 ic_1 ?_
        refine r_iadd C dL_law_937 ?_
        obtain ⟨x938, ex938, hf⟩ := Option.bind_eq_some_iff.mp hf
        refine r_scrld C SX dL_law_938 ex938 ?_
        obtain ⟨x939, ex939, hf⟩ := Option.bind_eq_some_iff.mp hf
        refine r_callVi C w_mX7_mended w_iX7_mended w_lL_113 (by decide) (as := [.int x938]) rfl (c := 7) (by decide) rfl (Nat.le_of_ble_eq_true rfl) (by decide) dL_law_939 rfl (k_X7_mended ex939).1 (k_X7_mended ex939).2 ?_
        refine r_pop C dL_law_942 rfl ?_
        refine r_aload_n C dL_law_943 rfl rfl ?_
        refine r_aload_n C dL_law_944 rfl rfl ?_
        refine r_iload_n C dL_law_945 rfl rfl ?_
        refine r_iconst C dL_law_946 ic_1 ?_
        refine r_iadd C dL_law_947 ?_
        obtain ⟨x948, ex948, hf⟩ := Option.bind_eq_some_iff.mp hf
        refine r_scrld C SX dL_law_948 ex948 ?_
        obtain ⟨x949, ex949, hf⟩ := Option.bind_eq_some_iff.mp hf
        refine r_callVi C w_mX8_mended w_iX8_mended w_lL_116 (by decide) (as := [.int x948]) rfl (c := 8) (by decide) rfl (Nat.le_of_ble_eq_true rfl) (by decide) dL_law_949 rfl (k_X8_mended ex949).1 (k_X8_mended ex949).2 ?_
        refine r_pop C dL_law_952 rfl ?_
        refine r_goto C 1071 dL_law_953 (by decide) ?_
        exact l_L_law_J1071 C _ L xs SX ho R0 _ _ _ _ _ _ hf (fun _ _ _ _ q => l_L_law_L18 C _ L xs SX ho R0 _ _ _ _ _ q )
      rw [if_neg c_32_23] at hf
      by_cases c_32_24 : (x28 &&& 31) = 24
      · rw [if_pos c_32_24] at hf
        refine r_tableIn C 956 dL_law_32 (by rw [c_32_24]; decide) (by rw [c_32_24]; decide) (by rw [c_32_24]; first | done | rfl) (by decide) ?_
        refine r_aload_n C dL_law_956 rfl rfl ?_
        refine r_aload_n C dL_law_957 rfl rfl ?_
        refine r_iload_n C dL_law_958 rfl rfl ?_
        refine r_iconst C dL_law_959 ic_1 ?_
        refine r_iadd C dL_law_960 ?_
        obtain ⟨x961, ex961, hf⟩ := Option.bind_eq_some_iff.mp hf
        refine r_scrld C SX dL_law_961 ex961 ?_
        refine r_aload_n C dL_law_962 rfl rfl ?_
        refine r_iload_n C dL_law_963 rfl rfl ?_
        refine r_iconst C dL_law_964 ic_2 ?_
        refine r_iadd C dL_law_965 ?_
        obtain ⟨x966, ex966, hf⟩ := Option.bind_eq_some_iff.mp hf
        refine r_scrld C SX dL_law_966 ex966 ?_
        obtain ⟨x967, ex967, hf⟩ := Option.bind_eq_some_iff.mp hf
        refine r_callVi C w_mX7_price w_iX7_price w_lL_117 (by decide) (as := [.int x961, .int x966]) rfl (c := 7) (by decide) rfl (Nat.le_of_ble_eq_true rfl) (by decide) dL_law_967 rfl (k_X7_price ex967).1 (k_X7_price ex967).2 ?_
        refine r_pop C dL_law_970 rfl ?_
        refine r_aload_n C dL_law_971 rfl rfl ?_
        refine r_aload_n C dL_law_972 rfl rfl ?_
        refine r_iload_n C dL_law_973 rfl rfl ?_
        refine r_iconst C dL_law_974 ic_1 ?_
        refine r_iadd C dL_law_975 ?_
        obtain ⟨x976, ex976, hf⟩ := Option.bind_eq_some_iff.mp hf
        refine r_scrld C SX dL_law_976 ex976 ?_
        refine r_aload_n C dL_law_977 rfl rfl ?_
        refine r_iload_n C dL_law_978 rfl rfl ?_
        refine r_iconst C dL_law_979 ic_2 ?_
        refine r_iadd C dL_law_980 ?_
        obtain ⟨x981, ex981, hf⟩ := Option.bind_eq_some_iff.mp hf
        refine r_scrld C SX dL_law_981 ex981 ?_
        obtain ⟨x982, ex982, hf⟩ := Option.bind_eq_some_iff.mp hf
        refine r_callVi C w_mX8_price w_iX8_price w_lL_120 (by decide) (as := [.int x976, .int x981]) rfl (c := 8) (by decide) rfl (Nat.le_of_ble_eq_true rfl) (by decide) dL_law_982 rfl (k_X8_price ex982).1 (k_X8_price ex982).2 ?_
        refine r_pop C dL_law_985 rfl ?_
        refine r_goto C 1071 dL_law_986 (by decide) ?_
        exact l_L_law_J1071 C _ L xs SX ho R0 _ _ _ _ _ _ hf (fun _ _ _ _ q => l_L_law_L18 C _ L xs SX ho R0 _ _ _ _ _ q )
      rw [if_neg c_32_24] at hf
      by_cases c_32_25 : (x28 &&& 31) = 25
      · rw [if_pos c_32_25] at hf
        refine r_tableIn C 989 dL_law_32 (by rw [c_32_25]; decide) (by rw [c_32_25]; decide) (by rw [c_32_25]; first | done | rfl) (by decide) ?_
        refine r_aload_n C dL_law_989 rfl rfl ?_
        refine r_aload_n C dL_law_990 rfl rfl ?_
        refine r_iload_n C dL_law_991 rfl rfl ?_
        refine r_iconst C dL_law_992 ic_1 ?_
        refine r_iadd C dL_law_993 ?_
        obtain ⟨x994, ex994, hf⟩ := Option.bind_eq_some_iff.mp hf
        refine r_scrld C SX dL_law_994 ex994 ?_
        obtain ⟨x995, ex995, hf⟩ := Option.bind_eq_some_iff.mp hf
        refine r_callVi C w_mX7_keep w_iX7_keep w_lL_121 (by decide) (as := [.int x994]) rfl (c := 7) (by decide) rfl (Nat.le_of_ble_eq_true rfl) (by decide) dL_law_995 rfl (k_X7_keep ex995).1 (k_X7_keep ex995).2 ?_
        refine r_pop C dL_law_998 rfl ?_
        refine r_aload_n C dL_law_999 rfl rfl ?_
        refine r_aload_n C dL_law_1000 rfl rfl ?_
        refine r_iload_n C dL_law_1001 rfl rfl ?_
        refine r_iconst C dL_law_1002 ic_1 ?_
        refine r_iadd C dL_law_1003 ?_
        obtain ⟨x1004, ex1004, hf⟩ := Option.bind_eq_some_iff.mp hf
        refine r_scrld C SX dL_law_1004 ex1004 ?_
        obtain ⟨x1005, ex1005, hf⟩ := Option.bind_eq_some_iff.mp hf
        refine r_callVi C w_mX8_keep w_iX8_keep w_lL_124 (by decide) (as := [.int x1004]) rfl (c := 8) (by decide) rfl (Nat.le_of_ble_eq_true rfl) (by decide) dL_law_1005 rfl (k_X8_keep ex1005).1 (k_X8_keep ex1005).2 ?_
        refine r_pop C dL_law_1008 rfl ?_
        refine r_goto C 1071 dL_law_1009 (by decide) ?_
        exact l_L_law_J1071 C _ L xs SX ho R0 _ _ _ _ _ _ hf (fun _ _ _ _ q => l_L_law_L18 C _ L xs SX ho R0 _ _ _ _ _ q )
      rw [if_neg c_32_25] at hf
      by_cases c_32_26 : (x28 &&& 31) = 26
      · rw [if_pos c_32_26] at hf
        refine r_tableIn C 1012 dL_law_32 (by rw [c_32_26]; decide) (by rw [c_32_26]; decide) (by rw [c_32_26]; first | done | rfl) (by decide) ?_
        refine r_aload_n C dL_law_1012 rfl rfl ?_
        refine r_aload_n C dL_law_1013 rfl rfl ?_
        refine r_iload_n C dL_law_1014 rfl rfl ?_
        refine r_iconst C dL_law_1015 ic_1 ?_
        refine r_iadd C dL_law_1016 ?_
        obtain ⟨x1017, ex1017, hf⟩ := Option.bind_eq_some_iff.mp hf
        refine r_scrld C SX dL_law_1017 ex1017 ?_
        obtain ⟨x1018, ex1018, hf⟩ := Option.bind_eq_some_iff.mp hf
        refine r_callVi C w_mX7_back w_iX7_back w_lL_125 (by decide) (as := [.int x1017]) rfl (c := 7) (by decide) rfl (Nat.le_of_ble_eq_true rfl) (by decide) dL_law_1018 rfl (k_X7_back ex1018).1 (k_X7_back ex1018).2 ?_
        refine r_pop C dL_law_1021 rfl ?_
        refine r_aload_n C dL_law_1022 rfl rfl ?_
        refine r_aload_n C dL_law_1023 rfl rfl ?_
        refine r_iload_n C dL_law_1024 rfl rfl ?_
        refine r_iconst C dL_law_1025 ic_1 ?_
        refine r_iadd C dL_law_1026 ?_
        obtain ⟨x1027, ex1027, hf⟩ := Option.bind_eq_some_iff.mp hf
        refine r_scrld C SX dL_law_1027 ex1027 ?_
        obtain ⟨x1028, ex1028, hf⟩ := Option.bind_eq_some_iff.mp hf
        refine r_callVi C w_mX8_back w_iX8_back w_lL_128 (by decide) (as := [.int x1027]) rfl (c := 8) (by decide) rfl (Nat.le_of_ble_eq_true rfl) (by decide) dL_law_1028 rfl (k_X8_back ex1028).1 (k_X8_back ex1028).2 ?_
        refine r_pop C dL_law_1031 rfl ?_
        refine r_goto C 1071 dL_law_1032 (by decide) ?_
        exact l_L_law_J1071 C _ L xs SX ho R0 _ _ _ _ _ _ hf (fun _ _ _ _ q => l_L_law_L18 C _ L xs SX ho R0 _ _ _ _ _ q )
      rw [if_neg c_32_26] at hf
      by_cases c_32_27 : (x28 &&& 31) = 27
      · rw [if_pos c_32_27] at hf
        refine r_tableIn C 1035 dL_law_32 (by rw [c_32_27]; decide) (by rw [c_32_27]; decide) (by rw [c_32_27]; first | done | rfl) (by decide) ?_
        refine r_aload_n C dL_law_1035 rfl rfl ?_
        refine r_aload_n C dL_law_1036 rfl rfl ?_
        refine r_iload_n C dL_law_1037 rfl rfl ?_
        refine r_iconst C dL_law_1038 ic_1 ?_
        refine r_iadd C dL_law_1039 ?_
        obtain ⟨x1040, ex1040, hf⟩ := Option.bind_eq_some_iff.mp hf
        refine r_scrld C SX dL_law_1040 ex1040 ?_
        obtain ⟨x1041, ex1041, hf⟩ := Option.bind_eq_some_iff.mp hf
        refine r_callVi C w_mX7_count w_iX7_count w_lL_129 (by decide) (as := [.int x1040]) rfl (c := 7) (by decide) rfl (Nat.le_of_ble_eq_true rfl) (by decide) dL_law_1041 rfl (k_X7_count ex1041).1 (k_X7_count ex1041).2 ?_
        refine r_pop C dL_law_1044 rfl ?_
        refine r_aload_n C dL_law_1045 rfl rfl ?_
        refine r_aload_n C dL_law_1046 rfl rfl ?_
        refine r_iload_n C dL_law_1047 rfl rfl ?_
        refine r_iconst C dL_law_1048 ic_1 ?_
        refine r_iadd C dL_law_1049 ?_
        obtain ⟨x1050, ex1050, hf⟩ := Option.bind_eq_some_iff.mp hf
        refine r_scrld C SX dL_law_1050 ex1050 ?_
        obtain ⟨x1051, ex1051, hf⟩ := Option.bind_eq_some_iff.mp hf
        refine r_callVi C w_mX8_count w_iX8_count w_lL_132 (by decide) (as := [.int x1050]) rfl (c := 8) (by decide) rfl (Nat.le_of_ble_eq_true rfl) (by decide) dL_law_1051 rfl (k_X8_count ex1051).1 (k_X8_count ex1051).2 ?_
        refine r_pop C dL_law_1054 rfl ?_
        refine r_goto C 1071 dL_law_1055 (by decide) ?_
        exact l_L_law_J1071 C _ L xs SX ho R0 _ _ _ _ _ _ hf (fun _ _ _ _ q => l_L_law_L18 C _ L xs SX ho R0 _ _ _ _ _ q )
      rw [if_neg c_32_27] at hf
      by_cases c_32_28 : (x28 &&& 31) = 28
      · rw [if_pos c_32_28] at hf
        refine r_tableIn C 1058 dL_law_32 (by rw [c_32_28]; decide) (by rw [c_32_28]; decide) (by rw [c_32_28]; first | done | rfl) (by decide) ?_
        refine r_aload_n C dL_law_1058 rfl rfl ?_
        obtain ⟨x1059, ex1059, hf⟩ := Option.bind_eq_some_iff.mp hf
        refine r_callVl C w_mX7_trace w_iX7_trace w_lL_133 (by decide) (as := []) rfl (c := 7) (by decide) rfl (Nat.le_of_ble_eq_true rfl) (by decide) dL_law_1059 rfl (k_X7_trace ex1059).1 (k_X7_trace ex1059).2 ?_
        refine r_pop2 C dL_law_1062 rfl ?_
        refine r_aload_n C dL_law_1063 rfl rfl ?_
        obtain ⟨x1064, ex1064, hf⟩ := Option.bind_eq_some_iff.mp hf
        refine r_callVl C w_mX8_trace w_iX8_trace w_lL_137 (by decide) (as := []) rfl (c := 8) (by decide) rfl (Nat.le_of_ble_eq_true rfl) (by decide) dL_law_1064 rfl (k_X8_trace ex1064).1 (k_X8_trace ex1064).2 ?_
        refine r_pop2 C dL_law_1067 rfl ?_
        refine r_goto C 1071 dL_law_1068 (by decide) ?_
        exact l_L_law_J1071 C _ L xs SX ho R0 _ _ _ _ _ _ hf (fun _ _ _ _ q => l_L_law_L18 C _ L xs SX ho R0 _ _ _ _ _ q )
      rw [if_neg c_32_28] at hf
      have z0 : ¬ Int32.toInt (x28 &&& 31) = 0 := fun q => c_32_0 (Int32.toInt_inj.mp (q.trans (by decide)))
      have z1 : ¬ Int32.toInt (x28 &&& 31) = 1 := fun q => c_32_1 (Int32.toInt_inj.mp (q.trans (by decide)))
      have z2 : ¬ Int32.toInt (x28 &&& 31) = 2 := fun q => c_32_2 (Int32.toInt_inj.mp (q.trans (by decide)))
      have z3 : ¬ Int32.toInt (x28 &&& 31) = 3 := fun q => c_32_3 (Int32.toInt_inj.mp (q.trans (by decide)))
      have z4 : ¬ Int32.toInt (x28 &&& 31) = 4 := fun q => c_32_4 (Int32.toInt_inj.mp (q.trans (by decide)))
      have z5 : ¬ Int32.toInt (x28 &&& 31) = 5 := fun q => c_32_5 (Int32.toInt_inj.mp (q.trans (by decide)))
      have z6 : ¬ Int32.toInt (x28 &&& 31) = 6 := fun q => c_32_6 (Int32.toInt_inj.mp (q.trans (by decide)))
      have z7 : ¬ Int32.toInt (x28 &&& 31) = 7 := fun q => c_32_7 (Int32.toInt_inj.mp (q.trans (by decide)))
      have z8 : ¬ Int32.toInt (x28 &&& 31) = 8 := fun q => c_32_8 (Int32.toInt_inj.mp (q.trans (by decide)))
      have z9 : ¬ Int32.toInt (x28 &&& 31) = 9 := fun q => c_32_9 (Int32.toInt_inj.mp (q.trans (by decide)))
      have z10 : ¬ Int32.toInt (x28 &&& 31) = 10 := fun q => c_32_10 (Int32.toInt_inj.mp (q.trans (by decide)))
      have z11 : ¬ Int32.toInt (x28 &&& 31) = 11 := fun q => c_32_11 (Int32.toInt_inj.mp (q.trans (by decide)))
      have z12 : ¬ Int32.toInt (x28 &&& 31) = 12 := fun q => c_32_12 (Int32.toInt_inj.mp (q.trans (by decide)))
      have z13 : ¬ Int32.toInt (x28 &&& 31) = 13 := fun q => c_32_13 (Int32.toInt_inj.mp (q.trans (by decide)))
      have z14 : ¬ Int32.toInt (x28 &&& 31) = 14 := fun q => c_32_14 (Int32.toInt_inj.mp (q.trans (by decide)))
      have z15 : ¬ Int32.toInt (x28 &&& 31) = 15 := fun q => c_32_15 (Int32.toInt_inj.mp (q.trans (by decide)))
      have z16 : ¬ Int32.toInt (x28 &&& 31) = 16 := fun q => c_32_16 (Int32.toInt_inj.mp (q.trans (by decide)))
      have z17 : ¬ Int32.toInt (x28 &&& 31) = 17 := fun q => c_32_17 (Int32.toInt_inj.mp (q.trans (by decide)))
      have z18 : ¬ Int32.toInt (x28 &&& 31) = 18 := fun q => c_32_18 (Int32.toInt_inj.mp (q.trans (by decide)))
      have z19 : ¬ Int32.toInt (x28 &&& 31) = 19 := fun q => c_32_19 (Int32.toInt_inj.mp (q.trans (by decide)))
      have z20 : ¬ Int32.toInt (x28 &&& 31) = 20 := fun q => c_32_20 (Int32.toInt_inj.mp (q.trans (by decide)))
      have z21 : ¬ Int32.toInt (x28 &&& 31) = 21 := fun q => c_32_21 (Int32.toInt_inj.mp (q.trans (by decide)))
      have z22 : ¬ Int32.toInt (x28 &&& 31) = 22 := fun q => c_32_22 (Int32.toInt_inj.mp (q.trans (by decide)))
      have z23 : ¬ Int32.toInt (x28 &&& 31) = 23 := fun q => c_32_23 (Int32.toInt_inj.mp (q.trans (by decide)))
      have z24 : ¬ Int32.toInt (x28 &&& 31) = 24 := fun q => c_32_24 (Int32.toInt_inj.mp (q.trans (by decide)))
      have z25 : ¬ Int32.toInt (x28 &&& 31) = 25 := fun q => c_32_25 (Int32.toInt_inj.mp (q.trans (by decide)))
      have z26 : ¬ Int32.toInt (x28 &&& 31) = 26 := fun q => c_32_26 (Int32.toInt_inj.mp (q.trans (by decide)))
      have z27 : ¬ Int32.toInt (x28 &&& 31) = 27 := fun q => c_32_27 (Int32.toInt_inj.mp (q.trans (by decide)))
      have z28 : ¬ Int32.toInt (x28 &&& 31) = 28 := fun q => c_32_28 (Int32.toInt_inj.mp (q.trans (by decide)))
      refine r_tableOut C 1071 dL_law_32 (by omega) (by decide) ?_
      exact l_L_law_J1071 C _ L xs SX ho R0 _ _ _ _ _ _ hf (fun _ _ _ _ q => l_L_law_L18 C _ L xs SX ho R0 _ _ _ _ _ q )

set_option maxHeartbeats 4000000 in
theorem k_L_law {X : Cx} {G : Gc} {nm : String} (C : Ok X G code RL nm 4 ret 11 97 26523) {n : Nat} {h : Hp} {out : Int32 × Hp} {L : Nat} {xs : Nat → Int32} (hf : f_L_law L xs n h = some out) (SX : Scr X G L xs) {Q : State → Prop} (ho : out.1 = 1) (R0 : ∀ (h : Hp) (lv : List (Nat × Value)) (pc : Nat), decode code pc = .ok (.ireturn, 1) → At X G Q 97 26523 pc lv [.int 1] h) : At X G Q 0 0 0 [(0, .ref 19999)] [] h := by
  unfold f_L_law at hf
  obtain ⟨x0, ex0, hf⟩ := Option.bind_eq_some_iff.mp hf
  refine r_newO C (c := 7) (q := x0.1) (h' := x0.2) (by decide) w_kL_7 w_o7.1 w_o7.2 (by decide +kernel) dL_law_0 ex0 ?_
  refine r_cnt (n' := 1) (k' := 16) (by decide +kernel) ?_
  refine r_dup C dL_law_3 rfl ?_
  obtain ⟨x4, ex4, hf⟩ := Option.bind_eq_some_iff.mp hf
  refine r_callI C w_mX7_init w_nX7_init w_lL_9 (by decide) (as := []) rfl (Nat.le_of_ble_eq_true rfl) (by decide) dL_law_4 rfl (k_X7_init ex4).2 ?_
  refine r_cnt (n' := 66) (k' := 1520) (by decide) ?_
  refine r_astore_n C (lv' := [(1, .ref x0.1), (0, .ref 19999)]) dL_law_7 rfl (by decide) rfl ?_
  obtain ⟨x8, ex8, hf⟩ := Option.bind_eq_some_iff.mp hf
  refine r_newO C (c := 8) (q := x8.1) (h' := x8.2) (by decide) w_kL_10 w_o8.1 w_o8.2 (by decide +kernel) dL_law_8 ex8 ?_
  refine r_cnt (n' := 67) (k' := 1564) (by decide +kernel) ?_
  refine r_dup C dL_law_11 rfl ?_
  obtain ⟨x12, ex12, hf⟩ := Option.bind_eq_some_iff.mp hf
  refine r_callI C w_mX8_init w_nX8_init w_lL_12 (by decide) (as := []) rfl (Nat.le_of_ble_eq_true rfl) (by decide) dL_law_12 rfl (k_X8_init ex12).2 ?_
  refine r_cnt (n' := 97) (k' := 26523) (by decide) ?_
  refine r_astore_n C (lv' := [(2, .ref x8.1), (1, .ref x0.1), (0, .ref 19999)]) dL_law_15 rfl (by decide) rfl ?_
  refine r_iconst C dL_law_16 ic_0 ?_
  refine r_istore_n C (lv' := [(3, .int 0), (2, .ref x8.1), (1, .ref x0.1), (0, .ref 19999)]) dL_law_17 rfl (by decide) rfl ?_
  refine r_sub [3, 2, 1, 0] (lv' := [(0, .ref 19999), (1, .ref x0.1), (2, .ref x8.1), (3, .int 0)]) rfl ?_
  exact l_L_law_L18 C _ L xs SX ho R0 _ _ _ _ _ hf 

