-- the telling: forms by number (1 kddddd; 2 d; 3 ddddd; 4 dd; 0 none)
def zy_fm (c : Nat) : Nat := if c = 100 then 4 else if c = 103 then 3 else if c = 112 then 1 else if c = 114 then 2 else if c = 116 then 2 else 0
def zy_fl (f : Nat) : Nat := fw_slen.getD f 0
def zy_sg (f i : Nat) : Nat := if f = 1 ∧ i = 0 then 107 else if i + 1 = zy_fl f then 59 else 100
def zy_kd (c : Nat) : Nat := if c = 112 then 0 else if c = 116 then 1 else if c = 109 then 2 else if c = 99 then 3 else if c = 102 then 4 else if c = 104 then 5 else 6
def zy_ft (f i c : Nat) : Bool := if zy_sg f i = 107 then decide (zy_kd c < 6) else if zy_sg f i = 100 then decide (48 ≤ c ∧ c ≤ 57) else decide (c = 59)
/-- how far the statement at a goes on as it must -/
def zy_j (T : Nat → Nat) (n a : Nat) : Nat := zl_f (fun i => !(decide (a + 1 + i < n) && zy_ft (zy_fm (T a)) i (T (a + 1 + i)))) (zy_fl (zy_fm (T a)))
/-- 0: all is as it must be from a on; else one more than the place of the odd letter -/
def zy_run (T : Nat → Nat) (n : Nat) : Nat → Nat → Nat
  | 0, _ => 0
  | k + 1, a => if a < n then (if zy_fm (T a) = 0 then a + 1 else if zy_j T n a = zy_fl (zy_fm (T a)) then zy_run T n k (a + 1 + zy_fl (zy_fm (T a))) else a + 1 + zy_j T n a + 1) else 0
def zy_odd (T : Nat → Nat) (n : Nat) : Nat := if n = 0 then 1 else zy_run T n 96 0
theorem zy_fm_le (c : Nat) : zy_fm c ≤ 4 := by
  unfold zy_fm
  repeat' split
  all_goals omega
section zY
variable {X : Nat × (Nat → Int32)} {l : Launch} {I : Nat → Nat → Int32}
theorem ct_coder (k : Nat) (hk : k < 6) : zs_p X l mJ0_coder_7d493 [.ref (1000 + k)] I 0 := by
  rcases (show k = 0 ∨ k = 1 ∨ k = 2 ∨ k = 3 ∨ k = 4 ∨ k = 5 by omega) with rfl | rfl | rfl | rfl | rfl | rfl <;>
  · refine fw_enter [] 100 ok_J0_coder_7d493 ⟨_, wc_J0_coder_7d493⟩ rfl rfl rfl ?_
    refine And.intro (fun h => absurd h (by decide)) (fun _ => ?_)
    exact ⟨by decide, rfl, rfl⟩
theorem ct_isLatin (k : Nat) (hk : k < 6) : zs_p X l mJ0_isLatin1_aae02 [.ref (1000 + k)] I 1 := by
  rcases (show k = 0 ∨ k = 1 ∨ k = 2 ∨ k = 3 ∨ k = 4 ∨ k = 5 by omega) with rfl | rfl | rfl | rfl | rfl | rfl <;>
  · refine fw_enter [] 100 ok_J0_isLatin1_aae02 ⟨_, wc_J0_isLatin1_aae02⟩ rfl rfl rfl ?_
    refine And.intro (fun h => absurd h (by decide)) (fun _ => ?_)
    refine And.intro (fun h => absurd rfl h) (fun _ => ?_)
    exact ⟨by decide, rfl, rfl⟩
theorem ct_len (k : Nat) (hk : k < 6) : zs_p X l mJ0_length_8abf5 [.ref (1000 + k)] I (nI (zy_fl k)) := by
  rcases (show k = 0 ∨ k = 1 ∨ k = 2 ∨ k = 3 ∨ k = 4 ∨ k = 5 by omega) with rfl | rfl | rfl | rfl | rfl | rfl
  · refine fw_enter [] 100 ok_J0_length_8abf5 ⟨_, wc_J0_length_8abf5⟩ rfl rfl rfl ?_
    refine ⟨_, ct_coder (X := X) (l := l) (I := I) 0 (by omega), ?_⟩
    rintro v σ' ⟨rfl, rfl⟩
    exact ⟨by decide, rfl⟩
  · refine fw_enter [] 100 ok_J0_length_8abf5 ⟨_, wc_J0_length_8abf5⟩ rfl rfl rfl ?_
    refine ⟨_, ct_coder (X := X) (l := l) (I := I) 1 (by omega), ?_⟩
    rintro v σ' ⟨rfl, rfl⟩
    exact ⟨by decide, rfl⟩
  · refine fw_enter [] 100 ok_J0_length_8abf5 ⟨_, wc_J0_length_8abf5⟩ rfl rfl rfl ?_
    refine ⟨_, ct_coder (X := X) (l := l) (I := I) 2 (by omega), ?_⟩
    rintro v σ' ⟨rfl, rfl⟩
    exact ⟨by decide, rfl⟩
  · refine fw_enter [] 100 ok_J0_length_8abf5 ⟨_, wc_J0_length_8abf5⟩ rfl rfl rfl ?_
    refine ⟨_, ct_coder (X := X) (l := l) (I := I) 3 (by omega), ?_⟩
    rintro v σ' ⟨rfl, rfl⟩
    exact ⟨by decide, rfl⟩
  · refine fw_enter [] 100 ok_J0_length_8abf5 ⟨_, wc_J0_length_8abf5⟩ rfl rfl rfl ?_
    refine ⟨_, ct_coder (X := X) (l := l) (I := I) 4 (by omega), ?_⟩
    rintro v σ' ⟨rfl, rfl⟩
    exact ⟨by decide, rfl⟩
  · refine fw_enter [] 100 ok_J0_length_8abf5 ⟨_, wc_J0_length_8abf5⟩ rfl rfl rfl ?_
    refine ⟨_, ct_coder (X := X) (l := l) (I := I) 5 (by omega), ?_⟩
    rintro v σ' ⟨rfl, rfl⟩
    exact ⟨by decide, rfl⟩
theorem ct_empty (k : Nat) (hk : k < 5) : zs_p X l mJ0_isEmpty_aae02 [.ref (1000 + k)] I (zi (decide (k = 0))) := by
  rcases (show k = 0 ∨ k = 1 ∨ k = 2 ∨ k = 3 ∨ k = 4 by omega) with rfl | rfl | rfl | rfl | rfl
  · refine fw_enter [] 100 ok_J0_isEmpty_aae02 ⟨_, wc_J0_isEmpty_aae02⟩ rfl rfl rfl ?_
    refine And.intro (fun h => absurd rfl h) (fun _ => ?_)
    exact ⟨by decide, rfl, rfl⟩
  all_goals
    refine fw_enter [] 100 ok_J0_isEmpty_aae02 ⟨_, wc_J0_isEmpty_aae02⟩ rfl rfl rfl ?_
    refine And.intro (fun _ => ?_) (fun h => absurd h (by decide))
    exact ⟨by decide, rfl, rfl⟩
theorem ct_chk {i n : Nat} (h : i < n) (hn : n < 1000) : fw_Sem X l mJ0_checkIndex_df160 [.int (nI i), .int (nI n)] (fw_sh, I) (fun r σ => r = none ∧ σ = (fw_sh, I)) := by
  have c1 : fw_Sem X l mJ3_checkIndex_8e157 [.int (nI i), .int (nI n), .retAddr 0] (fw_sh, I) (fun r σ => r = some (.int (nI i)) ∧ σ = (fw_sh, I)) := by
    refine fw_enter [] 100 ok_J3_checkIndex_8e157 ⟨_, wc_J3_checkIndex_8e157⟩ rfl rfl rfl ?_
    refine zq_lt i 0 rfl rfl (fun z => absurd z (by omega)) (fun _ => ?_)
    refine zq_lt i n rfl rfl (fun _ => ?_) (fun z => absurd z (by omega))
    exact ⟨rfl, rfl⟩
  refine fw_enter [] 100 ok_J0_checkIndex_df160 ⟨_, wc_J0_checkIndex_df160⟩ rfl rfl rfl ?_
  refine ⟨_, c1, ?_⟩
  rintro v σ' ⟨rfl, rfl⟩
  exact ⟨rfl, rfl⟩
theorem zy_by : ∀ f, f < 5 → 0 < f → ∀ i, i < zy_fl f → (((fw_sbyt.getD f []).getD i 0 &&& 255).toUInt32 % 65536).toInt32 = nI (zy_sg f i) ∧ narrow .char (.int (nI (zy_sg f i))) = .int (nI (zy_sg f i)) := by decide +kernel
theorem ct_charAt1 {f i : Nat} (hf : f < 5) (hi : i < zy_fl f) : zs_p X l mJ1_charAt_3b067 [.ref (1100 + f), .int (nI i)] I (nI (zy_sg f i)) := by
  have hf0 : 0 < f := by
    rcases (show f = 0 ∨ 0 < f by omega) with rfl | h
    · simp [zy_fl, fw_slen] at hi
    · exact h
  have hl : zy_fl f < 1000 := by
    rcases (show f = 1 ∨ f = 2 ∨ f = 3 ∨ f = 4 by omega) with rfl | rfl | rfl | rfl <;> decide
  have hb := zy_by f hf hf0 i hi
  have c1 := ct_chk (X := X) (l := l) (I := I) hi hl
  have ec := nI_clamp (n := i) (by omega)
  have hin : fw_in (nI i) (zy_fl f) := fw_in1 i (zy_fl f) hi rfl (by omega)
  have hb1 : (((fw_sbyt.getD f []).getD (nI i).toNatClampNeg 0 &&& 255).toUInt32 % 65536).toInt32 = nI (zy_sg f i) := by rw [ec]; exact hb.1
  rcases (show f = 1 ∨ f = 2 ∨ f = 3 ∨ f = 4 by omega) with rfl | rfl | rfl | rfl <;>
  · refine fw_enter [] 100 ok_J1_charAt_3b067 ⟨_, wc_J1_charAt_3b067⟩ rfl rfl rfl ?_
    refine ⟨_, c1, ?_⟩
    rintro v σ' ⟨rfl, rfl⟩
    refine And.intro hin ?_
    refine ⟨?_, ?_, rfl⟩
    · exact (congrArg (fun z => narrow .char (.int z)) hb1).trans (hb.2.trans (congrArg Value.int hb1.symm))
    · exact zr_e hb1
theorem ct_charAt {f i : Nat} (hf : f < 5) (hi : i < zy_fl f) : zs_p X l mJ0_charAt_5068e [.ref (1000 + f), .int (nI i)] I (nI (zy_sg f i)) := by
  have hf0 : 0 < f := by
    rcases (show f = 0 ∨ 0 < f by omega) with rfl | h
    · simp [zy_fl, fw_slen] at hi
    · exact h
  have hb := zy_by f hf hf0 i hi
  have c1 := ct_charAt1 (X := X) (l := l) (I := I) hf hi
  have c2 := ct_isLatin (X := X) (l := l) (I := I) f (by omega)
  rcases (show f = 1 ∨ f = 2 ∨ f = 3 ∨ f = 4 by omega) with rfl | rfl | rfl | rfl <;>
  · refine fw_enter [] 100 ok_J0_charAt_5068e ⟨_, wc_J0_charAt_5068e⟩ rfl rfl rfl ?_
    refine ⟨_, c2, ?_⟩
    rintro v σ' ⟨rfl, rfl⟩
    refine And.intro (fun h => absurd h (by decide)) (fun _ => ?_)
    refine ⟨_, c1, ?_⟩
    rintro v σ' ⟨rfl, rfl⟩
    exact ⟨hb.2, rfl, rfl⟩
/-- the place among ptmcfh; -1 -/
def zy_kI (c : Nat) : Int32 := if zy_kd c < 6 then nI (zy_kd c) else -1
theorem zy_kb : ∀ c, c ≤ 255 → ∀ i, i < 6 → ((fw_sbyt.getD 5 []).getD i 0 = (nI c).toInt8.toInt32 ↔ zy_kd c = i) := by decide +kernel
theorem ct_idx1 {c : Nat} (hc : c ≤ 255) : zs_p X l mJ1_indexOfChar_4cfef [.ref 1105, .int (nI c), .int (nI 0), .int (nI 6)] I (zy_kI c) := by
  have hkb := zy_kb c hc
  have loop := zl_down (N := 6) (G := fun i => i ≤ zy_kd c → fw_Go X l mJ1_indexOfChar_4cfef (fun r σ => r = some (.int (zy_kI c)) ∧ σ = (fw_sh, I)) 7 0 0 [some (.ref 1105), some (.int (nI c)), some (.int (nI 0)), some (.int (nI 6)), some (.int (nI c).toInt8.toInt32), some (.int (nI i))] [] (fw_sh, I)) (by
    intro h6
    refine fw_from [7] 100 5 ok_J1_indexOfChar_4cfef ⟨_, wc_J1_indexOfChar_4cfef⟩ rfl ?_
    refine zq_le 6 6 rfl rfl (fun _ => ?_) (fun h => absurd h (by omega))
    exact ⟨by simp [zy_kI, show ¬ zy_kd c < 6 by omega], rfl⟩) (fun i hi ih => by
    intro h6
    have ec := nI_clamp (n := i) (by omega)
    refine fw_from [7] 100 5 ok_J1_indexOfChar_4cfef ⟨_, wc_J1_indexOfChar_4cfef⟩ rfl ?_
    refine zq_le 6 i rfl rfl (fun h => absurd h (by omega)) (fun _ => ?_)
    refine And.intro (fw_in1 i 6 hi) ?_
    rw [ec]
    refine zq_brn (hkb i hi) (fun g => ?_) (fun g => ?_)
    · exact fw_sub (ih (by omega)) (by simp only [nI_1]) rfl
    · exact ⟨by simp [zy_kI, g, hi], rfl⟩)
  refine fw_enter [7] 100 ok_J1_indexOfChar_4cfef ⟨_, wc_J1_indexOfChar_4cfef⟩ rfl rfl rfl ?_
  exact fw_sub (loop 0 (by omega) (by omega)) (by rfl) rfl
theorem ct_can {c : Nat} (hc : c ≤ 255) : zs_p X l mJ1_canEncode_9a6ad [.int (nI c)] I 1 := by
  refine fw_enter [] 100 ok_J1_canEncode_9a6ad ⟨_, wc_J1_canEncode_9a6ad⟩ rfl rfl rfl ?_
  refine zq_lt c 0 rfl rfl (fun z => absurd z (by omega)) (fun _ => ?_)
  refine zq_lt 255 c rfl rfl (fun z => absurd z (by omega)) (fun _ => ?_)
  exact ⟨by decide, rfl, rfl⟩
theorem ct_idx2 {c : Nat} (hc : c ≤ 255) : zs_p X l mJ1_indexOf_4cfef [.ref 1105, .int (nI c), .int (nI 0), .int (nI 6)] I (zy_kI c) := by
  refine fw_enter [] 100 ok_J1_indexOf_4cfef ⟨_, wc_J1_indexOf_4cfef⟩ rfl rfl rfl ?_
  refine ⟨_, ct_can (X := X) (l := l) (I := I) hc, ?_⟩
  rintro v σ' ⟨rfl, rfl⟩
  refine And.intro (fun _ => ?_) (fun h => absurd h (by decide))
  refine And.intro (fun _ => ?_) (fun h => absurd (show _ < _ by decide) h)
  refine ⟨_, ct_idx1 (X := X) (l := l) (I := I) hc, ?_⟩
  rintro v σ' ⟨rfl, rfl⟩
  exact ⟨rfl, rfl⟩
theorem ct_idx3 {c : Nat} (hc : c ≤ 255) : zs_p X l mJ0_indexOf_7cf53 [.ref 1005, .int (nI c), .int (nI 0)] I (zy_kI c) := by
  refine fw_enter [] 100 ok_J0_indexOf_7cf53 ⟨_, wc_J0_indexOf_7cf53⟩ rfl rfl rfl ?_
  refine ⟨_, ct_isLatin (X := X) (l := l) (I := I) 5 (by omega), ?_⟩
  rintro v σ' ⟨rfl, rfl⟩
  refine And.intro (fun h => absurd h (by decide)) (fun _ => ?_)
  refine ⟨_, ct_len (X := X) (l := l) (I := I) 5 (by omega), ?_⟩
  rintro v σ' ⟨rfl, rfl⟩
  refine ⟨_, ct_idx2 (X := X) (l := l) (I := I) hc, ?_⟩
  rintro v σ' ⟨rfl, rfl⟩
  exact ⟨rfl, rfl⟩
theorem ct_idx {c : Nat} (hc : c ≤ 255) : zs_p X l mJ0_indexOf_0f7a4 [.ref 1005, .int (nI c)] I (zy_kI c) := by
  refine fw_enter [] 100 ok_J0_indexOf_0f7a4 ⟨_, wc_J0_indexOf_0f7a4⟩ rfl rfl rfl ?_
  refine ⟨_, ct_idx3 (X := X) (l := l) (I := I) hc, ?_⟩
  rintro v σ' ⟨rfl, rfl⟩
  exact ⟨rfl, rfl⟩
theorem ct_formOf {c : Nat} (hc : c ≤ 255) : fw_Sem X l mX3_formOf [.int (nI c)] (fw_sh, I) (fun r σ => r = some (.ref (1000 + zy_fm c)) ∧ σ = (fw_sh, I)) := by
  refine fw_enter [] 100 ok_X3_formOf ⟨_, wc_X3_formOf⟩ rfl rfl rfl ?_
  refine zq_eq c 100 rfl rfl (fun h => ?_) (fun h1 => ?_)
  · exact ⟨by simp [zy_fm, h], rfl⟩
  refine zq_eq c 103 rfl rfl (fun h => ?_) (fun h2 => ?_)
  · exact ⟨by simp [zy_fm, h], rfl⟩
  refine zq_eq c 112 rfl rfl (fun h => ?_) (fun h3 => ?_)
  · exact ⟨by simp [zy_fm, h], rfl⟩
  refine zq_eq c 114 rfl rfl (fun h => ?_) (fun h4 => ?_)
  · exact ⟨by simp [zy_fm, h], rfl⟩
  refine zq_eq c 116 rfl rfl (fun h => ?_) (fun h5 => ?_)
  · exact ⟨by simp [zy_fm, h], rfl⟩
  exact ⟨by simp [zy_fm, h1, h2, h3, h4, h5], rfl⟩
theorem zy_sg_le (f i : Nat) : zy_sg f i = 107 ∨ zy_sg f i = 100 ∨ zy_sg f i = 59 := by
  unfold zy_sg
  repeat' split
  all_goals omega
theorem zy_kI0 (c : Nat) : zy_kI c < 0 ↔ ¬ zy_kd c < 6 := by
  unfold zy_kI
  by_cases h : zy_kd c < 6
  · rw [if_pos h, zt_lt0, nI_toInt (by omega)]; omega
  · rw [if_neg h]; exact ⟨fun _ => h, fun _ => by decide⟩
theorem ct_fit {f i c : Nat} (hc : c ≤ 255) : zs_p X l mX3_fits [.int (nI (zy_sg f i)), .int (nI c)] I (zi (zy_ft f i c)) := by
  have e16 : ((nI c).toUInt32 % 65536).toInt32 = nI c := lg_i2c_word (by rw [nI_toInt (by omega)]; omega) (by rw [nI_toInt (by omega)]; omega)
  have hs := zy_sg_le f i
  refine fw_enter [] 100 ok_X3_fits ⟨_, wc_X3_fits⟩ rfl rfl rfl ?_
  refine zq_ne (zy_sg f i) 107 rfl rfl (fun h1 => ?_) (fun h1 => ?_)
  · refine zq_ne (zy_sg f i) 100 rfl rfl (fun h2 => ?_) (fun h2 => ?_)
    · have h3 : zy_sg f i = 59 := by omega
      refine zq_ne c (zy_sg f i) rfl rfl (fun k => ?_) (fun k => ?_)
      · exact ⟨by decide, by simp [zy_ft, h3, zi, show ¬ c = 59 by omega], rfl⟩
      · exact ⟨by decide, by simp [zy_ft, h3, zi, show c = 59 by omega], rfl⟩
    · refine zq_lt c 48 rfl rfl (fun k => ?_) (fun k => ?_)
      · exact ⟨by decide, by simp [zy_ft, h2, zi, show ¬ 48 ≤ c by omega], rfl⟩
      refine zq_lt 57 c rfl rfl (fun k2 => ?_) (fun k2 => ?_)
      · exact ⟨by decide, by simp [zy_ft, h2, zi, show ¬ c ≤ 57 by omega], rfl⟩
      · exact ⟨by decide, by simp [zy_ft, h2, zi, k, k2], rfl⟩
  · have c1 := ct_idx (X := X) (l := l) (I := I) hc
    rw [← e16] at c1
    refine ⟨_, c1, ?_⟩
    rintro v σ' ⟨rfl, rfl⟩
    refine zq_br (zy_kI0 c) (fun k => ?_) (fun k => ?_)
    · exact ⟨by decide, by simp [zy_ft, h1, zi, k], rfl⟩
    · exact ⟨by decide, by simp [zy_ft, h1, zi, Decidable.not_not.mp k], rfl⟩
end zY
