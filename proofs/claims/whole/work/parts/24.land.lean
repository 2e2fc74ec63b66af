section zA
variable {X : Nat × (Nat → Int32)} {l : Launch} {I : Nat → Nat → Int32}
theorem ct_isYard (y : Int32) : zs_p X l mX5_isYard [.int y] I (zi (zb_in y 36)) := by
  refine fw_enter [] 100 ok_X5_isYard ⟨_, wc_X5_isYard⟩ rfl rfl rfl ?_
  refine zq_br (zt_lt0 y) (fun h => ?_) (fun h => ?_)
  · exact ⟨by decide, by simp [zb_in, zi, show ¬ (0 ≤ y.toInt) by omega], rfl⟩
  · refine zq_br (zt_le 36 y) (fun h2 => ?_) (fun h2 => ?_)
    · have e : (36 : Int32).toInt = 36 := rfl
      exact ⟨by decide, by simp [zb_in, zi, show ¬ (y.toInt < 36) by omega], rfl⟩
    · have e : (36 : Int32).toInt = 36 := rfl
      exact ⟨by decide, by simp [zb_in, zi, show (y.toInt < 36) by omega, show 0 ≤ y.toInt by omega], rfl⟩
def zf_out (x a b : Int32) : Int32 := if x < a then -4 else if b < x then -6 else 0
theorem ct_outside (x a b : Int32) : zs_p X l mX5_outside [.int x, .int a, .int b] I (zf_out x a b) := by
  refine fw_enter [] 100 ok_X5_outside ⟨_, wc_X5_outside⟩ rfl rfl rfl ?_
  refine And.intro (fun h => ?_) (fun h => ?_)
  · have h1 : ¬ x < a := Int32.not_lt.mpr h
    refine And.intro (fun h2 => ?_) (fun h2 => ?_)
    · exact ⟨by simp [zf_out, h1, Int32.not_lt.mpr h2], rfl⟩
    · exact ⟨by simp [zf_out, h1, Int32.not_le.mp h2], rfl⟩
  · exact ⟨by simp [zf_out, Int32.not_le.mp h], rfl⟩
def zf_first (a b : Int32) : Int32 := if a = 0 then b else a
theorem ct_firstOf (a b : Int32) : zs_p X l mX5_firstOf [.int a, .int b] I (zf_first a b) := by
  refine fw_enter [] 100 ok_X5_firstOf ⟨_, wc_X5_firstOf⟩ rfl rfl rfl ?_
  refine And.intro (fun h => ?_) (fun h => ?_)
  · exact ⟨by simp [zf_first, h], rfl⟩
  · exact ⟨by simp [zf_first, h], rfl⟩
def zf_oth (x b : Int32) : Int32 := if x < 0 then -2 else if b < x then -2 else 0
theorem ct_otherThan (x b : Int32) : zs_p X l mX5_otherThan [.int x, .int b] I (zf_oth x b) := by
  refine fw_enter [] 100 ok_X5_otherThan ⟨_, wc_X5_otherThan⟩ rfl rfl rfl ?_
  refine And.intro (fun h => ?_) (fun h => ?_)
  · exact ⟨by simp [zf_oth, h], rfl⟩
  · refine And.intro (fun h2 => ?_) (fun h2 => ?_)
    · exact ⟨by simp [zf_oth, h, Int32.not_lt.mpr h2], rfl⟩
    · exact ⟨by simp [zf_oth, h, Int32.not_le.mp h2], rfl⟩
def zf_odds (n t : Int32) : Int32 := if n < 0 then -4 else if t < 2 then -4 else if 8 < n then -6 else if 20 < t then -6 else 0
theorem ct_outsideOdds (n t : Int32) : zs_p X l mX5_outsideOdds [.int n, .int t] I (zf_odds n t) := by
  refine fw_enter [] 100 ok_X5_outsideOdds ⟨_, wc_X5_outsideOdds⟩ rfl rfl rfl ?_
  refine And.intro (fun h => ?_) (fun h => ?_)
  · exact ⟨by simp [zf_odds, h], rfl⟩
  · refine And.intro (fun h2 => ?_) (fun h2 => ?_)
    · have h2 := Int32.not_lt.mpr h2
      refine And.intro (fun h3 => ?_) (fun h3 => ?_)
      · exact ⟨by simp [zf_odds, h, h2, h3], rfl⟩
      · refine And.intro (fun h4 => ?_) (fun h4 => ?_)
        · exact ⟨by simp [zf_odds, h, h2, h3, Int32.not_lt.mpr h4], rfl⟩
        · exact ⟨by simp [zf_odds, h, h2, h3, Int32.not_le.mp h4], rfl⟩
    · exact ⟨by simp [zf_odds, h, Int32.not_le.mp h2], rfl⟩
/-- a refusal is counted -/
theorem ct_refuse (q : Nat) (h1 : 1 ≤ q) (h6 : q ≤ 6) : fw_Sem X l mX5_refuse [.ref 0, .int (-(nI q))] (fw_sh, I) (fun r σ => r = some (.int (-(nI q))) ∧ σ = (fw_sh, fw_up I 37 q (I 37 q + 1))) := by
  have e : q = 1 ∨ q = 2 ∨ q = 3 ∨ q = 4 ∨ q = 5 ∨ q = 6 := by omega
  refine fw_enter [] 100 ok_X5_refuse ⟨_, wc_X5_refuse⟩ rfl rfl rfl ?_
  have e2 : -(-(nI q)) = nI q := by simp
  refine And.intro (fun h => absurd h ?_) (fun _ => ?_)
  · rcases e with rfl | rfl | rfl | rfl | rfl | rfl <;> decide
  refine And.intro (fun h => absurd h ?_) (fun _ => ?_)
  · rcases e with rfl | rfl | rfl | rfl | rfl | rfl <;> decide
  refine And.intro (fw_in1 q 7 (by omega) e2) ?_
  refine And.intro (fw_in1 q 7 (by omega) e2) ?_
  exact ⟨rfl, by rw [e2, nI_clamp (by omega)]⟩
theorem ct_ofKind (k f d : Nat) (hk : k ≤ 5) (hf : f ≤ 9) (hd : d < 100000) : zs_p X l mX0_ofKind [.int (nI k), .int (nI f), .int (nI d)] I (nI (zl_gr k f d)) := by
  have r3 : nI d - nI d / 3 * 3 = nI (d % 3) := pk_rem (d := 3) (by omega) (by omega) (by omega)
  have r2 : nI d - nI d / 2 * 2 = nI (d % 2) := pk_rem (d := 2) (by omega) (by omega) (by omega)
  have r7 : nI d - nI d / 7 * 7 = nI (d % 7) := pk_rem (d := 7) (by omega) (by omega) (by omega)
  have f4 : nI f / 4 = nI (f / 4) := pk_div (d := 4) (by omega) (by omega) (by omega)
  have f3 : nI f / 3 = nI (f / 3) := pk_div (d := 3) (by omega) (by omega) (by omega)
  have l0 : (0 : Int32) = nI 0 := rfl
  have l1 : (1 : Int32) = nI 1 := rfl
  have main : ∀ a b : Nat, a = (if d % 3 = 0 then 1 else 0) → b = (if d % 2 = 0 then 1 else 0) → fw_Go X l mX0_ofKind (fun r σ => r = some (.int (nI (zl_gr k f d))) ∧ σ = (fw_sh, I)) 35 0 0 [some (.int (nI k)), some (.int (nI f)), some (.int (nI d)), some (.int (nI a)), some (.int (nI (a + b))), some (.int (nI (a + b + f / 4)))] [] (fw_sh, I) := by
    intro a b ha hb
    have d2 : nI (a + b + f / 4 + 1) / 2 = nI ((a + b + f / 4 + 1) / 2) := pk_div (d := 2) (by split at ha <;> split at hb <;> omega) (by omega) (by omega)
    refine fw_from [] 100 24 ok_X0_ofKind ⟨_, wc_X0_ofKind⟩ rfl ?_
    refine zq_eq k 1 rfl rfl (fun h => ?_) (fun h1 => ?_)
    · exact ⟨by simp [zl_gr, h, ha, hb], rfl⟩
    refine zq_eq k 2 rfl rfl (fun h => ?_) (fun h2 => ?_)
    · exact ⟨by simp [zl_gr, h, ha, hb], rfl⟩
    refine zq_eq k 3 rfl rfl (fun h => ?_) (fun h3 => ?_)
    · refine And.intro (by decide) ?_
      exact ⟨by rw [nI_1, d2]; simp [zl_gr, h, ha, hb], rfl⟩
    refine zq_eq k 4 rfl rfl (fun h => ?_) (fun h4 => ?_)
    · refine And.intro (by decide) ?_
      refine zq_ne (d % 7) 0 r7 rfl (fun h7 => ?_) (fun h7 => ?_)
      · exact ⟨by rw [l0, nI_add]; simp [zl_gr, h, ha, h7], rfl⟩
      · refine And.intro (by decide) ?_
        exact ⟨by rw [f3, nI_add]; simp [zl_gr, h, ha, h7], rfl⟩
    refine zq_eq k 5 rfl rfl (fun h => ?_) (fun h5 => ?_)
    · exact ⟨by simp [zl_gr, h, l0], rfl⟩
    exact ⟨by simp [zl_gr, h1, h2, h3, h4, h5, ha], rfl⟩
  refine fw_enter [35] 100 ok_X0_ofKind ⟨_, wc_X0_ofKind⟩ rfl rfl rfl ?_
  refine And.intro (by decide) ?_
  refine zq_ne (d % 3) 0 r3 rfl (fun h3 => ?_) (fun h3 => ?_)
  · refine And.intro (by decide) ?_
    refine zq_ne (d % 2) 0 r2 rfl (fun h2 => ?_) (fun h2 => ?_)
    · refine And.intro (by decide) ?_
      exact fw_sub (main 0 0 (by simp [h3]) (by simp [h2])) (by rw [f4, l0, nI_add, nI_add]; rfl) rfl
    · refine And.intro (by decide) ?_
      exact fw_sub (main 0 1 (by simp [h3]) (by simp [h2])) (by rw [f4, l0, l1, nI_add, nI_add]; rfl) rfl
  · refine And.intro (by decide) ?_
    refine zq_ne (d % 2) 0 r2 rfl (fun h2 => ?_) (fun h2 => ?_)
    · refine And.intro (by decide) ?_
      exact fw_sub (main 1 0 (by simp [h3]) (by simp [h2])) (by rw [f4, l0, l1, nI_add, nI_add]; rfl) rfl
    · refine And.intro (by decide) ?_
      exact fw_sub (main 1 1 (by simp [h3]) (by simp [h2])) (by rw [f4, l1, nI_add, nI_add]; rfl) rfl
end zA
section zB
variable {X : Nat × (Nat → Int32)} {l : Launch} {I : Nat → Nat → Int32} {d : Nat} {L : Nat → Nat → Nat} {ow : Nat → Nat}
theorem ct_hasPiece (h : zl_at d L ow I) (p : Int32) : zs_p X l mX1_hasPiece [.ref d, .int p] I (zi (zb_in p (L 9 0))) := by
  obtain ⟨hd, hw, h0, h1, h2, h3, h4, h5⟩ := h
  have hP : (nI (L 9 0)).toInt = (L 9 0 : Int) := nI_toInt (by have := hw.1; omega)
  refine fw_enter [] 100 ok_X1_hasPiece ⟨_, wc_X1_hasPiece⟩ rfl rfl rfl ?_
  refine zq_br (zt_lt0 p) (fun g => ?_) (fun g => ?_)
  · exact ⟨by decide, by simp [zb_in, zi, show ¬ (0 ≤ p.toInt) by omega], rfl⟩
  · rcases hd with rfl | rfl | rfl <;>
    · refine zq_br (c := I _ 9 ≤ p) (d := (L 9 0 : Int) ≤ p.toInt) ?_ (fun g2 => ?_) (fun g2 => ?_)
      · rw [h3, zt_le, hP]
      · exact ⟨by decide, by simp [zb_in, zi, show ¬ (p.toInt < (L 9 0 : Int)) by omega], rfl⟩
      · exact ⟨by decide, by simp [zb_in, zi, show (p.toInt < (L 9 0 : Int)) by omega, show 0 ≤ p.toInt by omega], rfl⟩
theorem ct_covers (h : zl_at d L ow I) {p y : Nat} (hp : p < L 9 0) (hy : y < 36) : zs_p X l mX1_covers [.ref d, .int (nI p), .int (nI y)] I (zi (zl_cov L p y)) := by
  obtain ⟨hd, hw, h0, h1, h2, h3, h4, h5⟩ := h
  have hP := hw.1
  obtain ⟨w2, w3, w4, w5, w6, w7, w8, w9⟩ := hw.2.2.2 p hp
  have f4 := h2 4 (by omega) (by omega) p hp
  have f5 := h2 5 (by omega) (by omega) p hp
  have f6 := h2 6 (by omega) (by omega) p hp
  have y6 : nI y / 6 = nI (y / 6) := pk_div (d := 6) (by omega) (by omega) (by omega)
  have a6 : nI (L 4 p) / 6 = nI (L 4 p / 6) := pk_div (d := 6) (by omega) (by omega) (by omega)
  have yr : nI y - nI y / 6 * 6 = nI (y % 6) := pk_rem (d := 6) (by omega) (by omega) (by omega)
  have ar : nI (L 4 p) - nI (L 4 p) / 6 * 6 = nI (L 4 p % 6) := pk_rem (d := 6) (by omega) (by omega) (by omega)
  have t1 : (nI (y / 6) - nI (L 4 p / 6)).toInt = ((y / 6 : Nat) : Int) - ((L 4 p / 6 : Nat) : Int) := pk_sub_toInt (by omega) (by omega)
  have t2 : (nI (y % 6) - nI (L 4 p % 6)).toInt = ((y % 6 : Nat) : Int) - ((L 4 p % 6 : Nat) : Int) := pk_sub_toInt (by omega) (by omega)
  have z5 : (nI (L 5 p)).toInt = ((L 5 p : Nat) : Int) := nI_toInt (by omega)
  have z6 : (nI (L 6 p)).toInt = ((L 6 p : Nat) : Int) := nI_toInt (by omega)
  refine fw_enter [] 100 ok_X1_covers ⟨_, wc_X1_covers⟩ rfl rfl rfl ?_
  refine And.intro (by decide) ?_
  rcases hd with rfl | rfl | rfl <;>
  · refine And.intro (fw_in1 p 6 (by omega)) ?_
    refine And.intro (by decide) ?_
    refine And.intro (by decide) ?_
    refine And.intro (fw_in1 p 6 (by omega)) ?_
    refine And.intro (by decide) ?_
    have q4 := zq_rd f4
    refine zq_br (c := nI y / 6 - I _ _ / 6 < 0) (d := y / 6 < L 4 p / 6) ?_ (fun g => ?_) (fun g => ?_)
    · rw [q4, y6, a6, zt_lt0, t1]; omega
    · exact ⟨by decide, by simp [zl_cov, zi, show ¬ (L 4 p / 6 ≤ y / 6) by omega], rfl⟩
    refine And.intro (fw_in1 p 6 (by omega)) ?_
    refine zq_br (c := I _ _ ≤ nI y / 6 - I _ _ / 6) (d := L 4 p / 6 + L 5 p ≤ y / 6) ?_ (fun g2 => ?_) (fun g2 => ?_)
    · rw [q4, zq_rd f5, y6, a6, zt_le, t1, z5]; omega
    · exact ⟨by decide, by simp [zl_cov, zi, show ¬ (y / 6 < L 4 p / 6 + L 5 p) by omega], rfl⟩
    refine zq_br (c := nI y - nI y / 6 * 6 - (I _ _ - I _ _ / 6 * 6) < 0) (d := y % 6 < L 4 p % 6) ?_ (fun g3 => ?_) (fun g3 => ?_)
    · rw [q4, yr, ar, zt_lt0, t2]; omega
    · exact ⟨by decide, by simp [zl_cov, zi, show ¬ (L 4 p % 6 ≤ y % 6) by omega], rfl⟩
    refine And.intro (fw_in1 p 6 (by omega)) ?_
    refine zq_br (c := I _ _ ≤ nI y - nI y / 6 * 6 - (I _ _ - I _ _ / 6 * 6)) (d := L 4 p % 6 + L 6 p ≤ y % 6) ?_ (fun g4 => ?_) (fun g4 => ?_)
    · rw [q4, zq_rd f6, yr, ar, zt_le, t2, z6]; omega
    · exact ⟨by decide, by simp [zl_cov, zi, show ¬ (y % 6 < L 4 p % 6 + L 6 p) by omega], rfl⟩
    · exact ⟨by decide, by simp [zl_cov, zi, show (L 4 p / 6 ≤ y / 6 ∧ y / 6 < L 4 p / 6 + L 5 p ∧ L 4 p % 6 ≤ y % 6 ∧ y % 6 < L 4 p % 6 + L 6 p) by omega], rfl⟩
end zB
