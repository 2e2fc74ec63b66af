theorem zn_sub {a b : Nat} (h : b ≤ a) : nI a - nI b = nI (a - b) := by
  have e : nI (a - b) + nI b = nI a := by rw [nI_add, Nat.sub_add_cancel h]
  rw [← e, Int32.add_sub_cancel]
def zk_odds (n t : Int32) : Nat := if n.toInt < 0 ∨ t.toInt < 2 then 4 else if 8 < n.toInt ∨ 20 < t.toInt then 6 else 0
theorem zk_odds_le {n t : Int32} : zk_odds n t ≤ 6 := by unfold zk_odds; repeat' split
                                                         all_goals omega
theorem zk_odds_sp {n t : Int32} (h : zk_odds n t = 0) : ∃ a b, a ≤ 8 ∧ 2 ≤ b ∧ b ≤ 20 ∧ n = nI a ∧ t = nI b := by
  unfold zk_odds at h
  split at h
  · cases h
  · split at h
    · cases h
    · exact ⟨n.toInt.toNat, t.toInt.toNat, by omega, by omega, by omega, Int32.toInt_inj.mp (by rw [nI_toInt (by omega)]; omega), Int32.toInt_inj.mp (by rw [nI_toInt (by omega)]; omega)⟩
/-- in how many ways r of n are rainy -/
def zr_w (n : Nat) : Nat → Nat
  | 0 => 1
  | r + 1 => zr_w n r * (n - r) / (r + 1)
theorem zr_w_le : ∀ n, n ≤ 8 → ∀ r, r ≤ 9 → zr_w n r ≤ 70 := by decide +kernel
/-- of all cases those in which f comes, the first k counts of rainy days looked at -/
def zr_c (f : Nat → Bool) (n t : Nat) : Nat → Nat
  | 0 => 0
  | r + 1 => if f r = true then zr_c f n t r + zr_w n r * zl_pw (t - 1) (n - r) else zr_c f n t r
theorem zl_pw_le {t : Nat} (ht : t ≤ 20) : ∀ n, zl_pw t n ≤ 20 ^ n
  | 0 => by simp [zl_pw]
  | n + 1 => by
    have := zl_pw_le ht n
    simp only [zl_pw, Nat.pow_succ]
    exact Nat.mul_le_mul this ht
theorem zl_pw_8 {t n : Nat} (ht : t ≤ 20) (hn : n ≤ 8) : zl_pw t n ≤ 25600000000 := by
  have h1 := zl_pw_le ht n
  have h2 : 20 ^ n ≤ 20 ^ 8 := Nat.pow_le_pow_right (by omega) hn
  have h3 : (20 : Nat) ^ 8 = 25600000000 := by decide
  omega
theorem zl_pw_pos {t : Nat} (ht : 1 ≤ t) : ∀ n, 1 ≤ zl_pw t n
  | 0 => by simp [zl_pw]
  | n + 1 => by
    have := zl_pw_pos ht n
    simp only [zl_pw]
    exact Nat.mul_le_mul this ht
theorem zr_c_le {f : Nat → Bool} {n t : Nat} (ht : t ≤ 20) (hn : n ≤ 8) : ∀ k, k ≤ 9 → zr_c f n t k ≤ k * 1792000000000
  | 0, _ => by simp [zr_c]
  | k + 1, hk => by
    have h1 := zr_c_le (f := f) ht hn k (by omega)
    have h2 : zr_w n k * zl_pw (t - 1) (n - k) ≤ 1792000000000 := Nat.le_trans (Nat.mul_le_mul (zr_w_le n hn k (by omega)) (zl_pw_8 (by omega) (by omega))) (by decide)
    rw [Nat.succ_mul]
    generalize 1792000000000 = C at h1 h2 ⊢
    generalize k * C = D at h1 ⊢
    simp only [zr_c]
    split <;> omega
def zr_g : Nat → Nat → Nat → Nat
  | 0, g, _ => g
  | k + 1, g, j => if j = 0 then g else zr_g k j (g % j)
theorem zr_g_gcd : ∀ (b f g j : Nat), j < 2 ^ b → 2 * b + 1 ≤ f → zr_g f g j = Nat.gcd g j
  | 0, f, g, j, hj, hf => by
    have : j = 0 := by simp at hj; omega
    subst this
    obtain ⟨f', rfl⟩ : ∃ f', f = f' + 1 := ⟨f - 1, by omega⟩
    simp [zr_g]
  | b + 1, f, g, j, hj, hf => by
    obtain ⟨f', rfl⟩ : ∃ f', f = f' + 2 := ⟨f - 2, by omega⟩
    by_cases h0 : j = 0
    · subst h0; simp [zr_g]
    · have e1 : zr_g (f' + 2) g j = zr_g (f' + 1) j (g % j) := by simp [zr_g, h0]
      rw [e1]
      by_cases h1 : g % j = 0
      · rw [h1]
        have : Nat.gcd g j = j := by rw [Nat.gcd_comm]; exact Nat.gcd_eq_left (Nat.dvd_of_mod_eq_zero h1)
        rw [this]; simp [zr_g]
      · have hlt : g % j < j := Nat.mod_lt _ (by omega)
        have e2 : zr_g (f' + 1) j (g % j) = zr_g f' (g % j) (j % (g % j)) := by simp [zr_g, h1]
        have hh : j % (g % j) < 2 ^ b := by
          have hm := Nat.mod_lt j (show 0 < g % j by omega)
          have hd := Nat.div_add_mod j (g % j)
          have hq : 1 ≤ j / (g % j) := Nat.div_pos (by omega) (by omega)
          have hmul : g % j ≤ g % j * (j / (g % j)) := Nat.le_mul_of_pos_right _ hq
          have hj2 : j < 2 * 2 ^ b := by rw [Nat.pow_succ] at hj; omega
          omega
        rw [e2, zr_g_gcd b f' (g % j) (j % (g % j)) hh (by omega)]
        have a1 : Nat.gcd g j = Nat.gcd j (g % j) := by rw [Nat.gcd_comm g j, Nat.gcd_rec j g, Nat.gcd_comm]
        have a2 : Nat.gcd j (g % j) = Nat.gcd (g % j) (j % (g % j)) := by rw [Nat.gcd_comm j, Nat.gcd_rec (g % j) j, Nat.gcd_comm]
        rw [a1, a2]
def zr_up (s : zS) (y n t : Nat) : Nat := zr_c (fun r => decide (zl_pd s.1 (zl_ow s.1 6) (n + r) 0 y = 9)) n t (n + 1)
def zr_no (s : zS) (c : Nat) : Int64 × zS := (4000000000000000000 - (zn_g c).toInt64, zs_no s c)
def zo_rain (s : zS) (y n t p : Int32) : Int64 × zS :=
  if zb_in y 36 then (if zk_first (zk_odds n t) (zk_oth p 1) = 0 then (lN ((if p.toNatClampNeg = 0 then zr_up s y.toNatClampNeg n.toNatClampNeg t.toNatClampNeg else zl_pw t.toNatClampNeg n.toNatClampNeg) / Nat.gcd (zl_pw t.toNatClampNeg n.toNatClampNeg) (zr_up s y.toNatClampNeg n.toNatClampNeg t.toNatClampNeg)), s) else zr_no s (zk_first (zk_odds n t) (zk_oth p 1))) else zr_no s 1
section zC14
variable {X : Nat × (Nat → Int32)} {l : Launch} {I : Nat → Nat → Int32} {s : zS}
theorem ct_odds (n t : Int32) : zs_p X l mX5_outsideOdds [.int n, .int t] I (zn_g (zk_odds n t)) := by
  have e : zn_g (zk_odds n t) = zf_odds n t := by
    unfold zk_odds zf_odds
    simp only [zt_lt, show (0 : Int32).toInt = 0 from rfl, show (2 : Int32).toInt = 2 from rfl, show (8 : Int32).toInt = 8 from rfl, show (20 : Int32).toInt = 20 from rfl]
    by_cases h1 : n.toInt < 0
    · simp [h1]; rfl
    · by_cases h2 : t.toInt < 2
      · simp [h1, h2]; rfl
      · by_cases h3 : 8 < n.toInt
        · simp [h1, h2, h3]; rfl
        · by_cases h4 : 20 < t.toInt
          · simp [h1, h2, h3, h4]; rfl
          · simp [h1, h2, h3, h4]; rfl
  rw [e]
  exact ct_outsideOdds n t
theorem ct_common {a b : Nat} (ha : a < 2 ^ 45) (hb : b < 2 ^ 62) : fw_Sem X l mX2_commonDivisor [.long (lN a), .long (lN b)] (fw_sh, I) (fun r σ => r = some (.long (lN (Nat.gcd b a))) ∧ σ = (fw_sh, I)) := by
  have loop : ∀ j k g w v9, k + j = 100 → g < 2 ^ 62 → w < 2 ^ 62 → fw_Go X l mX2_commonDivisor (fun r σ => r = some (.long (lN (zr_g j g w))) ∧ σ = (fw_sh, I)) 9 0 0 [some (.long (lN a)), none, some (.long (lN b)), none, some (.long (lN g)), none, some (.long (lN w)), none, some (.int (nI k)), v9, none] [] (fw_sh, I) := by
    intro j
    induction j with
    | zero =>
      intro k g w v9 hk hg hw
      refine fw_from [9] 100 6 ok_X2_commonDivisor ⟨_, wc_X2_commonDivisor⟩ rfl ?_
      refine zq_le 100 k rfl rfl (fun _ => ?_) (fun z => absurd z (by omega))
      exact ⟨rfl, rfl⟩
    | succ j ih =>
      intro k g w v9 hk hg hw
      refine fw_from [9] 100 6 ok_X2_commonDivisor ⟨_, wc_X2_commonDivisor⟩ rfl ?_
      refine zq_le 100 k rfl rfl (fun z => absurd z (by omega)) (fun _ => ?_)
      refine zq_br (c := lg_cmp (lN w) 0 = 0) (d := w = 0) ?_ (fun z => ?_) (fun z => ?_)
      · rw [lg_cmp_eq, show (0 : Int64) = lN 0 from rfl, pk_lEQ (by omega) (by omega)]
      · exact ⟨by simp [zr_g, z], rfl⟩
      · refine And.intro ?_ ?_
        · rw [show (0 : Int64) = lN 0 from rfl, pk_lEQ (by omega) (by omega)]; exact z
        · have e := ih (k + 1) w (g % w) (some (.long (lN (g % w)))) (by omega) hw (Nat.lt_of_le_of_lt (Nat.mod_le _ _) hg)
          simp only [zr_g, z, if_false]
          rw [show lN g - lN g / lN w * lN w = lN (g % w) from pk_lRem (by omega) (by omega) (by omega)]
          exact fw_sub e (by simp only [nI_1]) rfl
  refine fw_enter [9] 100 ok_X2_commonDivisor ⟨_, wc_X2_commonDivisor⟩ rfl rfl rfl ?_
  have := loop 100 0 b a none (by omega) hb (by omega)
  rw [zr_g_gcd 45 100 b a ha (by omega)] at this
  exact fw_sub this (by rfl) rfl
theorem ct_cases (h : zc_at s I) {y n t : Nat} (hy : y < 36) (hn : n ≤ 8) (ht2 : 2 ≤ t) (ht : t ≤ 20) : fw_Sem X l mX5_thistleCases [.ref 0, .int (nI y), .int (nI n), .int (nI t)] (fw_sh, I) (fun r σ => r = some (.long (lN (zr_up s y n t))) ∧ σ = (fw_sh, I)) := by
  have hl := h.2.1
  have loop := zl_down (N := n + 1) (G := fun r => fw_Go X l mX5_thistleCases (fun r σ => r = some (.long (lN (zr_up s y n t))) ∧ σ = (fw_sh, I)) 9 0 0 [some (.ref 0), some (.int (nI y)), some (.int (nI n)), some (.int (nI t)), some (.long (lN (zr_c (fun r => decide (zl_pd s.1 (zl_ow s.1 6) (n + r) 0 y = 9)) n t r))), none, some (.long (lN (zr_w n r))), none, some (.int (nI r))] [] (fw_sh, I)) (by
    refine fw_from [9] 100 6 ok_X5_thistleCases ⟨_, wc_X5_thistleCases⟩ rfl ?_
    refine zq_lt n (n + 1) rfl rfl (fun _ => ?_) (fun z => absurd z (by omega))
    exact ⟨rfl, rfl⟩) (fun r hr ih => by
    have hw := zr_w_le n hn r (by omega)
    have hp := zl_pw_8 (t := t - 1) (n := n - r) (by omega) (by omega)
    have hmul : zr_w n r * (n - r) ≤ 70 * 8 := Nat.mul_le_mul hw (by omega)
    have ew : lN (zr_w n r) * (nI n - nI r).toInt64 / (nI r + 1).toInt64 = lN (zr_w n (r + 1)) := by
      rw [zn_sub (by omega : r ≤ n), nI_1, nI_l (by omega), nI_l (by omega), lN_mul, pk_lDiv (by omega) (by omega) (by omega)]
      rfl
    have tail : ∀ c, c = zr_c (fun r => decide (zl_pd s.1 (zl_ow s.1 6) (n + r) 0 y = 9)) n t (r + 1) → fw_Go X l mX5_thistleCases (fun r σ => r = some (.long (lN (zr_up s y n t))) ∧ σ = (fw_sh, I)) 50 0 0 [some (.ref 0), some (.int (nI y)), some (.int (nI n)), some (.int (nI t)), some (.long (lN c)), none, some (.long (lN (zr_w n r))), none, some (.int (nI r))] [] (fw_sh, I) := by
      intro c hc
      refine fw_from [9] 100 30 ok_X5_thistleCases ⟨_, wc_X5_thistleCases⟩ rfl ?_
      refine And.intro ?_ ?_
      · rw [nI_1, nI_l (by omega), show (0 : Int64) = lN 0 from rfl, pk_lEQ (by omega) (by omega)]; omega
      · exact fw_sub ih (by rw [ew, hc]; simp only [nI_1]) rfl
    have c1 := ct_grownBehind (X := X) (l := l) hl hy (N := n + r) (by omega)
    rw [← nI_add] at c1
    have h9 : zl_pd s.1 (zl_ow s.1 6) (n + r) 0 y ≤ 9 := by
      have := hl.2.1.2.2.1 y hy
      unfold zl_pd
      simp only [if_true]
      repeat' split
      all_goals omega
    refine fw_from [9, 50] 100 6 ok_X5_thistleCases ⟨_, wc_X5_thistleCases⟩ rfl ?_
    refine zq_lt n r rfl rfl (fun z => absurd z (by omega)) (fun _ => ?_)
    refine ⟨_, c1, ?_⟩
    rintro v' σ' ⟨rfl, rfl⟩
    refine zq_ne (zl_pd s.1 (zl_ow s.1 6) (n + r) 0 y) 9 rfl rfl (fun k => ?_) (fun k => ?_)
    · exact fw_sub (tail (zr_c (fun r => decide (zl_pd s.1 (zl_ow s.1 6) (n + r) 0 y = 9)) n t r) (by simp [zr_c, k])) (by rfl) rfl
    · have c2 := ct_power (X := X) (l := l) (I := I) (t := t - 1) (n := n - r) (by omega) (by omega)
      rw [← zn_sub (by omega : r ≤ n), ← zn_sub (by omega : 1 ≤ t)] at c2
      refine ⟨_, c2, ?_⟩
      rintro v' σ' ⟨rfl, rfl⟩
      exact fw_sub (tail (zr_c (fun r => decide (zl_pd s.1 (zl_ow s.1 6) (n + r) 0 y = 9)) n t r + zr_w n r * zl_pw (t - 1) (n - r)) (by simp [zr_c, k])) (by rw [lN_mul, lN_add]) rfl)
  refine fw_enter [9] 100 ok_X5_thistleCases ⟨_, wc_X5_thistleCases⟩ rfl rfl rfl ?_
  exact fw_sub (loop 0 (by omega)) (by rfl) rfl
theorem cs_rain (h : zc_at s I) (y n t p : Int32) : fw_Sem X l mX5_rain [.ref 0, .int y, .int n, .int t, .int p] (fw_sh, I) (fun r σ => r = some (.long (zo_rain s y n t p).1) ∧ ∃ I', σ = (fw_sh, I') ∧ zc_at (zo_rain s y n t p).2 I' ∧ zf_hi I I') := by
  have no : ∀ c, 1 ≤ c → c ≤ 6 → zo_rain s y n t p = zr_no s c → fw_Go X l mX5_rain (fun r σ => r = some (.long (zo_rain s y n t p).1) ∧ ∃ I', σ = (fw_sh, I') ∧ zc_at (zo_rain s y n t p).2 I' ∧ zf_hi I I') 25 0 0 [some (.ref 0), some (.int y), some (.int n), some (.int t), some (.int p), none, none, none, none, none, none, none] [.int (zn_g c)] (fw_sh, I) := by
    intro c hc1 hc6 e
    refine fw_from [] 100 12 ok_X5_rain ⟨_, wc_X5_rain⟩ rfl ?_
    refine zq_br (zn_g0 hc6) (fun z => absurd z (by omega)) (fun _ => ?_)
    refine ⟨_, ct_no (X := X) (l := l) h hc1 hc6, fun v σ' hq => ?_⟩
    obtain ⟨rfl, I', rfl, h1, h2⟩ := hq
    rw [e]
    exact ⟨rfl, I', rfl, h1, h2⟩
  refine fw_enter [25] 100 ok_X5_rain ⟨_, wc_X5_rain⟩ rfl rfl rfl ?_
  refine ⟨_, ct_isYard (X := X) (l := l) (I := I) y, ?_⟩
  rintro v σ' ⟨rfl, rfl⟩
  refine zq_brn (zi_eq0 _) (fun g => ?_) (fun g => ?_)
  · have g : zb_in y 36 = true := by simpa using g
    obtain ⟨q, hq, rfl⟩ := zb_in_of g (by omega)
    have ec := nI_clamp (n := q) (by omega)
    refine ⟨_, ct_odds (X := X) (l := l) (I := I) n t, ?_⟩
    rintro v' σ' ⟨rfl, rfl⟩
    refine ⟨_, ct_oth (X := X) (l := l) (I := I) p 1, ?_⟩
    rintro v' σ' ⟨rfl, rfl⟩
    refine ⟨_, ct_first (X := X) (l := l) (I := I) zk_odds_le, ?_⟩
    rintro v' σ' ⟨rfl, rfl⟩
    by_cases hk : zk_first (zk_odds n t) (zk_oth p 1) = 0
    · obtain ⟨hk1, hk2⟩ := zk_first0 hk
      obtain ⟨a, b, ha, hb2, hb, rfl, rfl⟩ := zk_odds_sp hk1
      obtain ⟨u, hu, rfl⟩ := zk_oth_sp hk2
      have ea := nI_clamp (n := a) (by omega)
      have eb := nI_clamp (n := b) (by omega)
      have eu := nI_clamp (n := u) (by omega)
      have hpw := zl_pw_8 hb ha
      have hpp := zl_pw_pos (t := b) (by omega) a
      have hup : zr_up s q a b ≤ 9 * 1792000000000 := by
        refine Nat.le_trans (zr_c_le hb ha (a + 1) (by omega)) (Nat.mul_le_mul_right _ (by omega))
      have hg1 : 1 ≤ Nat.gcd (zl_pw b a) (zr_up s q a b) := Nat.gcd_pos_of_pos_left _ hpp
      have hg2 : Nat.gcd (zl_pw b a) (zr_up s q a b) ≤ zl_pw b a := Nat.gcd_le_left _ hpp
      rw [hk]
      simp only [zo_rain, g, ec, hk, ea, eb, eu, if_true]
      refine fw_from [] 100 12 ok_X5_rain ⟨_, wc_X5_rain⟩ rfl ?_
      refine zq_br (zn_g0 (show 0 ≤ 6 by omega)) (fun _ => ?_) (fun z => absurd rfl z)
      refine ⟨_, ct_cases (X := X) (l := l) h hq ha hb2 hb, ?_⟩
      rintro v' σ' ⟨rfl, rfl⟩
      refine ⟨_, ct_power (X := X) (l := l) (I := I) (t := b) (n := a) (by omega) (by omega), ?_⟩
      rintro v' σ' ⟨rfl, rfl⟩
      refine ⟨_, ct_common (X := X) (l := l) (I := I) (a := zr_up s q a b) (b := zl_pw b a) (by omega) (by omega), ?_⟩
      rintro v' σ' ⟨rfl, rfl⟩
      have hne : ¬ lN (Nat.gcd (zl_pw b a) (zr_up s q a b)) = 0 := by
        rw [show (0 : Int64) = lN 0 from rfl, pk_lEQ (by omega) (by omega)]; omega
      refine zq_br (d := 1 ≤ Nat.gcd (zl_pw b a) (zr_up s q a b)) ?_ (fun _ => ?_) (fun z => absurd hg1 z)
      · rw [lg_cmp_ge]; exact pk_lLE (a := 1) (by omega) (by omega)
      refine zq_ne u 0 rfl rfl (fun k => ?_) (fun k => ?_)
      · refine And.intro hne ?_
        simp only [k, if_false]
        exact ⟨by rw [pk_lDiv (by omega) (by omega) (by omega)], I, rfl, h, zf_hi.rf⟩
      · refine And.intro hne ?_
        simp only [k, if_true]
        exact ⟨by rw [pk_lDiv (by omega) (by omega) (by omega)], I, rfl, h, zf_hi.rf⟩
    · exact fw_sub2 (no (zk_first (zk_odds n t) (zk_oth p 1)) (by omega) (zk_first_le zk_odds_le zk_oth_le) (by simp only [zo_rain, g, hk, if_true, if_false])) (by rfl) (by rfl) rfl
  · exact fw_sub2 (no 1 (by omega) (by omega) (by simp [zo_rain, g])) (by rfl) (by rfl) rfl
end zC14
