noncomputable def zh_op (L : Nat → Nat → Nat) (p a b : Nat) : Nat := zb_far (zl_op (zl_tr (fun k j => if k = 7 ∧ j = p then 0 else L k j) (zl_ow L 6) p) (zl_ow L 6)) a b
noncomputable def zo_opens (s : zS) (a b : Int32) : Int32 × zS :=
  if (zb_in a 36 && zb_in b 36 && !(decide (a = b))) = true then (z9_I (zq_mn (fun _ => false) (fun p => zh_op s.1 p a.toNatClampNeg b.toNatClampNeg) (zb_far (zl_op s.1 (zl_ow s.1 6)) a.toNatClampNeg b.toNatClampNeg) (s.1 9 0)).1, s) else zx_no s 1
noncomputable def zo_put (s : zS) (a b p n : Int32) : Int32 × zS :=
  if (zb_in a 36 && zb_in b 36 && zb_in p (s.1 9 0)) = true then (if zk_out n 1 36 = 0 then ((if zb_far (zl_op s.1 (zl_ow s.1 6)) b.toNatClampNeg a.toNatClampNeg ≠ 36 ∧ zl_ow s.1 6 (zb_st (zb_far (zl_op s.1 (zl_ow s.1 6)) b.toNatClampNeg) n.toNatClampNeg a.toNatClampNeg) = p.toNatClampNeg then 1 else 0), s) else zx_no s (zk_out n 1 36)) else zx_no s 1
noncomputable def zo_two (s : zS) (p q a b : Int32) : Int32 × zS :=
  if (zb_in p (s.1 9 0) && zb_in q (s.1 9 0) && !(decide (p = q)) && (zb_in a 36 && zb_in b 36 && !(decide (a = b)))) = true then
    ((if zh_tu s.1 6 6 a.toNatClampNeg b.toNatClampNeg ≤ zh_tu s.1 p.toNatClampNeg 6 a.toNatClampNeg b.toNatClampNeg ∧ zh_tu s.1 6 q.toNatClampNeg a.toNatClampNeg b.toNatClampNeg ≤ zh_tu s.1 6 6 a.toNatClampNeg b.toNatClampNeg then 0
      else if zh_tu s.1 6 q.toNatClampNeg a.toNatClampNeg b.toNatClampNeg ≤ zh_tu s.1 p.toNatClampNeg q.toNatClampNeg a.toNatClampNeg b.toNatClampNeg ∧ zh_tu s.1 6 6 a.toNatClampNeg b.toNatClampNeg ≤ zh_tu s.1 6 q.toNatClampNeg a.toNatClampNeg b.toNatClampNeg then 1
      else if zh_tu s.1 p.toNatClampNeg 6 a.toNatClampNeg b.toNatClampNeg ≤ zh_tu s.1 6 6 a.toNatClampNeg b.toNatClampNeg ∧ zh_tu s.1 p.toNatClampNeg q.toNatClampNeg a.toNatClampNeg b.toNatClampNeg ≤ zh_tu s.1 p.toNatClampNeg 6 a.toNatClampNeg b.toNatClampNeg then 10
      else if zh_tu s.1 p.toNatClampNeg q.toNatClampNeg a.toNatClampNeg b.toNatClampNeg ≤ zh_tu s.1 6 q.toNatClampNeg a.toNatClampNeg b.toNatClampNeg ∧ zh_tu s.1 p.toNatClampNeg 6 a.toNatClampNeg b.toNatClampNeg ≤ zh_tu s.1 p.toNatClampNeg q.toNatClampNeg a.toNatClampNeg b.toNatClampNeg then 11 else -9), s) else zx_no s 1
theorem zb_st_lt {far : Nat → Nat} : ∀ n y, y < 36 → zb_st far n y < 36
  | 0, _, h => h
  | n + 1, y, h => by
    simp only [zb_st]
    split
    · exact h
    · exact zb_st_lt n _ (zb_nr_lt h 4 0)
section zC8
variable {X : Nat × (Nat → Int32)} {l : Launch} {I : Nat → Nat → Int32} {s : zS}
theorem cs_put (h : zc_at s I) (a b p n : Int32) : zs_c X l mX5_putAway [.ref 0, .int a, .int b, .int p, .int n] I (zo_put s a b p n) := by
  have hl := h.2.1
  have hP := hl.2.1.1
  have no : ∀ c v5, 1 ≤ c → c ≤ 6 → zo_put s a b p n = zx_no s c → fw_Go X l mX5_putAway (fun r σ => r = some (.int (zo_put s a b p n).1) ∧ ∃ I', σ = (fw_sh, I') ∧ zc_at (zo_put s a b p n).2 I' ∧ zf_hi I I') 49 0 0 [some (.ref 0), some (.int a), some (.int b), some (.int p), some (.int n), some (.int v5), none, none] [.int (zn_g c)] (fw_sh, I) := by
    intro c v5 hc1 hc6 e
    refine fw_from [] 100 23 ok_X5_putAway ⟨_, wc_X5_putAway⟩ rfl ?_
    refine zq_br (zn_g0 hc6) (fun z => absurd z (by omega)) (fun _ => ?_)
    refine ⟨_, ct_no (X := X) (l := l) h hc1 hc6, fun v σ' hq => ?_⟩
    obtain ⟨rfl, I', rfl, h1, h2⟩ := hq
    exact zc_end e ⟨rfl, I', rfl, h1, h2⟩
  have bad : (zb_in a 36 && zb_in b 36 && zb_in p (s.1 9 0)) = false → fw_Go X l mX5_putAway (fun r σ => r = some (.int (zo_put s a b p n).1) ∧ ∃ I', σ = (fw_sh, I') ∧ zc_at (zo_put s a b p n).2 I' ∧ zf_hi I I') 30 0 0 [some (.ref 0), some (.int a), some (.int b), some (.int p), some (.int n), none, none, none] [.int 0] (fw_sh, I) := by
    intro e
    refine fw_from [49] 100 14 ok_X5_putAway ⟨_, wc_X5_putAway⟩ rfl ?_
    refine And.intro (fun z => absurd rfl z) (fun _ => ?_)
    exact fw_sub2 (no 1 0 (by omega) (by omega) (by simp [zo_put, e])) (by rfl) (by rfl) rfl
  refine fw_enter [30] 100 ok_X5_putAway ⟨_, wc_X5_putAway⟩ rfl rfl rfl ?_
  refine ⟨_, ct_isYard (X := X) (l := l) (I := I) a, ?_⟩
  rintro v σ' ⟨rfl, rfl⟩
  refine zq_br (zi_eq0 _) (fun g => ?_) (fun g => ?_)
  · exact fw_sub2 (bad (by simp [g])) (by rfl) (by rfl) rfl
  have g : zb_in a 36 = true := by simpa using g
  refine ⟨_, ct_isYard (X := X) (l := l) (I := I) b, ?_⟩
  rintro v σ' ⟨rfl, rfl⟩
  refine zq_br (zi_eq0 _) (fun g2 => ?_) (fun g2 => ?_)
  · exact fw_sub2 (bad (by simp [g2])) (by rfl) (by rfl) rfl
  have g2 : zb_in b 36 = true := by simpa using g2
  refine ⟨_, ct_hasPiece (X := X) (l := l) hl p, ?_⟩
  rintro v σ' ⟨rfl, rfl⟩
  refine zq_br (zi_eq0 _) (fun g3 => ?_) (fun g3 => ?_)
  · exact fw_sub2 (bad (by simp [g3])) (by rfl) (by rfl) rfl
  have g3 : zb_in p (s.1 9 0) = true := by simpa using g3
  refine fw_from [49] 100 14 ok_X5_putAway ⟨_, wc_X5_putAway⟩ rfl ?_
  refine And.intro (fun _ => ?_) (fun z => absurd z (by decide))
  refine ⟨_, ct_out (X := X) (l := l) (I := I) n 1 36, ?_⟩
  rintro v' σ' ⟨rfl, rfl⟩
  by_cases hk : zk_out n 1 36 = 0
  · obtain ⟨j, hj1, hj, rfl⟩ := zk_out_sp hk
    obtain ⟨x, hx, rfl⟩ := zb_in_of g (by omega)
    obtain ⟨y, hy, rfl⟩ := zb_in_of g2 (by omega)
    obtain ⟨q, hq, rfl⟩ := zb_in_of g3 (by omega)
    have ej := nI_clamp (n := j) (by omega)
    have ex := nI_clamp (n := x) (by omega)
    have ey := nI_clamp (n := y) (by omega)
    have eq := nI_clamp (n := q) (by omega)
    rw [hk]
    refine fw_from [] 100 23 ok_X5_putAway ⟨_, wc_X5_putAway⟩ rfl ?_
    refine zq_br (zn_g0 (show 0 ≤ 6 by omega)) (fun _ => ?_) (fun z => absurd rfl z)
    refine ⟨_, ct_stands (X := X) (l := l) hl hx hy (n := j) (by omega), ?_⟩
    rintro v' σ' ⟨rfl, I1, rfl, hf1⟩
    have hs1 := hf1.sc (by simp)
    have hc := hs1.c h
    simp only [zo_put, g, g2, g3, hk, ej, ex, ey, eq, Bool.and_self, if_true]
    by_cases hz : zb_far (zl_op s.1 (zl_ow s.1 6)) y x = 36
    · simp only [hz, if_true, ne_eq, not_true, false_and, if_false]
      refine And.intro (fun _ => ?_) (fun z => absurd rfl z)
      exact ⟨rfl, I1, rfl, hc, hs1.hi⟩
    · simp only [hz, if_false, ne_eq, not_false_eq_true, true_and]
      have hst := zb_st_lt (far := zb_far (zl_op s.1 (zl_ow s.1 6)) y) j x hx
      refine And.intro (fun z => absurd z (nI_m1 (by omega))) (fun _ => ?_)
      refine And.intro (fw_in1 (zb_st (zb_far (zl_op s.1 (zl_ow s.1 6)) y) j x) 36 hst) ?_
      refine zq_brn (c := I1 3 _ = nI q) (d := zl_ow s.1 6 (zb_st (zb_far (zl_op s.1 (zl_ow s.1 6)) y) j x) = q) ?_ (fun k => ?_) (fun k => ?_)
      · rw [zq_rd (hc.2.1.2.2.2.1 _ hst), zo_eqn hP hq]
      · simp only [k, if_false]; exact ⟨rfl, I1, rfl, hc, hs1.hi⟩
      · simp only [k, if_true]; exact ⟨rfl, I1, rfl, hc, hs1.hi⟩
  · exact fw_sub2 (no (zk_out n 1 36) 1 (by omega) zk_out_le (by simp [zo_put, g, g2, g3, hk])) (by rfl) (by rfl) rfl
theorem cs_two (h : zc_at s I) (p q a b : Int32) : zs_c X l mX5_two [.ref 0, .int p, .int q, .int a, .int b] I (zo_two s p q a b) := by
  have hl := h.2.1
  have hP := hl.2.1.1
  have no : ∀ v5, zo_two s p q a b = zx_no s 1 → fw_Go X l mX5_two (fun r σ => r = some (.int (zo_two s p q a b).1) ∧ ∃ I', σ = (fw_sh, I') ∧ zc_at (zo_two s p q a b).2 I' ∧ zf_hi I I') 48 0 0 [some (.ref 0), some (.int p), some (.int q), some (.int a), some (.int b), some (.int v5), none, none, none, none] [] (fw_sh, I) := by
    intro v5 e
    refine fw_from [] 100 23 ok_X5_two ⟨_, wc_X5_two⟩ rfl ?_
    refine ⟨_, ct_no (X := X) (l := l) h (c := 1) (by omega) (by omega), fun v σ' hq => ?_⟩
    obtain ⟨rfl, I', rfl, h1, h2⟩ := hq
    exact zc_end e ⟨rfl, I', rfl, h1, h2⟩
  have bad : (zb_in p (s.1 9 0) && zb_in q (s.1 9 0) && !(decide (p = q))) = false → fw_Go X l mX5_two (fun r σ => r = some (.int (zo_two s p q a b).1) ∧ ∃ I', σ = (fw_sh, I') ∧ zc_at (zo_two s p q a b).2 I' ∧ zf_hi I I') 32 0 0 [some (.ref 0), some (.int p), some (.int q), some (.int a), some (.int b), none, none, none, none, none] [.int 0] (fw_sh, I) := by
    intro e
    refine fw_from [48] 100 16 ok_X5_two ⟨_, wc_X5_two⟩ rfl ?_
    refine And.intro (fun _ => ?_) (fun z => absurd rfl z)
    exact fw_sub (no 0 (by simp only [zo_two, e]; simp)) (by rfl) rfl
  refine fw_enter [32] 100 ok_X5_two ⟨_, wc_X5_two⟩ rfl rfl rfl ?_
  refine ⟨_, ct_hasPiece (X := X) (l := l) hl p, ?_⟩
  rintro v σ' ⟨rfl, rfl⟩
  refine zq_br (zi_eq0 _) (fun g => ?_) (fun g => ?_)
  · exact fw_sub2 (bad (by simp [g])) (by rfl) (by rfl) rfl
  have g : zb_in p (s.1 9 0) = true := by simpa using g
  refine ⟨_, ct_hasPiece (X := X) (l := l) hl q, ?_⟩
  rintro v σ' ⟨rfl, rfl⟩
  refine zq_br (zi_eq0 _) (fun g2 => ?_) (fun g2 => ?_)
  · exact fw_sub2 (bad (by simp [g2])) (by rfl) (by rfl) rfl
  have g2 : zb_in q (s.1 9 0) = true := by simpa using g2
  refine And.intro (fun g3 => ?_) (fun g3 => ?_)
  · exact fw_sub2 (bad (by simp [g3])) (by rfl) (by rfl) rfl
  refine fw_from [48, 98] 100 16 ok_X5_two ⟨_, wc_X5_two⟩ rfl ?_
  refine And.intro (fun z => absurd z (by decide)) (fun _ => ?_)
  refine ⟨_, ct_two (X := X) (l := l) (I := I) a b, ?_⟩
  rintro v σ' ⟨rfl, rfl⟩
  refine zq_brn (zi_eq0 _) (fun g4 => ?_) (fun g4 => ?_)
  · have g4 : (zb_in a 36 && zb_in b 36 && !(decide (a = b))) = true := eq_true_of_ne_false g4
    have g5 : zb_in a 36 = true := by simp only [Bool.and_eq_true] at g4; exact g4.1.1
    have g6 : zb_in b 36 = true := by simp only [Bool.and_eq_true] at g4; exact g4.1.2
    obtain ⟨x, hx, rfl⟩ := zb_in_of g (by omega)
    obtain ⟨y, hy, rfl⟩ := zb_in_of g2 (by omega)
    obtain ⟨u, hu, rfl⟩ := zb_in_of g5 (by omega)
    obtain ⟨w, hw, rfl⟩ := zb_in_of g6 (by omega)
    have ex := nI_clamp (n := x) (by omega)
    have ey := nI_clamp (n := y) (by omega)
    have eu := nI_clamp (n := u) (by omega)
    have ew := nI_clamp (n := w) (by omega)
    have hxy : x ≠ y := fun z => g3 (by rw [z])
    have tb : ∀ p q, zh_tu s.1 p q u w ≤ 36 := fun p q => zb_far_le hu hw
    have n6 : zo_I (s.1 9 0) 6 = -1 := zo_none (by omega)
    have t00 := tb 6 6
    have t01 := tb 6 y
    have t10 := tb x 6
    have t11 := tb x y
    have c0 := ct_turned (X := X) (l := l) h (p := 6) (q := 6) hu hw (by omega)
    rw [n6] at c0
    refine ⟨_, c0, ?_⟩
    rintro v σ' ⟨rfl, I1, rfl, s1⟩
    have c1 := ct_turned (X := X) (l := l) (s1.c h) (p := 6) (q := y) hu hw (by omega)
    rw [n6, zo_some hy] at c1
    refine ⟨_, c1, ?_⟩
    rintro v σ' ⟨rfl, I2, rfl, s2⟩
    have c2 := ct_turned (X := X) (l := l) ((s1.tr s2).c h) (p := x) (q := 6) hu hw (by omega)
    rw [n6, zo_some hx] at c2
    refine ⟨_, c2, ?_⟩
    rintro v σ' ⟨rfl, I3, rfl, s3⟩
    have c3 := ct_turned (X := X) (l := l) (((s1.tr s2).tr s3).c h) (p := x) (q := y) hu hw (by omega)
    rw [zo_some hx, zo_some hy] at c3
    refine ⟨_, c3, ?_⟩
    rintro v σ' ⟨rfl, I4, rfl, s4⟩
    have hs := ((s1.tr s2).tr s3).tr s4
    have hc := hs.c h
    have hcond : (zb_in (nI x) (s.1 9 0) && zb_in (nI y) (s.1 9 0) && !(decide (nI x = nI y)) && (zb_in (nI u) 36 && zb_in (nI w) 36 && !(decide (nI u = nI w)))) = true := by rw [g4, g, g2]; simp [g3]
    have done : ∀ v, v = (zo_two s (nI x) (nI y) (nI u) (nI w)).1 → (some (Value.int v) = some (.int (zo_two s (nI x) (nI y) (nI u) (nI w)).1)) ∧ ∃ I', (fw_sh, I4) = (fw_sh, I') ∧ zc_at (zo_two s (nI x) (nI y) (nI u) (nI w)).2 I' ∧ zf_hi I I' := by
      intro v hv
      refine ⟨by rw [hv], I4, rfl, ?_, hs.hi⟩
      have : (zo_two s (nI x) (nI y) (nI u) (nI w)).2 = s := by simp only [zo_two, hcond, if_true]
      rw [this]; exact hc
    have ans : (zo_two s (nI x) (nI y) (nI u) (nI w)).1 = (if zh_tu s.1 6 6 u w ≤ zh_tu s.1 x 6 u w ∧ zh_tu s.1 6 y u w ≤ zh_tu s.1 6 6 u w then 0 else if zh_tu s.1 6 y u w ≤ zh_tu s.1 x y u w ∧ zh_tu s.1 6 6 u w ≤ zh_tu s.1 6 y u w then 1 else if zh_tu s.1 x 6 u w ≤ zh_tu s.1 6 6 u w ∧ zh_tu s.1 x y u w ≤ zh_tu s.1 x 6 u w then 10 else if zh_tu s.1 x y u w ≤ zh_tu s.1 6 y u w ∧ zh_tu s.1 x 6 u w ≤ zh_tu s.1 x y u w then 11 else -9) := by
      simp only [zo_two, hcond, if_true, ex, ey, eu, ew]
    have v147 : ¬ (zh_tu s.1 6 6 u w ≤ zh_tu s.1 x 6 u w ∧ zh_tu s.1 6 y u w ≤ zh_tu s.1 6 6 u w) → ¬ (zh_tu s.1 6 y u w ≤ zh_tu s.1 x y u w ∧ zh_tu s.1 6 6 u w ≤ zh_tu s.1 6 y u w) → ¬ (zh_tu s.1 x 6 u w ≤ zh_tu s.1 6 6 u w ∧ zh_tu s.1 x y u w ≤ zh_tu s.1 x 6 u w) → fw_Go X l mX5_two (fun r σ => r = some (.int (zo_two s (nI x) (nI y) (nI u) (nI w)).1) ∧ ∃ I', σ = (fw_sh, I') ∧ zc_at (zo_two s (nI x) (nI y) (nI u) (nI w)).2 I' ∧ zf_hi I I') 147 0 0 [some (.ref 0), some (.int (nI x)), some (.int (nI y)), some (.int (nI u)), some (.int (nI w)), some (.int 1), some (.int (nI (zh_tu s.1 6 6 u w))), some (.int (nI (zh_tu s.1 6 y u w))), some (.int (nI (zh_tu s.1 x 6 u w))), some (.int (nI (zh_tu s.1 x y u w)))] [] (fw_sh, I4) := by
      intro k1 k2 k3
      refine fw_from [] 100 79 ok_X5_two ⟨_, wc_X5_two⟩ rfl ?_
      refine zq_lt (zh_tu s.1 6 y u w) (zh_tu s.1 x y u w) rfl rfl (fun k => ?_) (fun k => ?_)
      · exact done _ (by rw [ans, if_neg k1, if_neg k2, if_neg k3, if_neg (by omega)])
      refine zq_lt (zh_tu s.1 x y u w) (zh_tu s.1 x 6 u w) rfl rfl (fun k4 => ?_) (fun k4 => ?_)
      · exact done _ (by rw [ans, if_neg k1, if_neg k2, if_neg k3, if_neg (by omega)])
      · exact done _ (by rw [ans, if_neg k1, if_neg k2, if_neg k3, if_pos (by omega)])
    have v130 : ¬ (zh_tu s.1 6 6 u w ≤ zh_tu s.1 x 6 u w ∧ zh_tu s.1 6 y u w ≤ zh_tu s.1 6 6 u w) → ¬ (zh_tu s.1 6 y u w ≤ zh_tu s.1 x y u w ∧ zh_tu s.1 6 6 u w ≤ zh_tu s.1 6 y u w) → fw_Go X l mX5_two (fun r σ => r = some (.int (zo_two s (nI x) (nI y) (nI u) (nI w)).1) ∧ ∃ I', σ = (fw_sh, I') ∧ zc_at (zo_two s (nI x) (nI y) (nI u) (nI w)).2 I' ∧ zf_hi I I') 130 0 0 [some (.ref 0), some (.int (nI x)), some (.int (nI y)), some (.int (nI u)), some (.int (nI w)), some (.int 1), some (.int (nI (zh_tu s.1 6 6 u w))), some (.int (nI (zh_tu s.1 6 y u w))), some (.int (nI (zh_tu s.1 x 6 u w))), some (.int (nI (zh_tu s.1 x y u w)))] [] (fw_sh, I4) := by
      intro k1 k2
      refine fw_from [147] 100 71 ok_X5_two ⟨_, wc_X5_two⟩ rfl ?_
      refine zq_lt (zh_tu s.1 6 6 u w) (zh_tu s.1 x 6 u w) rfl rfl (fun k => ?_) (fun k => ?_)
      · exact v147 k1 k2 (by omega)
      refine zq_lt (zh_tu s.1 x 6 u w) (zh_tu s.1 x y u w) rfl rfl (fun k4 => ?_) (fun k4 => ?_)
      · exact v147 k1 k2 (by omega)
      · exact done _ (by rw [ans, if_neg k1, if_neg k2, if_pos (by omega)])
    have v114 : ¬ (zh_tu s.1 6 6 u w ≤ zh_tu s.1 x 6 u w ∧ zh_tu s.1 6 y u w ≤ zh_tu s.1 6 6 u w) → fw_Go X l mX5_two (fun r σ => r = some (.int (zo_two s (nI x) (nI y) (nI u) (nI w)).1) ∧ ∃ I', σ = (fw_sh, I') ∧ zc_at (zo_two s (nI x) (nI y) (nI u) (nI w)).2 I' ∧ zf_hi I I') 114 0 0 [some (.ref 0), some (.int (nI x)), some (.int (nI y)), some (.int (nI u)), some (.int (nI w)), some (.int 1), some (.int (nI (zh_tu s.1 6 6 u w))), some (.int (nI (zh_tu s.1 6 y u w))), some (.int (nI (zh_tu s.1 x 6 u w))), some (.int (nI (zh_tu s.1 x y u w)))] [] (fw_sh, I4) := by
      intro k1
      refine fw_from [130] 100 63 ok_X5_two ⟨_, wc_X5_two⟩ rfl ?_
      refine zq_lt (zh_tu s.1 x y u w) (zh_tu s.1 6 y u w) rfl rfl (fun k => ?_) (fun k => ?_)
      · exact v130 k1 (by omega)
      refine zq_lt (zh_tu s.1 6 y u w) (zh_tu s.1 6 6 u w) rfl rfl (fun k4 => ?_) (fun k4 => ?_)
      · exact v130 k1 (by omega)
      · exact done _ (by rw [ans, if_neg k1, if_pos (by omega)])
    refine fw_from [114] 100 55 ok_X5_two ⟨_, wc_X5_two⟩ rfl ?_
    refine zq_lt (zh_tu s.1 x 6 u w) (zh_tu s.1 6 6 u w) rfl rfl (fun k => ?_) (fun k => ?_)
    · exact v114 (by omega)
    refine zq_lt (zh_tu s.1 6 6 u w) (zh_tu s.1 6 y u w) rfl rfl (fun k4 => ?_) (fun k4 => ?_)
    · exact v114 (by omega)
    · exact done _ (by rw [ans, if_pos (by omega)])
  · exact fw_sub (no 1 (by simp only [zo_two, g4]; simp)) (by rfl) rfl
end zC8
