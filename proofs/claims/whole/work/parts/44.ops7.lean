theorem zm_ite {c : Nat → Prop} [DecidablePred c] : zm_s (fun y => if c y then 1 else 0) 36 ≤ 36 := zm_01 (fun y => by by_cases h : c y <;> simp [h])
section zC7
variable {X : Nat × (Nat → Int32)} {l : Launch} {I : Nat → Nat → Int32} {s : zS}
theorem ct_two (a b : Int32) : zs_p X l mX5_areTwoYards [.int a, .int b] I (zi (zb_in a 36 && zb_in b 36 && !(decide (a = b)))) := by
  refine fw_enter [] 100 ok_X5_areTwoYards ⟨_, wc_X5_areTwoYards⟩ rfl rfl rfl ?_
  refine ⟨_, ct_isYard (X := X) (l := l) (I := I) a, ?_⟩
  rintro v σ' ⟨rfl, rfl⟩
  refine zq_br (zi_eq0 _) (fun g => ?_) (fun g => ?_)
  · exact ⟨by decide, by simp [g, zi], rfl⟩
  have g : zb_in a 36 = true := by simpa using g
  refine ⟨_, ct_isYard (X := X) (l := l) (I := I) b, ?_⟩
  rintro v σ' ⟨rfl, rfl⟩
  refine zq_br (zi_eq0 _) (fun g2 => ?_) (fun g2 => ?_)
  · exact ⟨by decide, by simp [g2, zi], rfl⟩
  have g2 : zb_in b 36 = true := by simpa using g2
  refine And.intro (fun g3 => ?_) (fun g3 => ?_)
  · exact ⟨by decide, by simp [g3, zi], rfl⟩
  · exact ⟨by decide, by simp [g, g2, g3, zi], rfl⟩
theorem cs_needy (h : zc_at s I) (n : Int32) : zs_c X l mX5_needy [.ref 0, .int n] I (zo_needy s n) := by
  have hl := h.2.1
  have hP := hl.2.1.1
  refine fw_enter [32] 100 ok_X5_needy ⟨_, wc_X5_needy⟩ rfl rfl rfl ?_
  refine ⟨_, ct_out (X := X) (l := l) (I := I) n 0 99, ?_⟩
  rintro v' σ' ⟨rfl, rfl⟩
  refine zq_br (zn_g0 zk_out_le) (fun hk => ?_) (fun hk => ?_)
  · obtain ⟨j, hj1, hj, rfl⟩ := zk_out_sp hk
    have ej := nI_clamp (n := j) (by omega)
    have c0 := ct_ifTrod (X := X) (l := l) h (p := 6) (n := j) hj
    rw [zo_none (by omega)] at c0
    refine ⟨_, c0, ?_⟩
    rintro v' σ' ⟨rfl, I1, rfl, hs1⟩
    simp only [zo_needy, hk, ej, if_true]
    have tb : ∀ p, zh_tr s.1 p j ≤ 36 := fun p => zm_ite
    have loop := zl_down (N := s.1 9 0) (G := fun p => ∀ I1 v6, zk_sc I I1 → fw_Go X l mX5_needy (fun r σ => r = some (.int (z9_I (zq_mn (fun p => !(s.1 7 p == 0)) (fun p => zh_tr s.1 p j) (zh_tr s.1 6 j) (s.1 9 0)).1)) ∧ ∃ I', σ = (fw_sh, I') ∧ zc_at s I' ∧ zf_hi I I') 32 0 0 [some (.ref 0), some (.int (nI j)), some (.int (zn_g 0)), some (.int (z9_I (zq_mn (fun p => !(s.1 7 p == 0)) (fun p => zh_tr s.1 p j) (zh_tr s.1 6 j) p).1)), some (.int (nI (zq_mn (fun p => !(s.1 7 p == 0)) (fun p => zh_tr s.1 p j) (zh_tr s.1 6 j) p).2)), some (.int (nI p)), v6] [] (fw_sh, I1)) (by
      intro I1 v6 hs
      have hc := hs.c h
      refine fw_from [32] 100 20 ok_X5_needy ⟨_, wc_X5_needy⟩ rfl ?_
      refine zq_le (s.1 9 0) (s.1 9 0) hc.2.1.2.2.2.2.2.1 rfl (fun _ => ?_) (fun h => absurd h (by omega))
      exact ⟨rfl, I1, rfl, hc, hs.hi⟩) (fun p hp ih => by
      intro I1 v6 hs
      have hc := hs.c h
      have w := hl.2.1.2.2.2 p hp
      have hb := zq_mn_le (sk := fun p => !(s.1 7 p == 0)) (f := fun p => zh_tr s.1 p j) (tb 6) tb p
      refine fw_from [32] 100 20 ok_X5_needy ⟨_, wc_X5_needy⟩ rfl ?_
      refine zq_le (s.1 9 0) p hc.2.1.2.2.2.2.2.1 rfl (fun h => absurd h (by omega)) (fun _ => ?_)
      refine And.intro (fw_in1 p 6 (by omega)) ?_
      refine zq_eq (s.1 7 p) 0 (zq_rd (hc.2.1.2.2.2.2.1 7 (by omega) (by omega) p hp)) rfl (fun k => ?_) (fun k => ?_)
      · have c1 := ct_ifTrod (X := X) (l := l) hc (p := p) (n := j) hj
        rw [zo_some hp] at c1
        have tp := tb p
        refine ⟨_, c1, ?_⟩
        rintro v' σ' ⟨rfl, I2, rfl, hs2⟩
        refine zq_le (zq_mn (fun p => !(s.1 7 p == 0)) (fun p => zh_tr s.1 p j) (zh_tr s.1 6 j) p).2 (zh_tr s.1 p j) rfl rfl (fun k2 => ?_) (fun k2 => ?_)
        · refine fw_sub (ih I2 (some (.int (nI (zh_tr s.1 p j)))) (hs.tr hs2)) ?_ rfl
          simp only [zq_mn, show ¬ ((!(s.1 7 p == 0)) = false ∧ zh_tr s.1 p j < (zq_mn (fun p => !(s.1 7 p == 0)) (fun p => zh_tr s.1 p j) (zh_tr s.1 6 j) p).2) by omega, if_false, nI_1]
        · refine fw_sub (ih I2 (some (.int (nI (zh_tr s.1 p j)))) (hs.tr hs2)) ?_ rfl
          simp only [zq_mn, show ((!(s.1 7 p == 0)) = false ∧ zh_tr s.1 p j < (zq_mn (fun p => !(s.1 7 p == 0)) (fun p => zh_tr s.1 p j) (zh_tr s.1 6 j) p).2) from ⟨by simp [k], k2⟩, and_self, if_true, nI_1]
          simp [z9_I]
      · refine zq_le (zq_mn (fun p => !(s.1 7 p == 0)) (fun p => zh_tr s.1 p j) (zh_tr s.1 6 j) p).2 (zq_mn (fun p => !(s.1 7 p == 0)) (fun p => zh_tr s.1 p j) (zh_tr s.1 6 j) p).2 rfl rfl (fun k2 => ?_) (fun k2 => absurd k2 (by omega))
        refine fw_sub (ih I1 (some (.int (nI (zq_mn (fun p => !(s.1 7 p == 0)) (fun p => zh_tr s.1 p j) (zh_tr s.1 6 j) p).2))) hs) ?_ rfl
        simp only [zq_mn, show ¬ ((!(s.1 7 p == 0)) = false ∧ zh_tr s.1 p j < (zq_mn (fun p => !(s.1 7 p == 0)) (fun p => zh_tr s.1 p j) (zh_tr s.1 6 j) p).2) from fun z => by simp [k] at z, if_false, nI_1])
    exact fw_sub (loop 0 (by omega) I1 none hs1) (by rfl) rfl
  · have e : zo_needy s n = zx_no s (zk_out n 0 99) := by simp [zo_needy, hk]
    refine ⟨_, ct_no (X := X) (l := l) h (by omega) zk_out_le, fun v σ' hq => ?_⟩
    obtain ⟨rfl, I', rfl, h1, h2⟩ := hq
    exact zc_end e ⟨rfl, I', rfl, h1, h2⟩
theorem z9_lt {m v : Nat} (hm : m < 100000) (hv : v < 100000) : nI v ≤ z9_I m ↔ v + 1 ≤ m := by
  unfold z9_I
  split
  · rename_i hz
    rw [zt_le, nI_toInt (by omega)]
    have e : (-9 : Int32).toInt = -9 := rfl
    omega
  · rw [nI_leI (by omega) (by omega)]; omega
theorem cs_sold (h : zc_at s I) (n w : Int32) : zs_c X l mX5_sold [.ref 0, .int n, .int w] I (zo_sold s n w) := by
  have hl := h.2.1
  have hP := hl.2.1.1
  refine fw_enter [37] 100 ok_X5_sold ⟨_, wc_X5_sold⟩ rfl rfl rfl ?_
  refine ⟨_, ct_out (X := X) (l := l) (I := I) n 0 99, ?_⟩
  rintro v' σ' ⟨rfl, rfl⟩
  refine ⟨_, ct_oth (X := X) (l := l) (I := I) w 1, ?_⟩
  rintro v' σ' ⟨rfl, rfl⟩
  refine ⟨_, ct_first (X := X) (l := l) (I := I) zk_out_le, ?_⟩
  rintro v' σ' ⟨rfl, rfl⟩
  refine zq_br (zn_g0 (zk_first_le zk_out_le zk_oth_le)) (fun hk => ?_) (fun hk => ?_)
  · obtain ⟨hk1, hk2⟩ := zk_first0 hk
    obtain ⟨j, hj1, hj, rfl⟩ := zk_out_sp hk1
    obtain ⟨q, hq, rfl⟩ := zk_oth_sp hk2
    have eq := nI_clamp (n := q) (by omega)
    have ej := nI_clamp (n := j) (by omega)
    simp only [zo_sold, hk, ej, eq, if_true]
    have tb : ∀ p, p < s.1 9 0 → zh_wo s.1 p j ≤ 36 * 9 := fun p hp => zm_s_le' 36 (fun y hy => by
      have := hl.2.1.2.2.1 y hy
      simp only [zl_pd, if_true]
      repeat' split
      all_goals omega)
    have mb : ∀ p, p ≤ s.1 9 0 → (zq_mxp (fun p => zh_wo s.1 p j) p).2 ≤ 36 * 9 + 1 := by
      intro p
      induction p with
      | zero => intro _; simp [zq_mxp]
      | succ p ihp =>
        intro hp
        have h1 := ihp (by omega)
        have h2 := tb p (by omega)
        simp only [zq_mxp]
        split
        · simp; omega
        · exact h1
    have loop := zl_down (N := s.1 9 0) (G := fun p => ∀ I1 v7, zk_sc I I1 → fw_Go X l mX5_sold (fun r σ => r = some (.int (if q = 0 then z9_I (zq_mxp (fun p => zh_wo s.1 p j) (s.1 9 0)).1 else z9_I (zq_mxp (fun p => zh_wo s.1 p j) (s.1 9 0)).2)) ∧ ∃ I', σ = (fw_sh, I') ∧ zc_at s I' ∧ zf_hi I I') 37 0 0 [some (.ref 0), some (.int (nI j)), some (.int (nI q)), some (.int (zn_g 0)), some (.int (z9_I (zq_mxp (fun p => zh_wo s.1 p j) p).1)), some (.int (z9_I (zq_mxp (fun p => zh_wo s.1 p j) p).2)), some (.int (nI p)), v7] [] (fw_sh, I1)) (by
      intro I1 v7 hs
      have hc := hs.c h
      refine fw_from [37] 100 21 ok_X5_sold ⟨_, wc_X5_sold⟩ rfl ?_
      refine zq_le (s.1 9 0) (s.1 9 0) hc.2.1.2.2.2.2.2.1 rfl (fun _ => ?_) (fun h => absurd h (by omega))
      refine zq_ne q 0 rfl rfl (fun k => ?_) (fun k => ?_)
      · exact ⟨by simp [k], I1, rfl, hc, hs.hi⟩
      · exact ⟨by simp [k], I1, rfl, hc, hs.hi⟩) (fun p hp ih => by
      intro I1 v7 hs
      have hc := hs.c h
      have h1 := mb p (by omega)
      have h2 := tb p hp
      refine fw_from [37] 100 21 ok_X5_sold ⟨_, wc_X5_sold⟩ rfl ?_
      refine zq_le (s.1 9 0) p hc.2.1.2.2.2.2.2.1 rfl (fun h => absurd h (by omega)) (fun _ => ?_)
      refine ⟨_, ct_without (X := X) (l := l) hc hp hj, ?_⟩
      rintro v' σ' ⟨rfl, I2, rfl, hs2⟩
      refine zq_br (z9_lt (by omega) (by omega)) (fun k => ?_) (fun k => ?_)
      · refine fw_sub (ih I2 (some (.int (nI (zh_wo s.1 p j)))) (hs.tr hs2)) ?_ rfl
        simp only [zq_mxp, show ¬ (zq_mxp (fun p => zh_wo s.1 p j) p).2 < zh_wo s.1 p j + 1 by omega, if_false, nI_1]
      · refine fw_sub (ih I2 (some (.int (nI (zh_wo s.1 p j)))) (hs.tr hs2)) ?_ rfl
        simp only [zq_mxp, show (zq_mxp (fun p => zh_wo s.1 p j) p).2 < zh_wo s.1 p j + 1 by omega, if_true, nI_1]
        simp [z9_I])
    exact fw_sub (loop 0 (by omega) I none zk_sc.rf) (by rfl) rfl
  · have e : zo_sold s n w = zx_no s (zk_first (zk_out n 0 99) (zk_oth w 1)) := by simp [zo_sold, hk]
    refine ⟨_, ct_no (X := X) (l := l) h (by omega) (zk_first_le zk_out_le zk_oth_le), fun v σ' hq => ?_⟩
    obtain ⟨rfl, I', rfl, h1, h2⟩ := hq
    exact zc_end e ⟨rfl, I', rfl, h1, h2⟩
theorem cs_longest (h : zc_at s I) : zs_c X l mX5_longest [.ref 0] I (zo_longest s) := by
  have hl := h.2.1
  have hP := hl.2.1.1
  have mb := fun p => zq_mxp_le (f := fun p => zl_days s.1 (zl_ow s.1 6) p) (fun p => zl_days_le s.1 (zl_ow s.1 6) p) p
  have loop := zl_down (N := s.1 9 0) (G := fun p => ∀ v4, fw_Go X l mX5_longest (fun r σ => r = some (.int (z9_I (zq_mxp (fun p => zl_days s.1 (zl_ow s.1 6) p) (s.1 9 0)).1)) ∧ ∃ I', σ = (fw_sh, I') ∧ zc_at s I' ∧ zf_hi I I') 7 0 0 [some (.ref 0), some (.int (z9_I (zq_mxp (fun p => zl_days s.1 (zl_ow s.1 6) p) p).1)), some (.int (zp_I (zq_mxp (fun p => zl_days s.1 (zl_ow s.1 6) p) p).2)), some (.int (nI p)), v4] [] (fw_sh, I)) (by
    intro v4
    refine fw_from [7] 100 6 ok_X5_longest ⟨_, wc_X5_longest⟩ rfl ?_
    refine zq_le (s.1 9 0) (s.1 9 0) hl.2.2.2.2.2.1 rfl (fun _ => ?_) (fun h => absurd h (by omega))
    exact ⟨rfl, I, rfl, h, zf_hi.rf⟩) (fun p hp ih => by
    intro v4
    have h1 := mb p
    have h2 := zl_days_le s.1 (zl_ow s.1 6) p
    refine fw_from [7] 100 6 ok_X5_longest ⟨_, wc_X5_longest⟩ rfl ?_
    refine zq_le (s.1 9 0) p hl.2.2.2.2.2.1 rfl (fun h => absurd h (by omega)) (fun _ => ?_)
    refine ⟨_, ct_daysToThistle (X := X) (l := l) hl hp, ?_⟩
    rintro v' σ' ⟨rfl, rfl⟩
    refine zq_br (c := nI (zl_days s.1 (zl_ow s.1 6) p) ≤ zp_I (zq_mxp (fun p => zl_days s.1 (zl_ow s.1 6) p) p).2) (d := zl_days s.1 (zl_ow s.1 6) p + 1 ≤ (zq_mxp (fun p => zl_days s.1 (zl_ow s.1 6) p) p).2) ?_ (fun k => ?_) (fun k => ?_)
    · rw [← Int32.not_lt, zp_lt (by omega) (by omega)]; omega
    · refine fw_sub (ih (some (.int (nI (zl_days s.1 (zl_ow s.1 6) p))))) ?_ rfl
      simp only [zq_mxp, show ¬ (zq_mxp (fun p => zl_days s.1 (zl_ow s.1 6) p) p).2 < zl_days s.1 (zl_ow s.1 6) p + 1 by omega, if_false, nI_1]
    · refine fw_sub (ih (some (.int (nI (zl_days s.1 (zl_ow s.1 6) p))))) ?_ rfl
      simp only [zq_mxp, show (zq_mxp (fun p => zl_days s.1 (zl_ow s.1 6) p) p).2 < zl_days s.1 (zl_ow s.1 6) p + 1 by omega, if_true, nI_1]
      simp [z9_I, zp_I])
  refine fw_enter [7] 100 ok_X5_longest ⟨_, wc_X5_longest⟩ rfl rfl rfl ?_
  exact fw_sub (loop 0 (by omega) none) (by rfl) rfl
end zC7
