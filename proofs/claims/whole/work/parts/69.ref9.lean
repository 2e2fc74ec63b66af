section zR10
variable {X : Nat × (Nat → Int32)} {l : Launch} {I : Nat → Nat → Int32} {s : zS} {w : Nat} {L : Nat → Nat → Nat}
theorem cm_same (h : zm_at s I) (w : Int32) : zs_m X l mX6_same [.ref 38, .int w] I (zo_same s w) := by
  have hl := h.2.1
  have hP := hl.1.1
  refine fw_enter [25] 100 ok_X6_same ⟨_, wc_X6_same⟩ rfl rfl rfl ?_
  refine ⟨_, rt_oth (X := X) (l := l) (I := I) w 1, ?_⟩
  rintro v' σ' ⟨rfl, rfl⟩
  refine zq_brn (zi_eq0 _) (fun g1 => ?_) (fun g1 => ?_)
  · have g1 : zk_oth w 1 = 0 := by simpa using g1
    obtain ⟨u, hu, rfl⟩ := zk_oth_sp g1
    have eu := nI_clamp (n := u) (by omega)
    simp only [zo_same, g1, eu, if_true]
    have f0 : zp_pair s.1 0 = false := by simp [zp_pair]
    have e100 : zp_cf (zp_pair s.1) 100 = zp_d (zp_pair s.1) 100 99 := by
      have e := zp_d_cf (zp_pair s.1) 100 99 (by omega)
      rw [e]
      have : zp_cf (zp_pair s.1) (100 - 99) = (0, 0) := by simp [zp_cf, f0]
      rw [this]; simp
    rw [e100]
    have loop := zl_down (N := 99) (G := fun m => ∀ v5 v6, fw_Go X l mX6_same (fun r σ => r = some (.int (if u = 0 then nI (zp_d (zp_pair s.1) 100 99).1 else z9_I (zp_d (zp_pair s.1) 100 99).2)) ∧ ∃ I', σ = (fw_sh, I') ∧ zm_at s I' ∧ zf_lo I I') 25 0 0 [some (.ref 38), some (.int (nI u)), some (.int (nI (zp_d (zp_pair s.1) 100 m).1)), some (.int (z9_I (zp_d (zp_pair s.1) 100 m).2)), some (.int (nI (99 - m))), v5, v6] [] (fw_sh, I)) (by
      intro v5 v6
      refine fw_from [25] 100 15 ok_X6_same ⟨_, wc_X6_same⟩ rfl ?_
      refine zq_le (99 - 99) 0 rfl rfl (fun _ => ?_) (fun h => absurd h (by omega))
      refine zq_ne u 0 rfl rfl (fun u0 => ?_) (fun u0 => ?_)
      · rw [if_neg u0]; exact ⟨rfl, I, rfl, h, zf_lo.rf⟩
      · rw [if_pos u0]; exact ⟨rfl, I, rfl, h, zf_lo.rf⟩) (fun m hm ih => by
      intro v5 v6
      obtain ⟨k, hk⟩ : ∃ k, 99 - m = k + 1 := ⟨98 - m, by omega⟩
      have ek : 100 - 1 - m = k + 1 := by omega
      have e2 : 99 - (m + 1) = k := by omega
      have dle := zp_d_le (zp_pair s.1) 100 m
      have kd : nI (k + 1) / 10 = nI ((k + 1) / 10) := pk_div (d := 10) (by omega) (by omega) (by omega)
      have kr : nI (k + 1) - nI (k + 1) / 10 * 10 = nI ((k + 1) % 10) := pk_rem (d := 10) (by omega) (by omega) (by omega)
      have dec : nI (k + 1) + (-1) = nI k := by
        have := zp_dec (k + 1)
        rw [zp_succ, zp_succ] at this
        exact this
      rw [e2] at ih
      have stay : zp_pair s.1 (k + 1) = false → fw_Go X l mX6_same (fun r σ => r = some (.int (if u = 0 then nI (zp_d (zp_pair s.1) 100 99).1 else z9_I (zp_d (zp_pair s.1) 100 99).2)) ∧ ∃ I', σ = (fw_sh, I') ∧ zm_at s I' ∧ zf_lo I I') 25 0 0 [some (.ref 38), some (.int (nI u)), some (.int (nI (zp_d (zp_pair s.1) 100 m).1)), some (.int (z9_I (zp_d (zp_pair s.1) 100 m).2)), some (.int (nI k)), some (.int (nI ((k + 1) / 10))), some (.int (nI ((k + 1) % 10)))] [] (fw_sh, I) := fun hf => by
        have := ih (some (.int (nI ((k + 1) / 10)))) (some (.int (nI ((k + 1) % 10))))
        rw [show zp_d (zp_pair s.1) 100 (m + 1) = zp_d (zp_pair s.1) 100 m by simp only [zp_d, ek, hf]; rfl] at this
        exact this
      rw [hk]
      refine fw_from [25] 100 15 ok_X6_same ⟨_, wc_X6_same⟩ rfl ?_
      refine zq_le (k + 1) 0 rfl rfl (fun h => absurd h (by omega)) (fun _ => ?_)
      refine And.intro (by decide) ?_
      refine And.intro (by decide) ?_
      refine zq_le ((k + 1) % 10) ((k + 1) / 10) kr kd (fun q1 => ?_) (fun q1 => ?_)
      · exact fw_sub (stay (by simp [zp_pair, show ¬ (k + 1) / 10 < (k + 1) % 10 by omega])) (by rw [kr, kd, dec]) rfl
      refine zq_le (s.1 9 0) ((k + 1) % 10) hl.2.2.2.1 kr (fun q2 => ?_) (fun q2 => ?_)
      · exact fw_sub (stay (by simp [zp_pair, show ¬ (k + 1) % 10 < s.1 9 0 by omega])) (by rw [kr, kd, dec]) rfl
      have c1 := rt_share (X := X) (l := l) hl (a := (k + 1) / 10) (b := (k + 1) % 10) (by omega) q2
      rw [← kr, ← kd] at c1
      refine ⟨_, c1, ?_⟩
      rintro v σ' ⟨rfl, rfl⟩
      refine zq_brn (zi_eq0 _) (fun q3 => ?_) (fun q3 => ?_)
      · have q3 : zl_ovl s.1 ((k + 1) / 10) ((k + 1) % 10) 36 = true := by simpa using q3
        have hf : zp_pair s.1 (k + 1) = true := by simp [zp_pair, q1, q2, q3]
        have := ih (some (.int (nI ((k + 1) / 10)))) (some (.int (nI ((k + 1) % 10))))
        rw [show zp_d (zp_pair s.1) 100 (m + 1) = ((zp_d (zp_pair s.1) 100 m).1 + 1, k + 1 + 1) by simp only [zp_d, ek, hf]; rfl] at this
        refine fw_sub this ?_ rfl
        rw [kr, kd, dec]
        simp only [nI_1]
        simp [z9_I]
      · exact fw_sub (stay (by simp [zp_pair, q3])) (by rw [kr, kd, dec]) rfl)
    exact fw_sub (loop 0 (by omega) none none) (by rfl) rfl
  · have g1 : ¬ zk_oth w 1 = 0 := by simpa using g1
    refine ⟨_, rt_no (X := X) (l := l) h (c := 2) (by omega) (by omega), fun v σ' hq2 => ?_⟩
    obtain ⟨rfl, I', rfl, h1, h2⟩ := hq2
    exact zm_end (by simp only [zo_same, g1, if_false]; rw [zk_oth2 g1]) ⟨rfl, I', rfl, h1, h2⟩
theorem rt_isPatch (h : zm_at s I) (h4 : s.2.2.1 3 0 = 4) {y : Nat} (hy : y < 36) : zs_p X l mX6_isPatch [.ref 38, .int (nI y)] I (zi (zp_fit s y)) := by
  have hl := h.2.1
  have h0 := hl.2.1
  have h9 := hl.1.2.2.1
  have hr := h.2.2.2.2.2.2.2.1
  have h99 := h.1.2.2.2.2.2.1
  have yr : nI y - nI y / 6 * 6 = nI (y % 6) := pk_rem (d := 6) (by omega) (by omega) (by omega)
  refine fw_enter [] 100 ok_X6_isPatch ⟨_, wc_X6_isPatch⟩ rfl rfl rfl ?_
  refine zq_lt 29 y rfl rfl (fun q1 => ?_) (fun q1 => ?_)
  · exact ⟨by decide, zr_0 (fun z => z.1 (by omega)), rfl⟩
  refine And.intro (by decide) ?_
  refine zq_ne (y % 6) 5 yr rfl (fun q2 => ?_) (fun q2 => ?_)
  · have v0 := h9 y (by omega)
    have v1 := h9 (y + 1) (by omega)
    have v6 := h9 (y + 6) (by omega)
    have v7 := h9 (y + 7) (by omega)
    have t0 := h99 0
    have t1 := h99 1
    have t2 := h99 2
    have t3 := h99 3
    have a1 : nI y + 1 = nI (y + 1) := nI_1 y
    have a6 : nI y + 6 = nI (y + 6) := by rw [show (6 : Int32) = nI 6 from rfl, nI_add]
    have a7 : nI y + 7 = nI (y + 7) := by rw [show (7 : Int32) = nI 7 from rfl, nI_add]
    refine And.intro (fw_in1 y 36 hy) ?_
    refine And.intro (fw_in1 0 16 (by omega)) ?_
    refine zq_ne (s.1 0 y) (s.2.2.1 4 0) (zq_rd (h0 y hy)) (zq_rd (j := 0) (hr 0 (by omega))) (fun q3 => ?_) (fun q3 => ?_)
    · exact ⟨by decide, zr_0 (fun z => q3 z.2.2.1), rfl⟩
    refine And.intro (fw_in1 (y + 1) 36 (by omega) a1) ?_
    refine And.intro (fw_in1 1 16 (by omega)) ?_
    refine zq_ne (s.1 0 (y + 1)) (s.2.2.1 4 1) ?_ (zq_rd (j := 1) (hr 1 (by omega))) (fun q4 => ?_) (fun q4 => ?_)
    · show I 40 (nI y + 1).toNatClampNeg = _
      rw [a1]; exact zq_rd (h0 _ (by omega))
    · exact ⟨by decide, zr_0 (fun z => q4 z.2.2.2.1), rfl⟩
    refine And.intro (fw_in1 (y + 6) 36 (by omega) a6) ?_
    refine And.intro (fw_in1 2 16 (by omega)) ?_
    refine zq_ne (s.1 0 (y + 6)) (s.2.2.1 4 2) ?_ (zq_rd (j := 2) (hr 2 (by omega))) (fun q5 => ?_) (fun q5 => ?_)
    · show I 40 (nI y + 6).toNatClampNeg = _
      rw [a6]; exact zq_rd (h0 _ (by omega))
    · exact ⟨by decide, zr_0 (fun z => q5 z.2.2.2.2.1), rfl⟩
    refine And.intro (fw_in1 (y + 7) 36 (by omega) a7) ?_
    refine And.intro (fw_in1 3 16 (by omega)) ?_
    refine zq_ne (s.1 0 (y + 7)) (s.2.2.1 4 3) ?_ (zq_rd (j := 3) (hr 3 (by omega))) (fun q6 => ?_) (fun q6 => ?_)
    · show I 40 (nI y + 7).toNatClampNeg = _
      rw [a7]; exact zq_rd (h0 _ (by omega))
    · exact ⟨by decide, zr_0 (fun z => q6 z.2.2.2.2.2), rfl⟩
    · exact ⟨by decide, zr_1 ⟨by omega, q2, q3, q4, q5, q6⟩, rfl⟩
  · exact ⟨by decide, zr_0 (fun z => z.2.1 q2), rfl⟩
theorem cm_patch (h : zm_at s I) (w : Int32) : zs_m X l mX6_patch [.ref 38, .int w] I (zo_patch s w) := by
  have h26 := h.2.2.2.2.2.2.1
  have h16 := h.1.2.2.2.2.1
  have no : ∀ c, 1 ≤ c → c ≤ 6 → zo_patch s w = zx_no s c → fw_Go X l mX6_patch (fun r σ => r = some (.int (zo_patch s w).1) ∧ ∃ I', σ = (fw_sh, I') ∧ zm_at (zo_patch s w).2 I' ∧ zf_lo I I') 28 0 0 [some (.ref 38), some (.int w), none, none, none, none] [.int (zn_g c)] (fw_sh, I) := by
    intro c hc1 hc6 e
    refine fw_from [] 100 14 ok_X6_patch ⟨_, wc_X6_patch⟩ rfl ?_
    refine zq_br (zn_g0 hc6) (fun z => absurd z (by omega)) (fun _ => ?_)
    refine ⟨_, rt_no (X := X) (l := l) h hc1 hc6, fun v σ' hq => ?_⟩
    obtain ⟨rfl, I', rfl, h1, h2⟩ := hq
    exact zm_end e ⟨rfl, I', rfl, h1, h2⟩
  refine fw_enter [28] 100 ok_X6_patch ⟨_, wc_X6_patch⟩ rfl rfl rfl ?_
  refine ⟨_, rt_oth (X := X) (l := l) (I := I) w 1, ?_⟩
  rintro v' σ' ⟨rfl, rfl⟩
  refine zq_brn (zi_eq0 _) (fun g1 => ?_) (fun g1 => ?_)
  · have g1 : zk_oth w 1 = 0 := by simpa using g1
    refine zq_eq (s.2.2.1 3 0) 4 h26 rfl (fun h4 => ?_) (fun h4 => ?_)
    · obtain ⟨u, hu, rfl⟩ := zk_oth_sp g1
      have eu := nI_clamp (n := u) (by omega)
      have e1 : zk_first (zk_oth (nI u) 1) (if s.2.2.1 3 0 = 4 then 0 else 3) = 0 := by rw [g1, if_pos h4]; rfl
      simp only [zo_patch, e1, eu, if_true]
      have e36 : zp_cf (zp_fit s) 36 = zp_d (zp_fit s) 36 36 := by
        have e := zp_d_cf (zp_fit s) 36 36 (by omega)
        rw [e]
        have : zp_cf (zp_fit s) (36 - 36) = (0, 0) := rfl
        rw [this]; simp
      rw [e36]
      have loop := zl_down (N := 36) (G := fun m => fw_Go X l mX6_patch (fun r σ => r = some (.int (if u = 0 then nI (zp_d (zp_fit s) 36 36).1 else z9_I (zp_d (zp_fit s) 36 36).2)) ∧ ∃ I', σ = (fw_sh, I') ∧ zm_at s I' ∧ zf_lo I I') 49 0 0 [some (.ref 38), some (.int (nI u)), some (.int 0), some (.int (nI (zp_d (zp_fit s) 36 m).1)), some (.int (z9_I (zp_d (zp_fit s) 36 m).2)), some (.int (zp_I (36 - m)))] [] (fw_sh, I)) (by
        refine fw_from [49] 100 27 ok_X6_patch ⟨_, wc_X6_patch⟩ rfl ?_
        refine zq_br (zp_neg (k := 36 - 36) (by omega)) (fun _ => ?_) (fun h => absurd rfl h)
        refine zq_ne u 0 rfl rfl (fun u0 => ?_) (fun u0 => ?_)
        · rw [if_neg u0]; exact ⟨rfl, I, rfl, h, zf_lo.rf⟩
        · rw [if_pos u0]; exact ⟨rfl, I, rfl, h, zf_lo.rf⟩) (fun m hm ih => by
        obtain ⟨k, hk⟩ : ∃ k, 36 - m = k + 1 := ⟨35 - m, by omega⟩
        have ek : 36 - 1 - m = k := by omega
        have e2 : 36 - (m + 1) = k := by omega
        have dec : nI k + (-1) = zp_I k := by rw [← zp_succ]; exact zp_dec k
        rw [e2] at ih
        rw [hk, zp_succ]
        refine fw_from [49] 100 27 ok_X6_patch ⟨_, wc_X6_patch⟩ rfl ?_
        refine zq_br (c := nI k < 0) (d := False) ?_ (fun z => z.elim) (fun _ => ?_)
        · rw [zt_lt0, nI_toInt (by omega)]; constructor
          · intro z; omega
          · exact fun z => z.elim
        refine ⟨_, rt_isPatch (X := X) (l := l) h h4 (y := k) (by omega), ?_⟩
        rintro v σ' ⟨rfl, rfl⟩
        refine zq_brn (zi_eq0 _) (fun q3 => ?_) (fun q3 => ?_)
        · have q3 : zp_fit s k = true := by simpa using q3
          rw [show zp_d (zp_fit s) 36 (m + 1) = ((zp_d (zp_fit s) 36 m).1 + 1, k + 1) by simp only [zp_d, ek, q3]; rfl] at ih
          refine fw_sub ih ?_ rfl
          rw [dec]
          simp only [nI_1]
          simp [z9_I]
        · rw [show zp_d (zp_fit s) 36 (m + 1) = zp_d (zp_fit s) 36 m by simp only [zp_d, ek, q3]; rfl] at ih
          exact fw_sub ih (by rw [dec]) rfl)
      refine fw_from [49] 100 14 ok_X6_patch ⟨_, wc_X6_patch⟩ rfl ?_
      refine And.intro (fun _ => ?_) (fun z => absurd rfl z)
      exact fw_sub (loop 0 (by omega)) (by rfl) rfl
    · exact fw_sub2 (no 3 (by omega) (by omega) (by simp only [zo_patch, g1, h4, if_false]; rfl)) (by rfl) (by rfl) rfl
  · have g1 : ¬ zk_oth w 1 = 0 := by simpa using g1
    have e1 : zk_first (zk_oth w 1) (if s.2.2.1 3 0 = 4 then 0 else 3) = 2 := by unfold zk_first; rw [if_neg g1, zk_oth2 g1]
    exact fw_sub2 (no 2 (by omega) (by omega) (by simp only [zo_patch, e1]; rfl)) (by rfl) (by rfl) rfl
theorem zm_clr (h : zm_at s I) : zm_at (s.1, s.2.1, (fun k j => if k = 3 then 0 else s.2.2.1 k j), s.2.2.2) (fw_up I 38 26 (nI 0)) := by
  obtain ⟨h1, h2, h3, h4, h5, h6, h7, h8, h9⟩ := h
  refine ⟨⟨h1.1, h1.2.1, h1.2.2.1, h1.2.2.2.1, Nat.zero_le _, h1.2.2.2.2.2.1, h1.2.2.2.2.2.2⟩, h2.keep (fun a k _ => fw_up_p a k (by omega)), ?_, fun z => (h4 z).keep (fun k hk => by rw [fw_up_ne _ (by omega)]), ?_, fun j hj => ?_, fw_up_at, fun j hj => absurd hj (Nat.not_lt_zero j), fun k hk => ?_⟩
  · rw [fw_up_k (by omega)]; exact h3
  · rw [fw_up_k (by omega)]; exact h5
  · rw [fw_up_ne _ (by omega)]; exact h6 j hj
  · rw [fw_up_ne _ (by omega)]; exact h9 k hk
/-- a day more -/
theorem rt_dayK (hw6 : w ≤ 6) {k : Nat} {I' : Nat → Nat → Int32} (hz : zm_l w (zo_pdk L (zl_ow L w) k) I') (hd : L 10 0 + k + 1 ≤ 5000) : fw_Sem X l mX6_goesDay [.ref 38] (fw_sh, I') (fun r σ => r = none ∧ ∃ I2, σ = (fw_sh, I2) ∧ zm_l w (zo_pdk L (zl_ow L w) (k + 1)) I2 ∧ zg I' I2) := by
  have c1 := rt_goesDay (X := X) (l := l) hz hw6 (by rw [zo_pdk_10]; omega)
  rw [show zl_ow (zo_pdk L (zl_ow L w) k) w = zl_ow L w from zl_ow_congr (zo_pdk_k L _ k 4 (by omega) (by omega)) (zo_pdk_k L _ k 5 (by omega) (by omega)) (zo_pdk_k L _ k 6 (by omega) (by omega)) (zo_pdk_k L _ k 9 (by omega) (by omega)) w] at c1
  exact c1
theorem zo_pdk_ow (L : Nat → Nat → Nat) (ow : Nat → Nat) (k w : Nat) : zl_ow (zo_pdk L ow k) w = zl_ow L w := zl_ow_congr (zo_pdk_k L _ k 4 (by omega) (by omega)) (zo_pdk_k L _ k 5 (by omega) (by omega)) (zo_pdk_k L _ k 6 (by omega) (by omega)) (zo_pdk_k L _ k 9 (by omega) (by omega)) w
theorem cm_judge (h : zm_at s I) : zs_m X l mX6_judge [.ref 38] I (zo_judge s) := by
  have hl := h.2.1
  have h26 := h.2.2.2.2.2.2.1
  have h16 := h.1.2.2.2.2.1
  have hr := h.2.2.2.2.2.2.2.1
  have h99 := h.1.2.2.2.2.2.1
  have hc := zm_clr h
  have hd := h.1.1
  obtain ⟨f, hf⟩ : ∃ f : Nat → Bool, f = fun k => decide (s.2.2.1 4 k = zo_th (zo_pdk s.1 (zl_ow s.1 6) k)) := ⟨_, rfl⟩
  obtain ⟨D, hD⟩ : ∃ D, D = zl_f (fun k => !(f k)) (s.2.2.1 3 0) := ⟨_, rfl⟩
  obtain ⟨sp1, sp2, sp3⟩ := zl_f_sp (fun k => !(f k)) (s.2.2.1 3 0)
  rw [← hD] at sp1 sp2 sp3
  have ej : zo_judge s = (z9_I (if D < s.2.2.1 3 0 then D + 1 else 0), s.1, s.2.1, (fun k j => if k = 3 then 0 else s.2.2.1 k j), s.2.2.2) := by rw [hD, hf]; rfl
  rw [ej]
  obtain ⟨I0, hI0⟩ : ∃ I0, I0 = fw_up I 38 26 (nI 0) := ⟨_, rfl⟩
  rw [← hI0] at hc
  have hlo : zf_lo I I0 := by rw [hI0]; exact zf_lo.rf.up (by omega)
  have cT := rt_thinks (X := X) (l := l) (I := fw_up I 38 26 (nI 0))
  refine fw_enter [19] 100 ok_X6_judge ⟨_, wc_X6_judge⟩ rfl rfl rfl ?_
  refine ⟨_, cT, ?_⟩
  rintro v' σ' ⟨rfl, I1, rfl, hK⟩
  rw [← hI0] at hK
  have fin : ∀ I2 k, zgw 3 I1 I2 → ∀ v, v = z9_I (if D < s.2.2.1 3 0 then D + 1 else 0) → fw_Go X l mX6_judge (fun r σ => r = some (.int (z9_I (if D < s.2.2.1 3 0 then D + 1 else 0))) ∧ ∃ I', σ = (fw_sh, I') ∧ zm_at (s.1, s.2.1, (fun k j => if k = 3 then 0 else s.2.2.1 k j), s.2.2.2) I' ∧ zf_lo I I') 58 0 0 [some (.ref 38), some (.int (nI (s.2.2.1 3 0))), some (.int v), some (.int (nI k))] [] (fw_sh, I2) := by
    intro I2 k hg v hv
    refine fw_from [] 100 32 ok_X6_judge ⟨_, wc_X6_judge⟩ rfl ?_
    refine ⟨_, rt_forgets (X := X) (l := l) (I := I2), ?_⟩
    rintro v' σ' ⟨rfl, I3, rfl, hB⟩
    have hh := zh_mk hK hg hB
    exact ⟨zr_e hv, I3, rfl, hh.m hc, hlo.tr hh.lo⟩
  have loop := zl_down (N := D) (G := fun k => ∀ I2, zm_l 6 (zo_pdk s.1 (zl_ow s.1 6) k) I2 → zgw 3 I1 I2 → fw_Go X l mX6_judge (fun r σ => r = some (.int (z9_I (if D < s.2.2.1 3 0 then D + 1 else 0))) ∧ ∃ I', σ = (fw_sh, I') ∧ zm_at (s.1, s.2.1, (fun k j => if k = 3 then 0 else s.2.2.1 k j), s.2.2.2) I' ∧ zf_lo I I') 19 0 0 [some (.ref 38), some (.int (nI (s.2.2.1 3 0))), some (.int (-9)), some (.int (nI k))] [] (fw_sh, I2)) (by
    intro I2 hz hg
    refine fw_from [19, 58] 100 12 ok_X6_judge ⟨_, wc_X6_judge⟩ rfl ?_
    refine zq_le (s.2.2.1 3 0) D rfl rfl (fun q => ?_) (fun q => ?_)
    · exact fw_sub (fin I2 D hg (-9) (by rw [if_neg (by omega)]; rfl)) (by rfl) rfl
    refine And.intro (fun z => absurd z (by decide)) (fun _ => ?_)
    have hth : zo_th (zo_pdk s.1 (zl_ow s.1 6) D) ≤ 36 := zm_ite
    have h99D := h99 D
    have fD := sp3 q
    rw [hf] at fD
    have fD : ¬ s.2.2.1 4 D = zo_th (zo_pdk s.1 (zl_ow s.1 6) D) := by simpa using fD
    have er : I2 54 (nI D).toNatClampNeg = nI (s.2.2.1 4 D) := by
      rw [nI_clamp (by omega), hg 54 D (by omega) (by omega) (by omega) (by omega) (by omega), hK.2 54 D (by omega) (by omega), hI0, fw_up_ne 54 (by omega)]
      exact hr D q
    refine ⟨_, rt_thistles (X := X) (l := l) hz, ?_⟩
    rintro v' σ' ⟨rfl, rfl⟩
    refine And.intro (fw_in1 D 16 (by omega)) ?_
    refine zq_ne (zo_th (zo_pdk s.1 (zl_ow s.1 6) D)) (s.2.2.1 4 D) rfl er (fun _ => ?_) (fun z => absurd z.symm fD)
    refine ⟨_, rt_dayK (X := X) (l := l) (w := 6) (by omega) hz (by omega), ?_⟩
    rintro v' σ' ⟨rfl, I3, rfl, hz3, hg3⟩
    have go19 : fw_Go X l mX6_judge (fun r σ => r = some (.int (z9_I (if D < s.2.2.1 3 0 then D + 1 else 0))) ∧ ∃ I', σ = (fw_sh, I') ∧ zm_at (s.1, s.2.1, (fun k j => if k = 3 then 0 else s.2.2.1 k j), s.2.2.2) I' ∧ zf_lo I I') 19 0 0 [some (.ref 38), some (.int (nI (s.2.2.1 3 0))), some (.int (nI D)), some (.int (nI (D + 1)))] [] (fw_sh, I3) := by
      refine fw_from [58] 100 12 ok_X6_judge ⟨_, wc_X6_judge⟩ rfl ?_
      have ev : nI D = z9_I (if D < s.2.2.1 3 0 then D + 1 else 0) := by rw [if_pos q]; simp [z9_I]
      refine zq_le (s.2.2.1 3 0) (D + 1) rfl rfl (fun _ => ?_) (fun _ => ?_)
      · exact fw_sub (fin I3 (D + 1) (hg.tr hg3.w) (nI D) ev) (by rfl) rfl
      · refine zq_le 0 D rfl rfl (fun _ => ?_) (fun z => absurd z (by omega))
        exact fw_sub (fin I3 (D + 1) (hg.tr hg3.w) (nI D) ev) (by rfl) rfl
    exact fw_sub go19 (by simp only [nI_1]) rfl) (fun k hk ih => by
    intro I2 hz hg
    have hth : zo_th (zo_pdk s.1 (zl_ow s.1 6) k) ≤ 36 := zm_ite
    have h99k := h99 k
    have fk := sp2 k hk
    rw [hf] at fk
    have fk : s.2.2.1 4 k = zo_th (zo_pdk s.1 (zl_ow s.1 6) k) := by simpa using fk
    have er : I2 54 (nI k).toNatClampNeg = nI (s.2.2.1 4 k) := by
      rw [nI_clamp (by omega), hg 54 k (by omega) (by omega) (by omega) (by omega) (by omega), hK.2 54 k (by omega) (by omega), hI0, fw_up_ne 54 (by omega)]
      exact hr k (by omega)
    refine fw_from [19, 58] 100 12 ok_X6_judge ⟨_, wc_X6_judge⟩ rfl ?_
    refine zq_le (s.2.2.1 3 0) k rfl rfl (fun q => absurd q (by omega)) (fun q => ?_)
    refine And.intro (fun z => absurd z (by decide)) (fun _ => ?_)
    refine ⟨_, rt_thistles (X := X) (l := l) hz, ?_⟩
    rintro v' σ' ⟨rfl, rfl⟩
    refine And.intro (fw_in1 k 16 (by omega)) ?_
    refine zq_ne (zo_th (zo_pdk s.1 (zl_ow s.1 6) k)) (s.2.2.1 4 k) rfl er (fun z => absurd fk.symm z) (fun _ => ?_)
    refine ⟨_, rt_dayK (X := X) (l := l) (w := 6) (by omega) hz (by omega), ?_⟩
    rintro v' σ' ⟨rfl, I3, rfl, hz3, hg3⟩
    exact fw_sub (ih I3 hz3 (hg.tr hg3.w)) (by simp only [nI_1]) rfl)
  refine fw_sub (loop 0 (by omega) I1 (hc.2.1.K hK) (fun _ _ _ _ _ _ _ => rfl)) ?_ rfl
  dsimp only; rw [h26]; rfl
end zR10
