theorem zb_oo : ∀ a, a < 64 → ∀ b, b < 64 → (nI a ||| nI b = nI (Nat.lor a b) ∧ Nat.lor a b < 64 ∧ ∀ q, q < 6 → zb_bt (Nat.lor a b) q = if zb_bt a q = 0 ∧ zb_bt b q = 0 then 0 else 1) := by decide +kernel
theorem zb_pcs : ∀ a, a < 64 → zb_p31 a = zb_pc a := by decide +kernel
theorem zb_x00 : ∀ m, m < 64 → ∀ p, p < 6 → nI m ^^^ ((0 : Int32) <<< (nI p &&& 31)) = nI m := by decide +kernel
theorem zb_bt1 (b q : Nat) : zb_bt b q ≤ 1 := by
  have : b / 2 ^ q % 2 < 2 := Nat.mod_lt _ (by omega)
  unfold zb_bt; omega
theorem zb_bt_hi {b P q : Nat} (hb : b < 2 ^ P) (hq : P ≤ q) : zb_bt b q = 0 := by
  have h2 : 2 ^ P ≤ 2 ^ q := Nat.pow_le_pow_right (by omega) hq
  unfold zb_bt
  rw [Nat.div_eq_of_lt (by omega)]
theorem zl_rb_cl {L : Nat → Nat → Nat} {b : Nat} (hP : L 9 0 ≤ 6) (hb : b < 2 ^ L 9 0) : nI (zl_rb L (L 9 0)) ||| nI b = nI (zl_rb (zl_cl L b (L 9 0)) (L 9 0)) := by
  have h2 : 2 ^ L 9 0 ≤ 2 ^ 6 := Nat.pow_le_pow_right (by omega) hP
  have ho := zb_oo (zl_rb L (L 9 0)) (zl_rb64 hP) b (by omega)
  rw [ho.1]
  congr 1
  refine (zl_rb_eq hP ho.2.1 (fun q hq => ?_)).symm
  rw [ho.2.2 q hq, zb_rb_bt L (L 9 0) q hP hq]
  by_cases hqP : q < L 9 0
  · by_cases h0 : zb_bt b q = 0
    · by_cases h7 : L 7 q = 0 <;> simp [zl_cl, h0, h7, hqP]
    · simp [zl_cl, h0, hqP]
  · have h0 := zb_bt_hi hb (show L 9 0 ≤ q by omega)
    simp [h0, hqP]
theorem zl_rb_rs {L : Nat → Nat → Nat} {p v : Nat} (hP : L 9 0 ≤ 6) (hp : p < L 9 0) (hv : v < 2) : zl_rb (zl_rs L p v) (L 9 0) = zb_w (zl_rb L (L 9 0)) p v := by
  have hx := zb_ww (zl_rb L (L 9 0)) (zl_rb64 hP) p (by omega) v hv
  refine zl_rb_eq hP hx.2.1 (fun q hq => ?_)
  rw [hx.2.2 q hq, zb_rb_bt L (L 9 0) q hP hq]
  by_cases e : q = p
  · subst e
    rw [if_pos rfl]
    by_cases h0 : v = 0
    · simp [zl_rs, h0]
    · simp [zl_rs, h0, hp]; omega
  · simp [e, zl_rs]
theorem z9_I0 {m : Nat} (hm : m < 100000) : z9_I m < 0 ↔ m = 0 := by
  unfold z9_I
  split
  · rename_i h; exact ⟨fun _ => h, fun _ => by decide⟩
  · rename_i h; rw [zt_lt0, nI_toInt (by omega)]; omega
theorem zq_ct_sp (L : Nat → Nat → Nat) (x y : Nat) : ∀ n, (zq_ct L x y n).1 ≤ n ∧ ((zq_ct L x y n).1 = 0 → (zq_ct L x y n).2 = 7) ∧ ((zq_ct L x y n).1 ≠ 0 → (zq_ct L x y n).2 = zb_pc ((zq_ct L x y n).1 - 1))
  | 0 => by simp [zq_ct]
  | n + 1 => by
    have ih := zq_ct_sp L x y n
    simp only [zq_ct]
    split
    · simp
    · exact ⟨by omega, ih.2⟩
section zR7
variable {X : Nat × (Nat → Int32)} {l : Launch} {I : Nat → Nat → Int32} {s : zS} {w : Nat} {L : Nat → Nat → Nat}
theorem cm_cut (h : zm_at s I) (a b : Int32) : zs_m X l mX6_cut [.ref 38, .int a, .int b] I (zo_cut s a b) := by
  have hl := h.2.1
  have hP := hl.1.1
  have no : zo_cut s a b = zx_no s 1 → fw_Go X l mX6_cut (fun r σ => r = some (.int (zo_cut s a b).1) ∧ ∃ I', σ = (fw_sh, I') ∧ zm_at (zo_cut s a b).2 I' ∧ zf_lo I I') 14 0 0 [some (.ref 38), some (.int a), some (.int b), none, none, none] [.int (zn_g 1)] (fw_sh, I) := by
    intro e
    refine fw_from [] 100 8 ok_X6_cut ⟨_, wc_X6_cut⟩ rfl ?_
    refine zq_br (zn_g0 (show 1 ≤ 6 by omega)) (fun z => absurd z (by omega)) (fun _ => ?_)
    refine ⟨_, rt_no (X := X) (l := l) h (c := 1) (by omega) (by omega), fun v σ' hq => ?_⟩
    obtain ⟨rfl, I', rfl, h1, h2⟩ := hq
    exact zm_end e ⟨rfl, I', rfl, h1, h2⟩
  refine fw_enter [14] 100 ok_X6_cut ⟨_, wc_X6_cut⟩ rfl rfl rfl ?_
  refine And.intro (fun hab => ?_) (fun hab => ?_)
  · refine ⟨_, rt_notYards (X := X) (l := l) (I := I) a b, ?_⟩
    rintro v σ' ⟨rfl, rfl⟩
    by_cases g : (zb_in a 36 && zb_in b 36) = true
    · rw [if_pos g]
      have g2 := g
      rw [Bool.and_eq_true] at g2
      obtain ⟨x, hx, rfl⟩ := zb_in_of g2.1 (by omega)
      obtain ⟨y, hy, rfl⟩ := zb_in_of g2.2 (by omega)
      have ex := nI_clamp (n := x) (by omega)
      have ey := nI_clamp (n := y) (by omega)
      have g4 : (zb_in (nI x) 36 && zb_in (nI y) 36 && !(decide (nI x = nI y))) = true := by rw [g]; simp; exact hab
      simp only [zo_cut, g4, if_true, ex, ey]
      have p64 : 2 ^ s.1 9 0 ≤ 64 := by
        have : ∀ n, n ≤ 6 → 2 ^ n ≤ 64 := by decide
        exact this _ hP
      have rb64 := zl_rb64 hP
      have loop := zl_down (N := 2 ^ s.1 9 0) (G := fun c => ∀ I1, zf_fr [51, 52] I I1 → fw_Go X l mX6_cut (fun r σ => r = some (.int (z9_I (zq_ct s.1 x y (2 ^ s.1 9 0)).1)) ∧ ∃ I', σ = (fw_sh, I') ∧ zm_at s I' ∧ zf_lo I I') 32 0 0 [some (.ref 38), some (.int (nI x)), some (.int (nI y)), some (.int 0), some (.int (z9_I (zq_ct s.1 x y c).1)), some (.int (nI c))] [] (fw_sh, I1)) (by
        intro I1 hs
        have hl1 := hl.ways hs
        refine fw_from [32] 100 19 ok_X6_cut ⟨_, wc_X6_cut⟩ rfl ?_
        refine zq_le (2 ^ s.1 9 0) (2 ^ s.1 9 0) ?_ rfl (fun _ => ?_) (fun h => absurd h (by omega))
        · show (1 : Int32) <<< (I1 38 7 &&& 31) = _
          rw [hl1.2.2.2.1, zb_shp _ (by omega)]
        exact ⟨rfl, I1, rfl, (hs.h5 (w := 1)).m h, (hs.h5 (w := 1)).lo⟩) (fun c hc2 ih => by
        intro I1 hs
        have hl1 := hl.ways hs
        have sp := zq_ct_sp s.1 x y c
        have hpc := zb_pc_le c (by omega)
        have nxt : ∀ J, zf_fr [51, 52] I J → ¬ ((∀ p, p < 6 → zb_bt c p = 0 ∨ zb_bt (zl_rb s.1 (s.1 9 0)) p = 0) ∧ zb_pc c < (zq_ct s.1 x y c).2 ∧ zh_cu s.1 c x y = 36) → fw_Go X l mX6_cut (fun r σ => r = some (.int (z9_I (zq_ct s.1 x y (2 ^ s.1 9 0)).1)) ∧ ∃ I', σ = (fw_sh, I') ∧ zm_at s I' ∧ zf_lo I I') 32 0 0 [some (.ref 38), some (.int (nI x)), some (.int (nI y)), some (.int 0), some (.int (z9_I (zq_ct s.1 x y c).1)), some (.int (nI (c + 1)))] [] (fw_sh, J) := by
          intro J hJ hn
          have := ih J hJ
          rw [show zq_ct s.1 x y (c + 1) = zq_ct s.1 x y c by simp only [zq_ct]; rw [if_neg hn]] at this
          exact this
        have tail : (∀ p, p < 6 → zb_bt c p = 0 ∨ zb_bt (zl_rb s.1 (s.1 9 0)) p = 0) → zb_pc c < (zq_ct s.1 x y c).2 → fw_Go X l mX6_cut (fun r σ => r = some (.int (z9_I (zq_ct s.1 x y (2 ^ s.1 9 0)).1)) ∧ ∃ I', σ = (fw_sh, I') ∧ zm_at s I' ∧ zf_lo I I') 74 0 0 [some (.ref 38), some (.int (nI x)), some (.int (nI y)), some (.int 0), some (.int (z9_I (zq_ct s.1 x y c).1)), some (.int (nI c))] [] (fw_sh, I1) := by
          intro t1 t2
          have c1 := rt_stRolled (X := X) (l := l) hl1 (L' := zl_cl s.1 c (s.1 9 0)) (x := I1 38 8 ||| nI c) (fun k hk => by funext j; simp [zl_cl, hk]) (fun p hp => by
            have := (hl.1.2.2.2 p hp).2.2.2.2.2.2.2
            simp only [zl_cl]; split <;> omega) (by rw [hl1.2.2.2.2.1]; exact zl_rb_cl hP hc2) hx hy
          have hle : zh_cu s.1 c x y ≤ 36 := zb_far_le hx hy
          have hle2 := zr_f_le hle
          refine fw_from [32] 100 38 ok_X6_cut ⟨_, wc_X6_cut⟩ rfl ?_
          refine ⟨_, c1, ?_⟩
          rintro v σ' ⟨rfl, I2, rfl, hf2⟩
          refine zq_ne (zr_f (zh_cu s.1 c x y)) 1000 rfl rfl (fun k => ?_) (fun k => ?_)
          · exact fw_sub (nxt I2 (hs.tr hf2) (fun z => k ((zr_f36 hle).mpr z.2.2))) (by simp only [nI_1]) rfl
          · have := ih I2 (hs.tr hf2)
            rw [show zq_ct s.1 x y (c + 1) = (c + 1, zb_pc c) by simp only [zq_ct]; rw [if_pos ⟨t1, t2, (zr_f36 hle).mp k⟩]] at this
            exact fw_sub this (by simp only [nI_1]; simp [z9_I]) rfl
        refine fw_from [32, 74] 100 19 ok_X6_cut ⟨_, wc_X6_cut⟩ rfl ?_
        refine zq_le (2 ^ s.1 9 0) c ?_ rfl (fun h => absurd h (by omega)) (fun _ => ?_)
        · show (1 : Int32) <<< (I1 38 7 &&& 31) = _
          rw [hl1.2.2.2.1, zb_shp _ (by omega)]
        refine zq_brn (c := nI c &&& I1 38 8 = 0) (d := ∀ p, p < 6 → zb_bt c p = 0 ∨ zb_bt (zl_rb s.1 (s.1 9 0)) p = 0) ?_ (fun k => ?_) (fun k => ?_)
        · rw [hl1.2.2.2.2.1]; exact zb_and0 c (by omega) _ rb64
        · exact fw_sub (nxt I1 hs (fun z => k z.1)) (by simp only [nI_1]) rfl
        refine zq_br (z9_I0 (by omega)) (fun k2 => ?_) (fun k2 => ?_)
        · exact fw_sub (tail k (by rw [sp.2.1 k2]; omega)) (by rfl) rfl
        have s2 := sp.2.2 k2
        have hm : (zq_ct s.1 x y c).1 - 1 < 64 := by omega
        have hpc2 := zb_pc_le _ hm
        refine ⟨_, rt_bits (X := X) (l := l) (I := I1) (v := c) (by omega), ?_⟩
        rintro v σ' ⟨rfl, rfl⟩
        have c3 := rt_bits (X := X) (l := l) (I := I1) (v := (zq_ct s.1 x y c).1 - 1) (by omega)
        rw [show nI ((zq_ct s.1 x y c).1 - 1) = z9_I (zq_ct s.1 x y c).1 by unfold z9_I; rw [if_neg k2], zb_pcs _ hm] at c3
        refine ⟨_, c3, ?_⟩
        rintro v σ' ⟨rfl, rfl⟩
        rw [zb_pcs c (by omega)]
        refine zq_lt (zb_pc c) (zb_pc ((zq_ct s.1 x y c).1 - 1)) rfl rfl (fun k3 => ?_) (fun k3 => ?_)
        · exact fw_sub (tail k (by omega)) (by rfl) rfl
        · exact fw_sub (nxt I1 hs (fun z => by omega)) (by simp only [nI_1]) rfl)
      refine fw_from [32] 100 8 ok_X6_cut ⟨_, wc_X6_cut⟩ rfl ?_
      refine And.intro (fun _ => ?_) (fun z => absurd rfl z)
      exact fw_sub (loop 0 (Nat.zero_le _) I zf_fr.rf) (by rfl) rfl
    · rw [if_neg g]
      refine fw_sub2 (no ?_) (by rfl) (by rfl) rfl
      unfold zo_cut
      rw [if_neg (fun z => g (by rw [Bool.and_eq_true] at z; exact z.1))]
  · refine fw_sub2 (no ?_) (by rfl) (by rfl) rfl
    unfold zo_cut
    have e : a = b := by simpa using hab
    rw [if_neg (by simp [e])]
theorem rt_stTrod (h : zm_l 6 L I) {p a b : Nat} (hp : p < L 9 0) (ha : a < 36) (hb : b < 36) : fw_Sem X l mX6_stepsTrod [.ref 38, .int (nI a), .int (nI b), .int (nI p)] (fw_sh, I) (fun r σ => r = some (.int (nI (zr_f (zh_op L p a b)))) ∧ ∃ I', σ = (fw_sh, I') ∧ zh 2 I I') := by
  have hP := h.1.1
  refine fw_enter [] 100 ok_X6_stepsTrod ⟨_, wc_X6_stepsTrod⟩ rfl rfl rfl ?_
  refine ⟨_, rt_thinks (X := X) (l := l) (I := I), ?_⟩
  rintro v σ' ⟨rfl, I1, rfl, hK⟩
  have h1 := h.K hK
  have hz := zm_r7 h1 (L' := zl_rs L p 0) (x := I1 38 8 &&& (((1 : Int32) <<< (nI p &&& 31)) ^^^ (-1))) (fun k hk => by funext j; simp [zl_rs, hk]) (fun q hq => by
    have := (h.1.2.2.2 q hq).2.2.2.2.2.2.2
    simp only [zl_rs]; split <;> omega) (by rw [h1.2.2.2.2.1, zb_w0 _ (zl_rb64 hP) p (by omega), zl_rb_rs hP hp (by omega)])
  have eo : zl_ow (zl_rs L p 0) 6 = zl_ow L 6 := zl_ow_congr (by funext j; simp [zl_rs]) (by funext j; simp [zl_rs]) (by funext j; simp [zl_rs]) (by funext j; simp [zl_rs]) 6
  have c1 := rt_trod (X := X) (l := l) hz (by omega) (p := p) hp
  rw [eo] at c1
  refine ⟨_, c1, ?_⟩
  rintro v σ' ⟨rfl, I2, rfl, hz2, hg2⟩
  have c2 := rt_stepsOf (X := X) (l := l) hz2 (by omega) ha hb
  rw [show zl_ow (zl_tr (zl_rs L p 0) (zl_ow L 6) p) 6 = zl_ow L 6 from (zl_ow_congr (by funext j; simp [zl_tr]) (by funext j; simp [zl_tr]) (by funext j; simp [zl_tr]) (by funext j; simp [zl_tr]) 6).trans eo] at c2
  refine ⟨_, c2, ?_⟩
  rintro v σ' ⟨rfl, I3, rfl, hf3⟩
  refine ⟨_, rt_forgets (X := X) (l := l) (I := I3), ?_⟩
  rintro v' σ' ⟨rfl, I4, rfl, hB⟩
  exact ⟨rfl, I4, rfl, zh_mk hK (((zg.rf.up (by omega)).tr hg2).tr hf3.g5).w hB⟩
theorem cm_opens (h : zm_at s I) (a b : Int32) : zs_m X l mX6_opens [.ref 38, .int a, .int b] I (zo_opens s a b) := by
  have hl := h.2.1
  have hP := hl.1.1
  have no : zo_opens s a b = zx_no s 1 → fw_Go X l mX6_opens (fun r σ => r = some (.int (zo_opens s a b).1) ∧ ∃ I', σ = (fw_sh, I') ∧ zm_at (zo_opens s a b).2 I' ∧ zf_lo I I') 14 0 0 [some (.ref 38), some (.int a), some (.int b), none, none, none, none, none] [.int (zn_g 1)] (fw_sh, I) := by
    intro e
    refine fw_from [] 100 8 ok_X6_opens ⟨_, wc_X6_opens⟩ rfl ?_
    refine zq_br (zn_g0 (show 1 ≤ 6 by omega)) (fun z => absurd z (by omega)) (fun _ => ?_)
    refine ⟨_, rt_no (X := X) (l := l) h (c := 1) (by omega) (by omega), fun v σ' hq => ?_⟩
    obtain ⟨rfl, I', rfl, h1, h2⟩ := hq
    exact zm_end e ⟨rfl, I', rfl, h1, h2⟩
  refine fw_enter [14] 100 ok_X6_opens ⟨_, wc_X6_opens⟩ rfl rfl rfl ?_
  refine And.intro (fun hab => ?_) (fun hab => ?_)
  · refine ⟨_, rt_notYards (X := X) (l := l) (I := I) a b, ?_⟩
    rintro v σ' ⟨rfl, rfl⟩
    by_cases g : (zb_in a 36 && zb_in b 36) = true
    · rw [if_pos g]
      have g2 := g
      rw [Bool.and_eq_true] at g2
      obtain ⟨x, hx, rfl⟩ := zb_in_of g2.1 (by omega)
      obtain ⟨y, hy, rfl⟩ := zb_in_of g2.2 (by omega)
      have ex := nI_clamp (n := x) (by omega)
      have ey := nI_clamp (n := y) (by omega)
      have g4 : (zb_in (nI x) 36 && zb_in (nI y) 36 && !(decide (nI x = nI y))) = true := by rw [g]; simp; exact hab
      simp only [zo_opens, g4, if_true, ex, ey]
      have tb : ∀ p, zh_op s.1 p x y ≤ 36 := fun p => zb_far_le hx hy
      have t0 : zb_far (zl_op s.1 (zl_ow s.1 6)) x y ≤ 36 := zb_far_le hx hy
      have loop := zl_down (N := s.1 9 0) (G := fun p => ∀ I1 v7, zh 2 I I1 → fw_Go X l mX6_opens (fun r σ => r = some (.int (z9_I (zq_mn (fun _ => false) (fun p => zh_op s.1 p x y) (zb_far (zl_op s.1 (zl_ow s.1 6)) x y) (s.1 9 0)).1)) ∧ ∃ I', σ = (fw_sh, I') ∧ zm_at s I' ∧ zf_lo I I') 40 0 0 [some (.ref 38), some (.int (nI x)), some (.int (nI y)), some (.int 0), some (.int (z9_I (zq_mn (fun _ => false) (fun p => zh_op s.1 p x y) (zb_far (zl_op s.1 (zl_ow s.1 6)) x y) p).1)), some (.int (nI (zr_f (zq_mn (fun _ => false) (fun p => zh_op s.1 p x y) (zb_far (zl_op s.1 (zl_ow s.1 6)) x y) p).2))), some (.int (nI p)), v7] [] (fw_sh, I1)) (by
        intro I1 v7 hs
        have hm := hs.m h
        refine fw_from [40] 100 24 ok_X6_opens ⟨_, wc_X6_opens⟩ rfl ?_
        refine zq_le (s.1 9 0) (s.1 9 0) hm.2.1.2.2.2.1 rfl (fun _ => ?_) (fun h => absurd h (by omega))
        exact ⟨rfl, I1, rfl, hm, hs.lo⟩) (fun p hp ih => by
        intro I1 v7 hs
        have hm := hs.m h
        have hb := zq_mn_le (sk := fun _ => false) (f := fun p => zh_op s.1 p x y) t0 tb p
        have hb2 := zr_f_le hb
        have tp := tb p
        have tp2 := zr_f_le tp
        refine fw_from [40] 100 24 ok_X6_opens ⟨_, wc_X6_opens⟩ rfl ?_
        refine zq_le (s.1 9 0) p hm.2.1.2.2.2.1 rfl (fun h => absurd h (by omega)) (fun _ => ?_)
        refine ⟨_, rt_stTrod (X := X) (l := l) hm.2.1 hp hx hy, ?_⟩
        rintro v σ' ⟨rfl, I2, rfl, hs2⟩
        refine zq_lt (zr_f (zh_op s.1 p x y)) (zr_f (zq_mn (fun _ => false) (fun p => zh_op s.1 p x y) (zb_far (zl_op s.1 (zl_ow s.1 6)) x y) p).2) rfl rfl (fun k2 => ?_) (fun k2 => ?_)
        · refine fw_sub (ih I2 (some (.int (nI (zr_f (zh_op s.1 p x y))))) (hs.tr hs2)) ?_ rfl
          have e2 : zq_mn (fun _ => false) (fun p => zh_op s.1 p x y) (zb_far (zl_op s.1 (zl_ow s.1 6)) x y) (p + 1) = (p + 1, zh_op s.1 p x y) := if_pos ⟨rfl, (zr_f_cmp tp hb).mp k2⟩
          rw [e2]
          simp only [nI_1]
          simp [z9_I]
        · refine fw_sub (ih I2 (some (.int (nI (zr_f (zh_op s.1 p x y))))) (hs.tr hs2)) ?_ rfl
          have e2 : zq_mn (fun _ => false) (fun p => zh_op s.1 p x y) (zb_far (zl_op s.1 (zl_ow s.1 6)) x y) (p + 1) = zq_mn (fun _ => false) (fun p => zh_op s.1 p x y) (zb_far (zl_op s.1 (zl_ow s.1 6)) x y) p := if_neg (fun z => Nat.not_lt.mpr k2 ((zr_f_cmp tp hb).mpr z.2))
          rw [e2]
          simp only [nI_1])
      refine fw_from [40] 100 8 ok_X6_opens ⟨_, wc_X6_opens⟩ rfl ?_
      refine And.intro (fun _ => ?_) (fun z => absurd rfl z)
      refine ⟨_, rt_stepsOf (X := X) (l := l) hl (by omega) hx hy, ?_⟩
      rintro v σ' ⟨rfl, I0, rfl, hf0⟩
      exact fw_sub (loop 0 (by omega) I0 none hf0.h5) (by rfl) rfl
    · rw [if_neg g]
      refine fw_sub2 (no ?_) (by rfl) (by rfl) rfl
      unfold zo_opens
      rw [if_neg (fun z => g (by rw [Bool.and_eq_true] at z; exact z.1))]
  · refine fw_sub2 (no ?_) (by rfl) (by rfl) rfl
    unfold zo_opens
    have e : a = b := by simpa using hab
    rw [if_neg (by simp [e])]
end zR7
