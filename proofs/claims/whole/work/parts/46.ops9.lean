def zl_rs (L : Nat → Nat → Nat) (p v : Nat) : Nat → Nat → Nat := fun k j => if k = 7 ∧ j = p then v else L k j
def zb_bt (b p : Nat) : Nat := b / 2 ^ p % 2
def zb_pc (b : Nat) : Nat := zm_s (fun k => zb_bt b k) 6
theorem zb_and0 : ∀ a, a < 64 → ∀ b, b < 64 → (nI a &&& nI b = 0 ↔ ∀ p, p < 6 → zb_bt a p = 0 ∨ zb_bt b p = 0) := by decide +kernel
theorem zb_andp : ∀ a, a < 64 → ∀ p, p < 6 → (nI a &&& ((1 : Int32) <<< (nI p &&& 31)) = 0 ↔ zb_bt a p = 0) := by decide +kernel
theorem zb_shp : ∀ p, p < 7 → (1 : Int32) <<< (nI p &&& 31) = nI (2 ^ p) := by decide +kernel
theorem zb_pc_le : ∀ a, a < 64 → zb_pc a ≤ 6 := by decide +kernel
theorem zb_rb_bt (L : Nat → Nat → Nat) : ∀ n p, n ≤ 6 → p < 6 → (zb_bt (zl_rb L n) p = if p < n ∧ L 7 p ≠ 0 then 1 else 0)
  | 0, p, _, _ => by simp [zl_rb, zm_s, zb_bt]
  | n + 1, p, hn, hp => by
    have ih := zb_rb_bt L n p (by omega) hp
    have hlt := zl_rb_lt L n
    have e : zl_rb L (n + 1) = zl_rb L n + (if L 7 n = 0 then 0 else 2 ^ n) := rfl
    rw [e]
    by_cases h7 : L 7 n = 0
    · simp only [h7, if_true, Nat.add_zero]
      rw [ih]
      by_cases hpn : p = n
      · subst hpn; simp [h7]
      · simp [show (p < n + 1 ↔ p < n) by omega]
    · simp only [h7, if_false]
      have key : ∀ n, n < 6 → ∀ a, a < 2 ^ n → ∀ p, p < 6 → zb_bt (a + 2 ^ n) p = if p = n then 1 else zb_bt a p := by decide +kernel
      rw [key n (by omega) _ hlt p hp, ih]
      by_cases hpn : p = n
      · subst hpn; simp [h7]
      · simp [hpn, show (p < n + 1 ↔ p < n) by omega]
def zl_cl (L : Nat → Nat → Nat) (b n : Nat) : Nat → Nat → Nat := fun k j => if k = 7 ∧ j < n ∧ zb_bt b j ≠ 0 then 1 else L k j
noncomputable def zh_cu (L : Nat → Nat → Nat) (b x y : Nat) : Nat := zb_far (zl_op (zl_cl L b (L 9 0)) (zl_ow L 6)) x y
/-- a piece is set rolled or not -/
theorem zl_at.set7 {d : Nat} {L : Nat → Nat → Nat} {ow : Nat → Nat} {I : Nat → Nat → Int32} (h : zl_at d L ow I) {p v : Nat} (hp : p < L 9 0) (hv : v ≤ 1) : zl_at d (zl_rs L p v) ow (fw_up I (d + 8) p (nI v)) := by
  obtain ⟨hd, hw, h0, h1, h2, h3, h4, h5⟩ := h
  have hf : zf_fr [d + 8] I (fw_up I (d + 8) p (nI v)) := zf_fr.rf.up (by simp)
  refine ⟨hd, ⟨hw.1, hw.2.1, hw.2.2.1, fun q hq => ?_⟩, fun y hy => ?_, fun y hy => ?_, fun k hk1 hk2 q hq => ?_, ?_, ?_, fun q hq => ?_⟩
  · have w2 := hw.2.2.2 q hq
    refine ⟨w2.1, w2.2.1, w2.2.2.1, w2.2.2.2.1, w2.2.2.2.2.1, w2.2.2.2.2.2.1, w2.2.2.2.2.2.2.1, ?_⟩
    simp only [zl_rs]; split <;> omega
  · rw [hf (d + 1) (by simp)]; exact h0 y hy
  · rw [hf (d + 2) (by simp)]; exact h1 y hy
  · by_cases hk : k = 7
    · subst hk
      by_cases hqp : q = p
      · subst hqp; rw [show d + 1 + 7 = d + 8 by omega, fw_up_at]; simp [zl_rs]
      · rw [show d + 1 + 7 = d + 8 by omega, fw_up_k hqp, show d + 8 = d + 1 + 7 by omega, h2 7 (by omega) (by omega) q hq]; simp [zl_rs, hqp]
    · rw [hf (d + 1 + k) (by simp; omega), h2 k hk1 hk2 q hq]; simp [zl_rs, hk]
  · rw [hf d (by simp)]; exact h3
  · rw [hf d (by simp)]; exact h4
  · by_cases hqp : q = p
    · subst hqp; rw [fw_up_at]
      rcases (show v = 0 ∨ v = 1 by omega) with e | e <;> rw [e]
      · exact Or.inl rfl
      · exact Or.inr rfl
    · rw [fw_up_k hqp]; exact h5 q hq
section zC9
variable {X : Nat × (Nat → Int32)} {l : Launch} {I : Nat → Nat → Int32} {s : zS}
theorem ct_bitCount {x : Nat} (hx : x < 64) : zs_p X l mJ6_bitCount_0f7a4 [.int (nI x)] I (nI (zb_pc x)) := by
  refine fw_enter [] 100 ok_J6_bitCount_0f7a4 ⟨_, wc_J6_bitCount_0f7a4⟩ rfl rfl rfl ?_
  refine ⟨zr_e ?_, rfl⟩
  revert x
  decide +kernel
theorem ct_cuts (h : zc_at s I) {b x y : Nat} (hb : b < 64) (hx : x < 36) (hy : y < 36) : fw_Sem X l mX5_cuts [.ref 0, .int (nI b), .int (nI x), .int (nI y)] (fw_sh, I) (fun r σ => r = some (.int (zi (decide (zh_cu s.1 b x y = 36)))) ∧ ∃ I', σ = (fw_sh, I') ∧ zk_sc I I') := by
  have hl := h.2.1
  have hP := hl.2.1.1
  have tb : zh_cu s.1 b x y ≤ 36 := zb_far_le hx hy
  have loop := zl_down (N := s.1 9 0) (G := fun p => ∀ I1, zl_at 11 (zl_cl s.1 b p) (zl_ow s.1 6) I1 → zk_sc I I1 → fw_Go X l mX5_cuts (fun r σ => r = some (.int (zi (decide (zh_cu s.1 b x y = 36)))) ∧ ∃ I', σ = (fw_sh, I') ∧ zk_sc I I') 14 0 0 [some (.ref 0), some (.int (nI b)), some (.int (nI x)), some (.int (nI y)), some (.int (nI p))] [] (fw_sh, I1)) (by
    intro I1 hz hs
    refine fw_from [14] 100 7 ok_X5_cuts ⟨_, wc_X5_cuts⟩ rfl ?_
    have e9 : zl_cl s.1 b (s.1 9 0) 9 0 = s.1 9 0 := by simp [zl_cl]
    refine zq_le (s.1 9 0) (s.1 9 0) (by rw [← e9]; exact hz.2.2.2.2.2.1) rfl (fun _ => ?_) (fun h => absurd h (by omega))
    refine ⟨_, ct_fewest (X := X) (l := l) hz hx hy, ?_⟩
    rintro v σ' ⟨rfl, I2, rfl, hf2⟩
    refine zq_ne (zh_cu s.1 b x y) 36 rfl rfl (fun k => ?_) (fun k => ?_)
    · exact ⟨by decide, zr_0 k, I2, rfl, hs.tr (hf2.sc (by simp))⟩
    · exact ⟨by decide, zr_1 k, I2, rfl, hs.tr (hf2.sc (by simp))⟩) (fun p hp ih => by
    intro I1 hz hs
    have e9 : zl_cl s.1 b p 9 0 = s.1 9 0 := by simp [zl_cl]
    refine fw_from [14] 100 7 ok_X5_cuts ⟨_, wc_X5_cuts⟩ rfl ?_
    refine zq_le (s.1 9 0) p (by rw [← e9]; exact hz.2.2.2.2.2.1) rfl (fun h => absurd h (by omega)) (fun _ => ?_)
    refine zq_br (zb_andp b hb p (by omega)) (fun k => ?_) (fun k => ?_)
    · have e : zl_cl s.1 b (p + 1) = zl_cl s.1 b p := by
        funext k' j
        unfold zl_cl
        by_cases hj : j = p
        · subst hj; simp [k]
        · simp [show (j < p + 1 ↔ j < p) by omega]
      exact fw_sub (ih I1 (by rw [e]; exact hz) hs) (by simp only [nI_1]) rfl
    · refine And.intro (Or.inr rfl) (And.intro (fw_in1 p 6 (by omega)) ?_)
      have e : zl_cl s.1 b (p + 1) = zl_rs (zl_cl s.1 b p) p 1 := by
        funext k' j
        unfold zl_cl zl_rs
        by_cases hj : j = p
        · subst hj; by_cases h7 : k' = 7 <;> simp [k, h7]
        · simp [show (j < p + 1 ↔ j < p) by omega, hj]
      have hz2 := hz.set7 (p := p) (v := 1) (by rw [e9]; exact hp) (by omega)
      refine fw_sub (ih (fw_up I1 19 p (nI 1)) (by rw [e]; exact hz2) (hs.up (by omega))) (by simp only [nI_1]) (by rw [nI_clamp (by omega)]; rfl))
  refine fw_enter [14] 100 ok_X5_cuts ⟨_, wc_X5_cuts⟩ rfl rfl rfl ?_
  refine ⟨_, ct_copyFrom (X := X) (l := l) (d := 11) (s := 1) (by omega) (by omega) hl, ?_⟩
  rintro v σ' ⟨rfl, I1, rfl, hz1, hf1⟩
  have e : zl_cl s.1 b 0 = s.1 := by funext k j; simp [zl_cl]
  exact fw_sub (loop 0 (by omega) I1 (by rw [e]; exact hz1) (hf1.sc (by simp))) (by rfl) rfl
/-- the best set so far: one more than it, 0 if none; how many in it -/
noncomputable def zq_ct (L : Nat → Nat → Nat) (x y : Nat) : Nat → Nat × Nat
  | 0 => (0, 7)
  | b + 1 => @ite _ ((∀ p, p < 6 → zb_bt b p = 0 ∨ zb_bt (zl_rb L (L 9 0)) p = 0) ∧ zb_pc b < (zq_ct L x y b).2 ∧ zh_cu L b x y = 36) (Classical.propDecidable _) (b + 1, zb_pc b) (zq_ct L x y b)
noncomputable def zo_cut (s : zS) (a b : Int32) : Int32 × zS :=
  if (zb_in a 36 && zb_in b 36 && !(decide (a = b))) = true then (z9_I (zq_ct s.1 a.toNatClampNeg b.toNatClampNeg (2 ^ s.1 9 0)).1, s) else zx_no s 1
theorem cs_cut (h : zc_at s I) (a b : Int32) : zs_c X l mX5_cut [.ref 0, .int a, .int b] I (zo_cut s a b) := by
  have hl := h.2.1
  have hP := hl.2.1.1
  refine fw_enter [33] 100 ok_X5_cut ⟨_, wc_X5_cut⟩ rfl rfl rfl ?_
  refine ⟨_, ct_two (X := X) (l := l) (I := I) a b, ?_⟩
  rintro v σ' ⟨rfl, rfl⟩
  refine zq_brn (zi_eq0 _) (fun g4 => ?_) (fun g4 => ?_)
  · have g4 : (zb_in a 36 && zb_in b 36 && !(decide (a = b))) = true := eq_true_of_ne_false g4
    have g5 : zb_in a 36 = true := by simp only [Bool.and_eq_true] at g4; exact g4.1.1
    have g6 : zb_in b 36 = true := by simp only [Bool.and_eq_true] at g4; exact g4.1.2
    obtain ⟨x, hx, rfl⟩ := zb_in_of g5 (by omega)
    obtain ⟨y, hy, rfl⟩ := zb_in_of g6 (by omega)
    have ex := nI_clamp (n := x) (by omega)
    have ey := nI_clamp (n := y) (by omega)
    simp only [zo_cut, g4, if_true, ex, ey]
    have p64 : 2 ^ s.1 9 0 ≤ 64 := by
      have : ∀ n, n ≤ 6 → 2 ^ n ≤ 64 := by decide
      exact this _ hP
    have rb64 : zl_rb s.1 (s.1 9 0) < 64 := by have := zl_rb_lt s.1 (s.1 9 0); omega
    have mb : ∀ c, (zq_ct s.1 x y c).2 ≤ 7 ∨ 64 ≤ c := by
      intro c
      induction c with
      | zero => left; simp [zq_ct]
      | succ c ihc =>
        by_cases hc : 64 ≤ c
        · right; omega
        · left
          have h1 := ihc.resolve_right hc
          have h2 := zb_pc_le c (by omega)
          simp only [zq_ct]
          split
          · simp; omega
          · exact h1
    refine ⟨_, ct_rolledBits (X := X) (l := l) hl, ?_⟩
    rintro v σ' ⟨rfl, rfl⟩
    have loop := zl_down (N := 2 ^ s.1 9 0) (G := fun c => ∀ I1 v7, zk_sc I I1 → fw_Go X l mX5_cut (fun r σ => r = some (.int (z9_I (zq_ct s.1 x y (2 ^ s.1 9 0)).1)) ∧ ∃ I', σ = (fw_sh, I') ∧ zc_at s I' ∧ zf_hi I I') 33 0 0 [some (.ref 0), some (.int (nI x)), some (.int (nI y)), some (.int (z9_I (zq_ct s.1 x y c).1)), some (.int (nI (zq_ct s.1 x y c).2)), some (.int (nI (zl_rb s.1 (s.1 9 0)))), some (.int (nI c)), v7] [] (fw_sh, I1)) (by
      intro I1 v7 hs
      have hc := hs.c h
      refine fw_from [33] 100 18 ok_X5_cut ⟨_, wc_X5_cut⟩ rfl ?_
      refine zq_le (2 ^ s.1 9 0) (2 ^ s.1 9 0) ?_ rfl (fun _ => ?_) (fun h => absurd h (by omega))
      · show (1 : Int32) <<< (I1 1 9 &&& 31) = _
        rw [hc.2.1.2.2.2.2.2.1, zb_shp _ (by omega)]
      exact ⟨rfl, I1, rfl, hc, hs.hi⟩) (fun c hc2 ih => by
      intro I1 v7 hs
      have hc := hs.c h
      have hm := (mb c).resolve_right (by omega)
      have hpc := zb_pc_le c (by omega)
      refine fw_from [33] 100 18 ok_X5_cut ⟨_, wc_X5_cut⟩ rfl ?_
      refine zq_le (2 ^ s.1 9 0) c ?_ rfl (fun h => absurd h (by omega)) (fun _ => ?_)
      · show (1 : Int32) <<< (I1 1 9 &&& 31) = _
        rw [hc.2.1.2.2.2.2.2.1, zb_shp _ (by omega)]
      refine ⟨_, ct_bitCount (X := X) (l := l) (I := I1) (x := c) (by omega), ?_⟩
      rintro v σ' ⟨rfl, rfl⟩
      have no : ∀ J, zk_sc I J → ¬ ((∀ p, p < 6 → zb_bt c p = 0 ∨ zb_bt (zl_rb s.1 (s.1 9 0)) p = 0) ∧ zb_pc c < (zq_ct s.1 x y c).2 ∧ zh_cu s.1 c x y = 36) → fw_Go X l mX5_cut (fun r σ => r = some (.int (z9_I (zq_ct s.1 x y (2 ^ s.1 9 0)).1)) ∧ ∃ I', σ = (fw_sh, I') ∧ zc_at s I' ∧ zf_hi I I') 33 0 0 [some (.ref 0), some (.int (nI x)), some (.int (nI y)), some (.int (z9_I (zq_ct s.1 x y c).1)), some (.int (nI (zq_ct s.1 x y c).2)), some (.int (nI (zl_rb s.1 (s.1 9 0)))), some (.int (nI (c + 1))), some (.int (nI (zb_pc c)))] [] (fw_sh, J) := by
        intro J hJ hn
        have := ih J (some (.int (nI (zb_pc c)))) hJ
        rw [show zq_ct s.1 x y (c + 1) = zq_ct s.1 x y c by simp only [zq_ct]; rw [if_neg hn]] at this
        exact this
      refine zq_brn (zb_and0 c (by omega) _ rb64) (fun k => ?_) (fun k => ?_)
      · exact fw_sub (no I1 hs (fun z => k z.1)) (by simp only [nI_1]) rfl
      refine zq_le (zq_ct s.1 x y c).2 (zb_pc c) rfl rfl (fun k2 => ?_) (fun k2 => ?_)
      · exact fw_sub (no I1 hs (fun z => by omega)) (by simp only [nI_1]) rfl
      refine ⟨_, ct_cuts (X := X) (l := l) hc (b := c) (by omega) hx hy, ?_⟩
      rintro v σ' ⟨rfl, I2, rfl, hs2⟩
      refine zq_br (zi_eq0 _) (fun k3 => ?_) (fun k3 => ?_)
      · exact fw_sub (no I2 (hs.tr hs2) (fun z => by simp [z.2.2] at k3)) (by simp only [nI_1]) rfl
      · have k3 : zh_cu s.1 c x y = 36 := by simpa using k3
        have := ih I2 (some (.int (nI (zb_pc c)))) (hs.tr hs2)
        rw [show zq_ct s.1 x y (c + 1) = (c + 1, zb_pc c) by simp only [zq_ct]; rw [if_pos ⟨k, k2, k3⟩]] at this
        exact fw_sub this (by simp only [nI_1]; simp [z9_I]) rfl)
    exact fw_sub (loop 0 (Nat.zero_le _) I none zk_sc.rf) (by simp only [zq_ct]; rfl) rfl
  · simp only [zo_cut, g4]
    exact ⟨_, ct_no (X := X) (l := l) h (c := 1) (by omega) (by omega), fun v σ' hq => by obtain ⟨rfl, I', rfl, h1, h2⟩ := hq; exact ⟨rfl, I', rfl, h1, h2⟩⟩
theorem cs_opens (h : zc_at s I) (a b : Int32) : zs_c X l mX5_opens [.ref 0, .int a, .int b] I (zo_opens s a b) := by
  have hl := h.2.1
  have hP := hl.2.1.1
  refine fw_enter [35] 100 ok_X5_opens ⟨_, wc_X5_opens⟩ rfl rfl rfl ?_
  refine ⟨_, ct_two (X := X) (l := l) (I := I) a b, ?_⟩
  rintro v σ' ⟨rfl, rfl⟩
  refine zq_brn (zi_eq0 _) (fun g4 => ?_) (fun g4 => ?_)
  · have g4 : (zb_in a 36 && zb_in b 36 && !(decide (a = b))) = true := eq_true_of_ne_false g4
    have g5 : zb_in a 36 = true := by simp only [Bool.and_eq_true] at g4; exact g4.1.1
    have g6 : zb_in b 36 = true := by simp only [Bool.and_eq_true] at g4; exact g4.1.2
    obtain ⟨x, hx, rfl⟩ := zb_in_of g5 (by omega)
    obtain ⟨y, hy, rfl⟩ := zb_in_of g6 (by omega)
    have ex := nI_clamp (n := x) (by omega)
    have ey := nI_clamp (n := y) (by omega)
    simp only [zo_opens, g4, if_true, ex, ey]
    have tb : ∀ p, zh_op s.1 p x y ≤ 36 := fun p => zb_far_le hx hy
    have t0 : zb_far (zl_op s.1 (zl_ow s.1 6)) x y ≤ 36 := zb_far_le hx hy
    refine ⟨_, ct_fewest (X := X) (l := l) hl hx hy, ?_⟩
    rintro v σ' ⟨rfl, I0, rfl, hf0⟩
    have loop := zl_down (N := s.1 9 0) (G := fun p => ∀ I1 v6, zk_sc I I1 → fw_Go X l mX5_opens (fun r σ => r = some (.int (z9_I (zq_mn (fun _ => false) (fun p => zh_op s.1 p x y) (zb_far (zl_op s.1 (zl_ow s.1 6)) x y) (s.1 9 0)).1)) ∧ ∃ I', σ = (fw_sh, I') ∧ zc_at s I' ∧ zf_hi I I') 35 0 0 [some (.ref 0), some (.int (nI x)), some (.int (nI y)), some (.int (z9_I (zq_mn (fun _ => false) (fun p => zh_op s.1 p x y) (zb_far (zl_op s.1 (zl_ow s.1 6)) x y) p).1)), some (.int (nI (zq_mn (fun _ => false) (fun p => zh_op s.1 p x y) (zb_far (zl_op s.1 (zl_ow s.1 6)) x y) p).2)), some (.int (nI p)), v6] [] (fw_sh, I1)) (by
      intro I1 v6 hs
      have hc := hs.c h
      refine fw_from [35] 100 20 ok_X5_opens ⟨_, wc_X5_opens⟩ rfl ?_
      refine zq_le (s.1 9 0) (s.1 9 0) hc.2.1.2.2.2.2.2.1 rfl (fun _ => ?_) (fun h => absurd h (by omega))
      exact ⟨rfl, I1, rfl, hc, hs.hi⟩) (fun p hp ih => by
      intro I1 v6 hs
      have hc := hs.c h
      have hb := zq_mn_le (sk := fun _ => false) (f := fun p => zh_op s.1 p x y) t0 tb p
      have tp := tb p
      refine fw_from [35] 100 20 ok_X5_opens ⟨_, wc_X5_opens⟩ rfl ?_
      refine zq_le (s.1 9 0) p hc.2.1.2.2.2.2.2.1 rfl (fun h => absurd h (by omega)) (fun _ => ?_)
      refine ⟨_, ct_copyFrom (X := X) (l := l) (d := 11) (s := 1) (by omega) (by omega) hc.2.1, ?_⟩
      rintro v σ' ⟨rfl, I2, rfl, hz2, hf2⟩
      refine And.intro (Or.inl rfl) (And.intro (fw_in1 p 6 (by omega)) ?_)
      have hz3 := hz2.set7 (p := p) (v := 0) hp (by omega)
      have c1 := ct_treadDown (X := X) (l := l) hz3 (p := p) hp
      rw [show fw_up I2 (11 + 8) p (nI 0) = fw_up I2 19 (nI p).toNatClampNeg 0 by rw [nI_clamp (by omega)]; rfl] at c1
      refine ⟨_, c1, ?_⟩
      rintro v σ' ⟨rfl, I4, rfl, hz4, hf4⟩
      refine ⟨_, ct_fewest (X := X) (l := l) hz4 hx hy, ?_⟩
      rintro v σ' ⟨rfl, I5, rfl, hf5⟩
      have hs5 : zk_sc I I5 := (((hs.tr (hf2.sc (by simp))).up (by omega)).tr (hf4.sc (by simp))).tr (hf5.sc (by simp))
      have he : zb_far (zl_op (zl_tr (zl_rs s.1 p 0) (zl_ow s.1 6) p) (zl_ow s.1 6)) x y = zh_op s.1 p x y := rfl
      rw [he]
      refine zq_le (zq_mn (fun _ => false) (fun p => zh_op s.1 p x y) (zb_far (zl_op s.1 (zl_ow s.1 6)) x y) p).2 (zh_op s.1 p x y) rfl rfl (fun k2 => ?_) (fun k2 => ?_)
      · refine fw_sub (ih I5 (some (.int (nI (zh_op s.1 p x y)))) hs5) ?_ rfl
        have e2 : zq_mn (fun _ => false) (fun p => zh_op s.1 p x y) (zb_far (zl_op s.1 (zl_ow s.1 6)) x y) (p + 1) = zq_mn (fun _ => false) (fun p => zh_op s.1 p x y) (zb_far (zl_op s.1 (zl_ow s.1 6)) x y) p := if_neg (fun z => Nat.not_lt.mpr k2 z.2)
        rw [e2]
        simp only [nI_1]
      · refine fw_sub (ih I5 (some (.int (nI (zh_op s.1 p x y)))) hs5) ?_ rfl
        have e2 : zq_mn (fun _ => false) (fun p => zh_op s.1 p x y) (zb_far (zl_op s.1 (zl_ow s.1 6)) x y) (p + 1) = (p + 1, zh_op s.1 p x y) := if_pos ⟨rfl, k2⟩
        rw [e2]
        simp only [nI_1]
        simp [z9_I])
    exact fw_sub (loop 0 (by omega) I0 none (hf0.sc (by simp))) (by rfl) rfl
  · simp only [zo_opens, g4]
    exact ⟨_, ct_no (X := X) (l := l) h (c := 1) (by omega) (by omega), fun v σ' hq => by obtain ⟨rfl, I', rfl, h1, h2⟩ := hq; exact ⟨rfl, I', rfl, h1, h2⟩⟩
end zC9
