def zp_fit (s : zS) (y : Nat) : Bool := decide (y / 6 ≠ 5 ∧ y % 6 ≠ 5 ∧ s.1 0 y = s.2.2.1 4 0 ∧ s.1 0 (y + 1) = s.2.2.1 4 1 ∧ s.1 0 (y + 6) = s.2.2.1 4 2 ∧ s.1 0 (y + 7) = s.2.2.1 4 3)
/-- how many below n, and one more than the first (0 if none) -/
def zp_cf (f : Nat → Bool) : Nat → Nat × Nat
  | 0 => (0, 0)
  | n + 1 => if f n = true then ((zp_cf f n).1 + 1, if (zp_cf f n).1 = 0 then n + 1 else (zp_cf f n).2) else zp_cf f n
def zo_patch (s : zS) (w : Int32) : Int32 × zS :=
  if zk_first (zk_oth w 1) (if s.2.2.1 3 0 = 4 then 0 else 3) = 0 then ((if w.toNatClampNeg = 0 then nI (zp_cf (zp_fit s) 36).1 else z9_I (zp_cf (zp_fit s) 36).2), s) else zx_no s (zk_first (zk_oth w 1) (if s.2.2.1 3 0 = 4 then 0 else 3))
theorem zp_cf_le (f : Nat → Bool) : ∀ n, (zp_cf f n).1 ≤ n
  | 0 => Nat.le_refl _
  | n + 1 => by
    have := zp_cf_le f n
    simp only [zp_cf]
    split
    · simp; omega
    · omega
/-- the draws of one lot: the seed behind k pieces, and the land so far -/
def zd_next (x : Int32) : Int32 := x * 1664525 + 1013904223
def zd_half (x : Int32) : Int32 := (x &&& 2147483647) / 256 - (x &&& 2147483647) / 256 / 2 * 2
def zd_s (x : Int32) : Nat → Int32
  | 0 => x
  | k + 1 => zd_next (zd_s x k)
def zd_L (L : Nat → Nat → Nat) (x : Int32) (n : Nat) : Nat → Nat → Nat := fun k j => if k = 7 ∧ j < n then (if zd_half (zd_s x (j + 1)) = 1 then 1 else 0) else L k j
def zd_v (L : Nat → Nat → Nat) (ow : Nat → Nat) (x : Int32) (w : Nat) : Nat := if w = 0 then zm_s (fun y => if zl_pd (zd_L L x (L 9 0)) ow 10 0 y = 9 then 1 else 0) 36 else zm_s (fun y => zl_pd (zd_L L x (L 9 0)) ow 10 0 y) 36
def zd_sum (L : Nat → Nat → Nat) (ow : Nat → Nat) (x : Int32) (w : Nat) : Nat → Nat
  | 0 => 0
  | n + 1 => zd_sum L ow x w n + zd_v L ow (zd_s x (n * L 9 0)) w
def zo_lots (s : zS) (n z w : Int32) : Int32 × zS :=
  if zk_first (zk_out n 1 20) (zk_oth w 1) = 0 then (nI (zd_sum s.1 (zl_ow s.1 6) z w.toNatClampNeg n.toNatClampNeg), s) else zx_no s (zk_first (zk_out n 1 20) (zk_oth w 1))
theorem zd_s_add (x : Int32) : ∀ a b, zd_s (zd_s x a) b = zd_s x (a + b)
  | a, 0 => rfl
  | a, b + 1 => by simp only [zd_s]; rw [zd_s_add x a b]; rfl
section zC12
variable {X : Nat × (Nat → Int32)} {l : Launch} {I : Nat → Nat → Int32} {s : zS}
theorem ct_fits (h : zc_at s I) (h4 : s.2.2.1 3 0 = 4) {y : Nat} (hy : y < 36) : zs_p X l mX5_patchFits [.ref 0, .int (nI y)] I (zi (zp_fit s y)) := by
  obtain ⟨hl, t8⟩ : zl_at 1 s.1 (zl_ow s.1 6) I ∧ ∀ j, j < 4 → I 36 j = nI (s.2.2.1 4 j) := ⟨h.2.1, fun j hj => h.2.2.2.2.2.2.2.1 j (by omega)⟩
  have tl := h.1.2.2.2.2.2.1
  have y6 : nI y / 6 = nI (y / 6) := pk_div (d := 6) (by omega) (by omega) (by omega)
  have yr : nI y - nI y / 6 * 6 = nI (y % 6) := pk_rem (d := 6) (by omega) (by omega) (by omega)
  have gl := hl.2.1.2.2.1
  have g0 := hl.2.2.1
  refine fw_enter [] 100 ok_X5_patchFits ⟨_, wc_X5_patchFits⟩ rfl rfl rfl ?_
  refine And.intro (by decide) ?_
  refine zq_eq (y / 6) 5 y6 rfl (fun k1 => ?_) (fun k1 => ?_)
  · exact ⟨by decide, zr_0 (by omega), rfl⟩
  refine And.intro (by decide) ?_
  refine zq_ne (y % 6) 5 yr rfl (fun k2 => ?_) (fun k2 => ?_)
  rotate_left
  · exact ⟨by decide, zr_0 (by omega), rfl⟩
  have b0 := gl y hy
  have b1 := gl (y + 1) (by omega)
  have b6 := gl (y + 6) (by omega)
  have b7 := gl (y + 7) (by omega)
  have c0 := tl 0
  have c1 := tl 1
  have c2 := tl 2
  have c3 := tl 3
  refine And.intro (fw_in1 y 36 hy) ?_
  refine And.intro (fw_in1 0 16 (by omega)) ?_
  refine zq_ne (s.1 0 y) (s.2.2.1 4 0) (zq_rd (g0 y hy)) (t8 0 (by omega)) (fun q1 => ?_) (fun q1 => ?_)
  · exact ⟨by decide, zr_0 (fun z => q1 z.2.2.1), rfl⟩
  refine And.intro ?_ ?_
  · exact fw_in1 (y + 1) 36 (by omega) (nI_1 y)
  refine And.intro (fw_in1 1 16 (by omega)) ?_
  refine zq_ne (s.1 0 (y + 1)) (s.2.2.1 4 1) ?_ (t8 1 (by omega)) (fun q2 => ?_) (fun q2 => ?_)
  · show I 2 (nI y + 1).toNatClampNeg = _
    rw [nI_1]; exact zq_rd (g0 (y + 1) (by omega))
  · exact ⟨by decide, zr_0 (fun z => q2 z.2.2.2.1), rfl⟩
  refine And.intro ?_ ?_
  · exact fw_in1 (y + 6) 36 (by omega) (nI_add y 6)
  refine And.intro (fw_in1 2 16 (by omega)) ?_
  refine zq_ne (s.1 0 (y + 6)) (s.2.2.1 4 2) ?_ (t8 2 (by omega)) (fun q3 => ?_) (fun q3 => ?_)
  · show I 2 (nI y + 6).toNatClampNeg = _
    rw [show nI y + 6 = nI (y + 6) from nI_add y 6]; exact zq_rd (g0 (y + 6) (by omega))
  · exact ⟨by decide, zr_0 (fun z => q3 z.2.2.2.2.1), rfl⟩
  refine And.intro ?_ ?_
  · exact fw_in1 (y + 7) 36 (by omega) (by rw [show nI y + 6 = nI (y + 6) from nI_add y 6, nI_1])
  refine And.intro (fw_in1 3 16 (by omega)) ?_
  refine zq_ne (s.1 0 (y + 7)) (s.2.2.1 4 3) ?_ (t8 3 (by omega)) (fun q4 => ?_) (fun q4 => ?_)
  · show I 2 (nI y + 6 + 1).toNatClampNeg = _
    rw [show nI y + 6 = nI (y + 6) from nI_add y 6, nI_1]; exact zq_rd (g0 (y + 7) (by omega))
  · exact ⟨by decide, zr_0 (fun z => q4 z.2.2.2.2.2), rfl⟩
  · exact ⟨by decide, zr_1 ⟨k1, k2, q1, q2, q3, q4⟩, rfl⟩
theorem cs_patch (h : zc_at s I) (w : Int32) : zs_c X l mX5_patch [.ref 0, .int w] I (zo_patch s w) := by
  have h7 := h.2.2.2.2.2.2.1
  have hn := h.1.2.2.2.2.1
  have main : ∀ c3, c3 = (if s.2.2.1 3 0 = 4 then 0 else 3) → fw_Go X l mX5_patch (fun r σ => r = some (.int (zo_patch s w).1) ∧ ∃ I', σ = (fw_sh, I') ∧ zc_at (zo_patch s w).2 I' ∧ zf_hi I I') 19 0 0 [some (.ref 0), some (.int w), none, none, none, none] [.int (zn_g c3), .int (zn_g (zk_oth w 1))] (fw_sh, I) := by
    intro c3 hc3
    have hc6 : c3 ≤ 6 := by split at hc3 <;> omega
    refine fw_from [42] 100 10 ok_X5_patch ⟨_, wc_X5_patch⟩ rfl ?_
    refine ⟨_, ct_first (X := X) (l := l) (I := I) zk_oth_le, ?_⟩
    rintro v' σ' ⟨rfl, rfl⟩
    refine zq_br (zn_g0 (zk_first_le zk_oth_le hc6)) (fun hk => ?_) (fun hk => ?_)
    · obtain ⟨hk1, hk2⟩ := zk_first0 hk
      have h4 : s.2.2.1 3 0 = 4 := by
        rw [hk2] at hc3
        split at hc3
        · assumption
        · cases hc3
      obtain ⟨u, hu, rfl⟩ := zk_oth_sp hk1
      have eu := nI_clamp (n := u) (by omega)
      have eo : zo_patch s (nI u) = ((if u = 0 then nI (zp_cf (zp_fit s) 36).1 else z9_I (zp_cf (zp_fit s) 36).2), s) := by
        rw [hc3] at hk
        simp only [zo_patch, hk, eu, if_true]
      rw [eo, hk]
      have loop := zl_down (N := 36) (G := fun y => fw_Go X l mX5_patch (fun r σ => r = some (.int (if u = 0 then nI (zp_cf (zp_fit s) 36).1 else z9_I (zp_cf (zp_fit s) 36).2)) ∧ ∃ I', σ = (fw_sh, I') ∧ zc_at s I' ∧ zf_hi I I') 42 0 0 [some (.ref 0), some (.int (nI u)), some (.int (zn_g 0)), some (.int (nI (zp_cf (zp_fit s) y).1)), some (.int (z9_I (zp_cf (zp_fit s) y).2)), some (.int (nI y))] [] (fw_sh, I)) (by
        refine fw_from [42] 100 24 ok_X5_patch ⟨_, wc_X5_patch⟩ rfl ?_
        refine zq_le 36 36 rfl rfl (fun _ => ?_) (fun h => absurd h (by omega))
        refine zq_ne u 0 rfl rfl (fun k => ?_) (fun k => ?_)
        · exact ⟨by simp [k], I, rfl, h, zf_hi.rf⟩
        · exact ⟨by simp [k], I, rfl, h, zf_hi.rf⟩) (fun y hy ih => by
        have hle := zp_cf_le (zp_fit s) y
        refine fw_from [42] 100 24 ok_X5_patch ⟨_, wc_X5_patch⟩ rfl ?_
        refine zq_le 36 y rfl rfl (fun h => absurd h (by omega)) (fun _ => ?_)
        refine ⟨_, ct_fits (X := X) (l := l) h h4 hy, ?_⟩
        rintro v' σ' ⟨rfl, rfl⟩
        refine zq_br (zi_eq0 _) (fun k => ?_) (fun k => ?_)
        · exact fw_sub ih (by simp [zp_cf, k, nI_1]) rfl
        · have k : zp_fit s y = true := by simpa using k
          refine zq_ne (zp_cf (zp_fit s) y).1 0 rfl rfl (fun k2 => ?_) (fun k2 => ?_)
          · exact fw_sub ih (by simp [zp_cf, k, k2, nI_1]) rfl
          · exact fw_sub ih (by simp [zp_cf, k, k2, nI_1, z9_I]) rfl)
      exact fw_sub (loop 0 (by omega)) (by rfl) rfl
    · have e : zo_patch s w = zx_no s (zk_first (zk_oth w 1) c3) := by rw [hc3] at hk ⊢; simp only [zo_patch, hk, if_false]
      refine ⟨_, ct_no (X := X) (l := l) h (by omega) (zk_first_le zk_oth_le hc6), fun v σ' hq => ?_⟩
      obtain ⟨rfl, I', rfl, h1, h2⟩ := hq
      exact zc_end e ⟨rfl, I', rfl, h1, h2⟩
  refine fw_enter [19] 100 ok_X5_patch ⟨_, wc_X5_patch⟩ rfl rfl rfl ?_
  refine ⟨_, ct_oth (X := X) (l := l) (I := I) w 1, ?_⟩
  rintro v' σ' ⟨rfl, rfl⟩
  refine zq_eq (s.2.2.1 3 0) 4 h7 rfl (fun k => ?_) (fun k => ?_)
  · exact fw_sub2 (main 0 (by simp [k])) (by rfl) (by rfl) rfl
  · exact fw_sub2 (main 3 (by simp [k])) (by rfl) (by rfl) rfl
theorem cs_lots (h : zc_at s I) (n z w : Int32) : zs_c X l mX5_lots [.ref 0, .int n, .int z, .int w] I (zo_lots s n z w) := by
  have hl := h.2.1
  have hP := hl.2.1.1
  have hd := h.1.1
  refine fw_enter [38] 100 ok_X5_lots ⟨_, wc_X5_lots⟩ rfl rfl rfl ?_
  refine ⟨_, ct_out (X := X) (l := l) (I := I) n 1 20, ?_⟩
  rintro v' σ' ⟨rfl, rfl⟩
  refine ⟨_, ct_oth (X := X) (l := l) (I := I) w 1, ?_⟩
  rintro v' σ' ⟨rfl, rfl⟩
  refine ⟨_, ct_first (X := X) (l := l) (I := I) zk_out_le, ?_⟩
  rintro v' σ' ⟨rfl, rfl⟩
  refine zq_br (zn_g0 (zk_first_le zk_out_le zk_oth_le)) (fun hk => ?_) (fun hk => ?_)
  · obtain ⟨hk1, hk2⟩ := zk_first0 hk
    obtain ⟨j, hj1, hj, rfl⟩ := zk_out_sp hk1
    obtain ⟨q, hq, rfl⟩ := zk_oth_sp hk2
    have eq := nI_clamp (n := q) (by omega)
    have ej := nI_clamp (n := j) (by omega)
    simp only [zo_lots, hk, ej, eq, if_true]
    have outer := zl_down (N := j) (G := fun t => ∀ I1 v8, zk_sc I I1 → fw_Go X l mX5_lots (fun r σ => r = some (.int (nI (zd_sum s.1 (zl_ow s.1 6) z q j))) ∧ ∃ I', σ = (fw_sh, I') ∧ zc_at s I' ∧ zf_hi I I') 38 0 0 [some (.ref 0), some (.int (nI j)), some (.int z), some (.int (nI q)), some (.int (zn_g 0)), some (.int (zd_s z (t * s.1 9 0))), some (.int (nI (zd_sum s.1 (zl_ow s.1 6) z q t))), some (.int (nI t)), v8] [] (fw_sh, I1)) (by
      intro I1 v8 hs
      refine fw_from [38] 100 21 ok_X5_lots ⟨_, wc_X5_lots⟩ rfl ?_
      refine zq_le j j rfl rfl (fun _ => ?_) (fun h => absurd h (by omega))
      exact ⟨rfl, I1, rfl, hs.c h, hs.hi⟩) (fun t ht ih => by
      intro I1 v8 hs
      have hc := hs.c h
      refine fw_from [38, 58] 100 21 ok_X5_lots ⟨_, wc_X5_lots⟩ rfl ?_
      refine zq_le j t rfl rfl (fun h => absurd h (by omega)) (fun _ => ?_)
      refine ⟨_, ct_copyFrom (X := X) (l := l) (d := 11) (s := 1) (by omega) (by omega) hc.2.1, ?_⟩
      rintro v σ' ⟨rfl, I2, rfl, hz2, hf2⟩
      obtain ⟨x, hx⟩ : ∃ x, x = zd_s z (t * s.1 9 0) := ⟨_, rfl⟩
      have inner := zl_down (N := s.1 9 0) (G := fun p => ∀ I3, zl_at 11 (zd_L s.1 x p) (zl_ow s.1 6) I3 → zk_sc I I3 → fw_Go X l mX5_lots (fun r σ => r = some (.int (nI (zd_sum s.1 (zl_ow s.1 6) z q j))) ∧ ∃ I', σ = (fw_sh, I') ∧ zc_at s I' ∧ zf_hi I I') 58 0 0 [some (.ref 0), some (.int (nI j)), some (.int z), some (.int (nI q)), some (.int (zn_g 0)), some (.int (zd_s x p)), some (.int (nI (zd_sum s.1 (zl_ow s.1 6) z q t))), some (.int (nI t)), some (.int (nI p))] [] (fw_sh, I3)) (by
        intro I3 hz3 hs3
        have e9 : zd_L s.1 x (s.1 9 0) 9 0 = s.1 9 0 := by simp [zd_L]
        have e10 : zd_L s.1 x (s.1 9 0) 10 0 = s.1 10 0 := by simp [zd_L]
        refine fw_from [38] 100 31 ok_X5_lots ⟨_, wc_X5_lots⟩ rfl ?_
        refine zq_le (s.1 9 0) (s.1 9 0) (by rw [← e9]; exact hz3.2.2.2.2.2.1) rfl (fun _ => ?_) (fun h => absurd h (by omega))
        refine ⟨_, ct_passDays (X := X) (l := l) hz3 (N := 10) (by omega) (by omega), ?_⟩
        rintro v σ' ⟨rfl, I4, rfl, hz4, hf4⟩
        have hs4 := hs3.tr (hf4.sc (by simp))
        have seed : zd_s x (s.1 9 0) = zd_s z ((t + 1) * s.1 9 0) := by rw [hx, zd_s_add, Nat.succ_mul]
        refine zq_ne q 0 rfl rfl (fun k => ?_) (fun k => ?_)
        · refine ⟨_, ct_allGrown (X := X) (l := l) hz4, ?_⟩
          rintro v σ' ⟨rfl, rfl⟩
          exact fw_sub (ih I4 (some (.int (nI (s.1 9 0)))) hs4) (by rw [seed]; simp only [zd_sum, zd_v, k, if_false, nI_1, nI_add, ← hx]) rfl
        · refine ⟨_, ct_countThistles (X := X) (l := l) hz4, ?_⟩
          rintro v σ' ⟨rfl, rfl⟩
          exact fw_sub (ih I4 (some (.int (nI (s.1 9 0)))) hs4) (by rw [seed]; simp only [zd_sum, zd_v, k, if_true, nI_1, nI_add, ← hx]) rfl) (fun p hp ihp => by
        intro I3 hz3 hs3
        have e9 : zd_L s.1 x p 9 0 = s.1 9 0 := by simp [zd_L]
        have stp : ∀ v, v = (if zd_half (zd_s x (p + 1)) = 1 then 1 else 0) → zd_L s.1 x (p + 1) = zl_rs (zd_L s.1 x p) p v := by
          intro v hv
          funext k' i
          unfold zd_L zl_rs
          by_cases hi : i = p
          · subst hi; by_cases h7 : k' = 7 <;> simp [h7, hv]
          · simp [show (i < p + 1 ↔ i < p) by omega, hi]
        refine fw_from [38, 58] 100 31 ok_X5_lots ⟨_, wc_X5_lots⟩ rfl ?_
        refine zq_le (s.1 9 0) p (by rw [← e9]; exact hz3.2.2.2.2.2.1) rfl (fun h => absurd h (by omega)) (fun _ => ?_)
        refine ⟨_, ct_nextSeed (X := X) (l := l) (I := I3) (zd_s x p), ?_⟩
        rintro v σ' ⟨rfl, rfl⟩
        refine ⟨_, ct_halfDraw (X := X) (l := l) (I := I3) (zd_s x p * 1664525 + 1013904223), ?_⟩
        rintro v σ' ⟨rfl, rfl⟩
        have hh : zd_half (zd_s x (p + 1)) = ((zd_s x p * 1664525 + 1013904223) &&& 2147483647) / 256 - ((zd_s x p * 1664525 + 1013904223) &&& 2147483647) / 256 / 2 * 2 := rfl
        refine And.intro (fun k => ?_) (fun k => ?_)
        · refine And.intro (Or.inl rfl) (And.intro (fw_in1 p 6 (by omega)) ?_)
          have hz4 := hz3.set7 (p := p) (v := 0) (by rw [e9]; exact hp) (by omega)
          rw [← stp 0 (by rw [hh, if_neg k])] at hz4
          exact fw_sub (ihp (fw_up I3 19 p (nI 0)) hz4 (hs3.up (by omega))) (by simp only [nI_1]; rfl) (by rw [nI_clamp (by omega)]; rfl)
        · refine And.intro (Or.inr rfl) (And.intro (fw_in1 p 6 (by omega)) ?_)
          have hz4 := hz3.set7 (p := p) (v := 1) (by rw [e9]; exact hp) (by omega)
          rw [← stp 1 (by rw [hh, if_pos k])] at hz4
          exact fw_sub (ihp (fw_up I3 19 p (nI 1)) hz4 (hs3.up (by omega))) (by simp only [nI_1]; rfl) (by rw [nI_clamp (by omega)]; rfl))
      have e0 : zd_L s.1 x 0 = s.1 := by funext k i; simp [zd_L]
      exact fw_sub (inner 0 (Nat.zero_le _) I2 (by rw [e0]; exact hz2) (hs.tr (hf2.sc (by simp)))) (by rw [hx]; rfl) rfl)
    exact fw_sub (outer 0 (Nat.zero_le _) I none zk_sc.rf) (by simp [zd_s, zd_sum]; rfl) rfl
  · have e : zo_lots s n z w = zx_no s (zk_first (zk_out n 1 20) (zk_oth w 1)) := by simp [zo_lots, hk]
    refine ⟨_, ct_no (X := X) (l := l) h (by omega) (zk_first_le zk_out_le zk_oth_le), fun v σ' hq => ?_⟩
    obtain ⟨rfl, I', rfl, h1, h2⟩ := hq
    exact zc_end e ⟨rfl, I', rfl, h1, h2⟩
end zC12
