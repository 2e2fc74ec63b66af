def zp_pair (L : Nat → Nat → Nat) (k : Nat) : Bool := decide (k / 10 < k % 10 ∧ k % 10 < L 9 0) && zl_ovl L (k / 10) (k % 10) 36
def zo_same (s : zS) (w : Int32) : Int32 × zS :=
  if zk_oth w 1 = 0 then ((if w.toNatClampNeg = 0 then nI (zp_cf (zp_pair s.1) 100).1 else z9_I (zp_cf (zp_pair s.1) 100).2), s) else zx_no s (zk_oth w 1)
theorem zp_cf_skip {f : Nat → Bool} {m : Nat} : ∀ n, (∀ k, m ≤ k → k < m + n → f k = false) → zp_cf f (m + n) = zp_cf f m
  | 0, _ => rfl
  | n + 1, h => by
    have h1 := zp_cf_skip n (fun k hk hk2 => h k hk (by omega))
    show zp_cf f ((m + n) + 1) = _
    simp only [zp_cf, h (m + n) (by omega) (by omega)]
    simpa using h1
theorem zp_cf_to {f : Nat → Bool} {m n : Nat} (hmn : m ≤ n) (h : ∀ k, m ≤ k → k < n → f k = false) : zp_cf f n = zp_cf f m := by
  have := zp_cf_skip (f := f) (m := m) (n - m) (fun k hk hk2 => h k hk (by omega))
  rwa [show m + (n - m) = n by omega] at this
/-- what is grown after so many days, by a kind and a figure -/
def zw_v (g0 k f day lies : Nat) : Nat → Nat
  | 0 => g0
  | n + 1 => if zw_v g0 k f day lies n + (if lies = 1 then zl_gr k f (day + n + 1) else 0) < 9 then zw_v g0 k f day lies n + (if lies = 1 then zl_gr k f (day + n + 1) else 0) else 9
def zw_all (f : Nat → Bool) : Nat → Bool
  | 0 => true
  | n + 1 => zw_all f n && f n
theorem zw_all_f {f : Nat → Bool} {k : Nat} (hk : f k = false) : ∀ n, k < n → zw_all f n = false
  | 0, h => absurd h (by omega)
  | n + 1, h => by
    by_cases e : k = n
    · subst e; simp [zw_all, hk]
    · simp [zw_all, zw_all_f hk n (by omega)]
def zw_so (s : zS) (y k f : Nat) : Bool := zw_all (fun a => decide (s.2.2.1 4 a = zw_v (s.1 0 y) k f (s.1 10 0) (1 - s.1 7 (zl_ow s.1 6 y)) a)) (s.2.2.1 3 0)
def zw_bits (f : Nat → Bool) (n : Nat) : Nat := zm_s (fun v => if f v = true then 2 ^ v else 0) n
theorem zw_bits_lt (f : Nat → Bool) : ∀ n, zw_bits f n < 2 ^ n
  | 0 => by simp [zw_bits, zm_s]
  | n + 1 => by
    have h := zw_bits_lt f n
    unfold zw_bits at h ⊢
    simp only [zm_s, Nat.pow_succ]
    split <;> omega
theorem zb_or10 : ∀ p, p < 10 → ∀ a, a < 2 ^ p → nI a ||| ((1 : Int32) <<< (nI p &&& 31)) = nI (a + 2 ^ p) := by decide +kernel
def zo_what (s : zS) (y w : Int32) : Int32 × zS :=
  if zb_in y 36 then (if zk_first (zk_oth w 1) (if zl_ow s.1 6 y.toNatClampNeg < s.1 9 0 then 0 else 3) = 0 then (nI (if w.toNatClampNeg = 0 then zw_bits (fun v => zw_so s y.toNatClampNeg v (s.1 3 (zl_ow s.1 6 y.toNatClampNeg))) 6 else zw_bits (fun v => zw_so s y.toNatClampNeg (s.1 2 (zl_ow s.1 6 y.toNatClampNeg)) v) 10), s) else zx_no s (zk_first (zk_oth w 1) (if zl_ow s.1 6 y.toNatClampNeg < s.1 9 0 then 0 else 3))) else zx_no s 1
theorem zw_v_le {g0 k f day lies : Nat} (h : g0 ≤ 9) : ∀ n, zw_v g0 k f day lies n ≤ 9
  | 0 => h
  | n + 1 => by simp only [zw_v]; repeat' split
                all_goals omega
section zC13
variable {X : Nat × (Nat → Int32)} {l : Launch} {I : Nat → Nat → Int32} {s : zS}
theorem ct_add (h : zc_at s I) {c : Nat} (hc : c ≤ 255) (h96 : s.2.2.1 1 0 < 96) : fw_Sem X l mX3_add [.ref 34, .int (nI c)] (fw_sh, I) (fun r σ => r = some (.int (nI (s.2.2.1 1 0 + 1))) ∧ σ = (fw_sh, fw_up (fw_up I 35 (s.2.2.1 1 0) (nI c)) 34 1 (nI (s.2.2.1 1 0 + 1)))) := by
  have h5 := h.2.2.2.2.1
  refine fw_enter [] 100 ok_X3_add ⟨_, wc_X3_add⟩ rfl rfl rfl ?_
  refine zq_le 96 (s.2.2.1 1 0) rfl h5 (fun z => absurd z (by omega)) (fun _ => ?_)
  refine And.intro (fw_in1 (s.2.2.1 1 0) 96 h96 h5) ?_
  have e1 : fw_up I 35 (I 34 1).toNatClampNeg (nI c) 34 1 + 1 = nI (s.2.2.1 1 0 + 1) := by
    rw [fw_up_ne 34 (by omega), h5, nI_1]
  refine ⟨?_, ?_⟩
  · refine zr_e ?_
    exact (show fw_up (fw_up I 35 (I 34 1).toNatClampNeg (nI c)) 34 1 (fw_up I 35 (I 34 1).toNatClampNeg (nI c) 34 1 + 1) 34 1 = nI (s.2.2.1 1 0 + 1) from fw_up_at.trans e1)
  · show (fw_sh, fw_up (fw_up I 35 (I 34 1).toNatClampNeg (nI c)) 34 1 (fw_up I 35 (I 34 1).toNatClampNeg (nI c) 34 1 + 1)) = _
    rw [e1, h5, nI_clamp (by omega)]
theorem cs_letter (h : zc_at s I) (c : Int32) : zs_c X l mX5_letter [.ref 0, .int c] I (zo_letter s c) := by
  have h5 := h.2.2.2.2.1
  have h96 := h.1.2.2.1
  have main : ∀ c3, c3 = (if s.2.2.1 1 0 < 96 then 0 else 6) → fw_Go X l mX5_letter (fun r σ => r = some (.int (zo_letter s c).1) ∧ ∃ I', σ = (fw_sh, I') ∧ zc_at (zo_letter s c).2 I' ∧ zf_hi I I') 26 0 0 [some (.ref 0), some (.int c), none] [.int (zn_g c3), .int (zn_g (zk_out c 0 255))] (fw_sh, I) := by
    intro c3 hc3
    have hc6 : c3 ≤ 6 := by split at hc3 <;> omega
    refine fw_from [] 100 12 ok_X5_letter ⟨_, wc_X5_letter⟩ rfl ?_
    refine ⟨_, ct_first (X := X) (l := l) (I := I) zk_out_le, ?_⟩
    rintro v' σ' ⟨rfl, rfl⟩
    refine zq_br (zn_g0 (zk_first_le zk_out_le hc6)) (fun hk => ?_) (fun hk => ?_)
    · obtain ⟨hk1, hk2⟩ := zk_first0 hk
      have hlt : s.2.2.1 1 0 < 96 := by
        rw [hk2] at hc3
        split at hc3
        · assumption
        · cases hc3
      obtain ⟨u, hu1, hu, rfl⟩ := zk_out_sp hk1
      have eu := nI_clamp (n := u) (by omega)
      refine ⟨_, ct_add (X := X) (l := l) h hu hlt, ?_⟩
      rintro v' σ' ⟨rfl, rfl⟩
      rw [hc3] at hk
      simp only [zo_letter, hk, eu, if_true]
      refine ⟨rfl, _, rfl, ?_, (zf_hi.rf.up (by omega)).up (by omega)⟩
      obtain ⟨w1, w2, w3, w4, w5, w6, w7, w8, w9⟩ := h
      refine ⟨⟨w1.1, w1.2.1, ?_, fun j => ?_, w1.2.2.2.2.1, w1.2.2.2.2.2.1, w1.2.2.2.2.2.2⟩, w2.keep (fun c _ _ => by rw [fw_up_ne c (by omega), fw_up_ne c (by omega)]), ?_, fun z => (w4 z).keep (fun c _ _ => by rw [fw_up_ne c (by omega), fw_up_ne c (by omega)]), ?_, fun j hj => ?_, ?_, fun j hj => ?_, fun k hk => ?_⟩
      · show s.2.2.1 1 0 + 1 ≤ 96
        omega
      · have := w1.2.2.2.1 j
        show (if 2 = 1 then s.2.2.1 1 j + 1 else if 2 = 2 ∧ j = s.2.2.1 1 0 then u else s.2.2.1 2 j) ≤ 255
        rw [if_neg (by omega)]
        split <;> omega
      · rw [fw_up_ne 0 (by omega), fw_up_ne 0 (by omega)]; exact w3
      · rw [fw_up_at]; rfl
      · rw [fw_up_ne 35 (by omega)]
        have hj : j < s.2.2.1 1 0 + 1 := hj
        show _ = nI (if 2 = 1 then s.2.2.1 1 j + 1 else if 2 = 2 ∧ j = s.2.2.1 1 0 then u else s.2.2.1 2 j)
        rw [if_neg (by omega)]
        by_cases e : j = s.2.2.1 1 0
        · rw [if_pos ⟨rfl, e⟩, e, fw_up_at]
        · rw [if_neg (fun z => e z.2), fw_up_k e]; exact w6 j (by omega)
      · rw [fw_up_ne 0 (by omega), fw_up_ne 0 (by omega)]; exact w7
      · rw [fw_up_ne 36 (by omega), fw_up_ne 36 (by omega)]; exact w8 j hj
      · rw [fw_up_ne 37 (by omega), fw_up_ne 37 (by omega)]; exact w9 k hk
    · have e : zo_letter s c = zx_no s (zk_first (zk_out c 0 255) c3) := by rw [hc3] at hk ⊢; simp only [zo_letter, hk, if_false]
      refine ⟨_, ct_no (X := X) (l := l) h (by omega) (zk_first_le zk_out_le hc6), fun v σ' hq => ?_⟩
      obtain ⟨rfl, I', rfl, h1, h2⟩ := hq
      exact zc_end e ⟨rfl, I', rfl, h1, h2⟩
  refine fw_enter [26] 100 ok_X5_letter ⟨_, wc_X5_letter⟩ rfl rfl rfl ?_
  refine ⟨_, ct_out (X := X) (l := l) (I := I) c 0 255, ?_⟩
  rintro v' σ' ⟨rfl, rfl⟩
  refine zq_lt (s.2.2.1 1 0) 96 h5 rfl (fun k => ?_) (fun k => ?_)
  · exact fw_sub2 (main 0 (by simp [k])) (by rfl) (by rfl) rfl
  · exact fw_sub2 (main 6 (by rw [if_neg (by omega)])) (by rfl) (by rfl) rfl
theorem cs_same (h : zc_at s I) (w : Int32) : zs_c X l mX5_same [.ref 0, .int w] I (zo_same s w) := by
  have hl := h.2.1
  have hP := hl.2.1.1
  have h9 := hl.2.2.2.2.2.1
  refine fw_enter [25] 100 ok_X5_same ⟨_, wc_X5_same⟩ rfl rfl rfl ?_
  refine ⟨_, ct_oth (X := X) (l := l) (I := I) w 1, ?_⟩
  rintro v' σ' ⟨rfl, rfl⟩
  refine zq_br (zn_g0 zk_oth_le) (fun hk => ?_) (fun hk => ?_)
  · obtain ⟨u, hu, rfl⟩ := zk_oth_sp hk
    have eu := nI_clamp (n := u) (by omega)
    simp only [zo_same, hk, eu, if_true]
    have outer := zl_down (N := s.1 9 0) (G := fun a => ∀ v6, fw_Go X l mX5_same (fun r σ => r = some (.int (if u = 0 then nI (zp_cf (zp_pair s.1) 100).1 else z9_I (zp_cf (zp_pair s.1) 100).2)) ∧ ∃ I', σ = (fw_sh, I') ∧ zc_at s I' ∧ zf_hi I I') 25 0 0 [some (.ref 0), some (.int (nI u)), some (.int (zn_g 0)), some (.int (nI (zp_cf (zp_pair s.1) (11 * a)).1)), some (.int (z9_I (zp_cf (zp_pair s.1) (11 * a)).2)), some (.int (nI a)), v6] [] (fw_sh, I)) (by
      intro v6
      have e : zp_cf (zp_pair s.1) 100 = zp_cf (zp_pair s.1) (11 * s.1 9 0) := zp_cf_to (by omega) (fun k hk hk2 => by simp only [zp_pair]; rw [show decide (k / 10 < k % 10 ∧ k % 10 < s.1 9 0) = false by simp; omega]; rfl)
      refine fw_from [25] 100 16 ok_X5_same ⟨_, wc_X5_same⟩ rfl ?_
      refine zq_le (s.1 9 0) (s.1 9 0) h9 rfl (fun _ => ?_) (fun h => absurd h (by omega))
      rw [e]
      refine zq_ne u 0 rfl rfl (fun k => ?_) (fun k => ?_)
      · exact ⟨by simp [k], I, rfl, h, zf_hi.rf⟩
      · exact ⟨by simp [k], I, rfl, h, zf_hi.rf⟩) (fun a ha ih => by
      intro v6
      have inner := zl_down (N := s.1 9 0) (G := fun b => a < b → fw_Go X l mX5_same (fun r σ => r = some (.int (if u = 0 then nI (zp_cf (zp_pair s.1) 100).1 else z9_I (zp_cf (zp_pair s.1) 100).2)) ∧ ∃ I', σ = (fw_sh, I') ∧ zc_at s I' ∧ zf_hi I I') 43 0 0 [some (.ref 0), some (.int (nI u)), some (.int (zn_g 0)), some (.int (nI (zp_cf (zp_pair s.1) (10 * a + b)).1)), some (.int (z9_I (zp_cf (zp_pair s.1) (10 * a + b)).2)), some (.int (nI a)), some (.int (nI b))] [] (fw_sh, I)) (by
        intro hab
        have e : zp_cf (zp_pair s.1) (11 * (a + 1)) = zp_cf (zp_pair s.1) (10 * a + s.1 9 0) := zp_cf_to (by omega) (fun k hk hk2 => by simp only [zp_pair]; rw [show decide (k / 10 < k % 10 ∧ k % 10 < s.1 9 0) = false by simp; omega]; rfl)
        refine fw_from [25, 43] 100 25 ok_X5_same ⟨_, wc_X5_same⟩ rfl ?_
        refine zq_le (s.1 9 0) (s.1 9 0) h9 rfl (fun _ => ?_) (fun h => absurd h (by omega))
        exact fw_sub (ih (some (.int (nI (s.1 9 0))))) (by rw [e]; simp only [nI_1]) rfl) (fun b hb ihb => by
        intro hab
        have hle := zp_cf_le (zp_pair s.1) (10 * a + b)
        have hpr : zp_pair s.1 (10 * a + b) = zl_ovl s.1 a b 36 := by
          simp only [zp_pair, show (10 * a + b) / 10 = a by omega, show (10 * a + b) % 10 = b by omega, hab, hb, and_self, decide_true, Bool.true_and]
        have e1 : 10 * a + (b + 1) = (10 * a + b) + 1 := by omega
        refine fw_from [25, 43] 100 25 ok_X5_same ⟨_, wc_X5_same⟩ rfl ?_
        refine zq_le (s.1 9 0) b h9 rfl (fun h => absurd h (by omega)) (fun _ => ?_)
        refine ⟨_, ct_overlap (X := X) (l := l) hl ha hb, ?_⟩
        rintro v' σ' ⟨rfl, rfl⟩
        refine zq_br (zi_eq0 _) (fun k => ?_) (fun k => ?_)
        · exact fw_sub (ihb (by omega)) (by rw [e1]; simp [zp_cf, hpr, k, nI_1]) rfl
        · have k : zl_ovl s.1 a b 36 = true := by simpa using k
          refine zq_ne (zp_cf (zp_pair s.1) (10 * a + b)).1 0 rfl rfl (fun k2 => ?_) (fun k2 => ?_)
          · exact fw_sub (ihb (by omega)) (by rw [e1]; simp [zp_cf, hpr, k, k2, nI_1]) rfl
          · exact fw_sub (ihb (by omega)) (by rw [e1]; simp [zp_cf, hpr, k, k2, nI_1, z9_I, show (10 : Int32) = nI 10 from rfl, pk_mul, nI_add]) rfl)
      have e : zp_cf (zp_pair s.1) (11 * a) = zp_cf (zp_pair s.1) (10 * a + (a + 1)) := (zp_cf_to (by omega) (fun k hk hk2 => by simp only [zp_pair]; rw [show decide (k / 10 < k % 10 ∧ k % 10 < s.1 9 0) = false by simp; omega]; rfl)).symm
      refine fw_from [43] 100 16 ok_X5_same ⟨_, wc_X5_same⟩ rfl ?_
      refine zq_le (s.1 9 0) a h9 rfl (fun h => absurd h (by omega)) (fun _ => ?_)
      exact fw_sub (inner (a + 1) (by omega) (by omega)) (by rw [e]; simp only [nI_1]) rfl)
    exact fw_sub (outer 0 (Nat.zero_le _) none) (by rfl) rfl
  · have e : zo_same s w = zx_no s (zk_oth w 1) := by simp [zo_same, hk]
    refine ⟨_, ct_no (X := X) (l := l) h (by omega) zk_oth_le, fun v σ' hq => ?_⟩
    obtain ⟨rfl, I', rfl, h1, h2⟩ := hq
    exact zc_end e ⟨rfl, I', rfl, h1, h2⟩
theorem ct_grew (h : zc_at s I) {y k f : Nat} (hy : y < 36) (ho : zl_ow s.1 6 y < s.1 9 0) (hk : k ≤ 5) (hf : f ≤ 9) : zs_p X l mX5_grewAsTold [.ref 0, .int (nI y), .int (nI k), .int (nI f)] I (zi (zw_so s y k f)) := by
  have hl := h.2.1
  have hP := hl.2.1.1
  have hd := h.1.1
  have h7 := h.2.2.2.2.2.2.1
  have hn := h.1.2.2.2.2.1
  have ht := h.1.2.2.2.2.2.1
  have h8 := h.2.2.2.2.2.2.2.1
  have g0 := hl.2.1.2.2.1 y hy
  have oI : I 3 y = nI (zl_ow s.1 6 y) := by rw [hl.2.2.2.1 y hy, zo_some ho]
  have w7 := (hl.2.1.2.2.2 _ ho).2.2.2.2.2.2.2
  have loop : ∀ lies, lies = 1 - s.1 7 (zl_ow s.1 6 y) → ∀ a, a ≤ s.2.2.1 3 0 → zw_all (fun a => decide (s.2.2.1 4 a = zw_v (s.1 0 y) k f (s.1 10 0) lies a)) a = true → ∀ v8, fw_Go X l mX5_grewAsTold (fun r σ => r = some (.int (zi (zw_so s y k f))) ∧ σ = (fw_sh, I)) 51 0 0 [some (.ref 0), some (.int (nI y)), some (.int (nI k)), some (.int (nI f)), some (.int (nI (zl_ow s.1 6 y))), some (.int (nI lies)), some (.int (nI (zw_v (s.1 0 y) k f (s.1 10 0) lies a))), some (.int (nI a)), v8] [] (fw_sh, I) := by
    intro lies hlies
    refine zl_down (N := s.2.2.1 3 0) (G := fun a => zw_all (fun a => decide (s.2.2.1 4 a = zw_v (s.1 0 y) k f (s.1 10 0) lies a)) a = true → ∀ v8, fw_Go X l mX5_grewAsTold (fun r σ => r = some (.int (zi (zw_so s y k f))) ∧ σ = (fw_sh, I)) 51 0 0 [some (.ref 0), some (.int (nI y)), some (.int (nI k)), some (.int (nI f)), some (.int (nI (zl_ow s.1 6 y))), some (.int (nI lies)), some (.int (nI (zw_v (s.1 0 y) k f (s.1 10 0) lies a))), some (.int (nI a)), v8] [] (fw_sh, I)) ?_ (fun a ha ih => ?_)
    · intro hall v8
      refine fw_from [51] 100 27 ok_X5_grewAsTold ⟨_, wc_X5_grewAsTold⟩ rfl ?_
      refine zq_le (s.2.2.1 3 0) (s.2.2.1 3 0) h7 rfl (fun _ => ?_) (fun h => absurd h (by omega))
      refine ⟨by decide, ?_, rfl⟩
      rw [hlies] at hall
      simp only [zw_so]
      rw [hall]; rfl
    · intro hall v8
      have hv := zw_v_le (k := k) (f := f) (day := s.1 10 0) (lies := lies) g0 a
      have hta := ht a
      refine fw_from [51] 100 27 ok_X5_grewAsTold ⟨_, wc_X5_grewAsTold⟩ rfl ?_
      refine zq_le (s.2.2.1 3 0) a h7 rfl (fun h => absurd h (by omega)) (fun _ => ?_)
      refine And.intro (fw_in1 a 16 (by omega)) ?_
      refine zq_eq (s.2.2.1 4 a) (zw_v (s.1 0 y) k f (s.1 10 0) lies a) (zq_rd (h8 a ha)) rfl (fun e => ?_) (fun e => ?_)
      · have hall' : zw_all (fun a => decide (s.2.2.1 4 a = zw_v (s.1 0 y) k f (s.1 10 0) lies a)) (a + 1) = true := by
          simp only [zw_all, hall, Bool.true_and]; simpa using e
        have ih' := ih hall'
        refine zq_eq lies 0 rfl rfl (fun z => ?_) (fun z => ?_)
        · refine fw_sub (ih' (some (.int (nI 0)))) ?_ rfl
          have := zq_min9 (a := zw_v (s.1 0 y) k f (s.1 10 0) lies a) (t := 0) (by omega) (by omega)
          simp only [show (0 : Int32) = nI 0 from rfl] at this ⊢
          rw [this]
          simp only [nI_1, zw_v, show ¬ lies = 1 by omega, if_false]
        · have z1 : lies = 1 := by omega
          have c2 := ct_ofKind (X := X) (l := l) (I := I) k f (s.1 10 0 + a + 1) hk hf (by omega)
          rw [← nI_1, ← nI_add, ← hl.2.2.2.2.2.2.1] at c2
          have hg := zl_gr_le (k := k) (d := s.1 10 0 + a + 1) hf
          refine ⟨_, c2, ?_⟩
          rintro v' σ' ⟨rfl, rfl⟩
          refine fw_sub (ih' (some (.int (nI (zl_gr k f (s.1 10 0 + a + 1)))))) ?_ rfl
          have := zq_min9 (a := zw_v (s.1 0 y) k f (s.1 10 0) lies a) (t := zl_gr k f (s.1 10 0 + a + 1)) (by omega) (by omega)
          rw [this]
          simp only [nI_1, zw_v, z1, if_true]
      · refine ⟨by decide, ?_, rfl⟩
        rw [hlies] at e
        simp only [zw_so]
        rw [zw_all_f (k := a) (by simpa using e) _ ha]; rfl
  have tail : ∀ lies, lies = 1 - s.1 7 (zl_ow s.1 6 y) → fw_Go X l mX5_grewAsTold (fun r σ => r = some (.int (zi (zw_so s y k f))) ∧ σ = (fw_sh, I)) 35 0 0 [some (.ref 0), some (.int (nI y)), some (.int (nI k)), some (.int (nI f)), some (.int (nI (zl_ow s.1 6 y))), none, none, none, none] [.int (nI lies)] (fw_sh, I) := by
    intro lies hlies
    refine fw_from [51] 100 18 ok_X5_grewAsTold ⟨_, wc_X5_grewAsTold⟩ rfl ?_
    refine And.intro (fw_in1 y 36 hy) ?_
    refine fw_sub (loop lies hlies 0 (Nat.zero_le _) rfl none) ?_ rfl
    dsimp only
    rw [show I 2 (nI y).toNatClampNeg = nI (s.1 0 y) from zq_rd (hl.2.2.1 y hy)]; rfl
  refine fw_enter [35] 100 ok_X5_grewAsTold ⟨_, wc_X5_grewAsTold⟩ rfl rfl rfl ?_
  refine And.intro (fw_in1 y 36 hy) ?_
  have o2 : I 3 (nI y).toNatClampNeg = nI (zl_ow s.1 6 y) := zq_rd oI
  refine And.intro (fun z => absurd (o2.symm.trans z) (nI_m1 (by omega))) (fun _ => ?_)
  refine And.intro (fw_in1 (zl_ow s.1 6 y) 6 (by omega) o2) ?_
  refine zq_ne (s.1 7 (zl_ow s.1 6 y)) 0 ?_ rfl (fun z => ?_) (fun z => ?_)
  · show I 9 (I 3 (nI y).toNatClampNeg).toNatClampNeg = _
    rw [o2]; exact zq_rd (hl.2.2.2.2.1 7 (by omega) (by omega) _ ho)
  · exact fw_sub2 (tail 0 (by omega)) (by dsimp only; rw [o2]; rfl) (by rfl) rfl
  · exact fw_sub2 (tail 1 (by omega)) (by dsimp only; rw [o2]; rfl) (by rfl) rfl
theorem ct_kinds (h : zc_at s I) {y : Nat} (hy : y < 36) (ho : zl_ow s.1 6 y < s.1 9 0) : zs_p X l mX5_kindsAsTold [.ref 0, .int (nI y)] I (nI (zw_bits (fun v => zw_so s y v (s.1 3 (zl_ow s.1 6 y))) 6)) := by
  have hl := h.2.1
  have hP := hl.2.1.1
  have o2 : I 3 (nI y).toNatClampNeg = nI (zl_ow s.1 6 y) := zq_rd (by rw [hl.2.2.2.1 y hy, zo_some ho])
  have w := hl.2.1.2.2.2 _ ho
  have f3 := zq_rd (hl.2.2.2.2.1 3 (by omega) (by omega) _ ho)
  have loop := zl_down (N := 6) (G := fun v => fw_Go X l mX5_kindsAsTold (fun r σ => r = some (.int (nI (zw_bits (fun v => zw_so s y v (s.1 3 (zl_ow s.1 6 y))) 6))) ∧ σ = (fw_sh, I)) 15 0 0 [some (.ref 0), some (.int (nI y)), some (.int (nI (zl_ow s.1 6 y))), some (.int (nI (zw_bits (fun v => zw_so s y v (s.1 3 (zl_ow s.1 6 y))) v))), some (.int (nI v))] [] (fw_sh, I)) (by
    refine fw_from [15] 100 10 ok_X5_kindsAsTold ⟨_, wc_X5_kindsAsTold⟩ rfl ?_
    refine zq_le 6 6 rfl rfl (fun _ => ?_) (fun h => absurd h (by omega))
    exact ⟨rfl, rfl⟩) (fun v hv ih => by
    refine fw_from [15] 100 10 ok_X5_kindsAsTold ⟨_, wc_X5_kindsAsTold⟩ rfl ?_
    refine zq_le 6 v rfl rfl (fun h => absurd h (by omega)) (fun _ => ?_)
    refine And.intro (fun z => absurd z (nI_m1 (by omega))) (fun _ => ?_)
    refine And.intro (fw_in1 (zl_ow s.1 6 y) 6 (by omega)) ?_
    have c1 := ct_grew (X := X) (l := l) h hy ho (k := v) (f := s.1 3 (zl_ow s.1 6 y)) (by omega) w.2.1
    rw [show s.1 3 (zl_ow s.1 6 y) = s.1 3 (zl_ow s.1 6 y) from rfl, ← f3] at c1
    refine ⟨_, c1, ?_⟩
    rintro v' σ' ⟨rfl, rfl⟩
    refine zq_br (zi_eq0 _) (fun k => ?_) (fun k => ?_)
    · exact fw_sub ih (by simp [zw_bits, zm_s, k, nI_1]) rfl
    · have k : zw_so s y v (s.1 3 (zl_ow s.1 6 y)) = true := by simpa using k
      exact fw_sub ih (by rw [zb_or10 v (by omega) _ (zw_bits_lt _ v), nI_1]; simp [zw_bits, zm_s, k]) rfl)
  refine fw_enter [15] 100 ok_X5_kindsAsTold ⟨_, wc_X5_kindsAsTold⟩ rfl rfl rfl ?_
  refine And.intro (fw_in1 y 36 hy) ?_
  exact fw_sub (loop 0 (by omega)) (by dsimp only; rw [o2]; rfl) rfl
theorem ct_figures (h : zc_at s I) {y : Nat} (hy : y < 36) (ho : zl_ow s.1 6 y < s.1 9 0) : zs_p X l mX5_figuresAsTold [.ref 0, .int (nI y)] I (nI (zw_bits (fun v => zw_so s y (s.1 2 (zl_ow s.1 6 y)) v) 10)) := by
  have hl := h.2.1
  have hP := hl.2.1.1
  have o2 : I 3 (nI y).toNatClampNeg = nI (zl_ow s.1 6 y) := zq_rd (by rw [hl.2.2.2.1 y hy, zo_some ho])
  have w := hl.2.1.2.2.2 _ ho
  have f3 := zq_rd (hl.2.2.2.2.1 2 (by omega) (by omega) _ ho)
  have loop := zl_down (N := 10) (G := fun v => fw_Go X l mX5_figuresAsTold (fun r σ => r = some (.int (nI (zw_bits (fun v => zw_so s y (s.1 2 (zl_ow s.1 6 y)) v) 10))) ∧ σ = (fw_sh, I)) 15 0 0 [some (.ref 0), some (.int (nI y)), some (.int (nI (zl_ow s.1 6 y))), some (.int (nI (zw_bits (fun v => zw_so s y (s.1 2 (zl_ow s.1 6 y)) v) v))), some (.int (nI v))] [] (fw_sh, I)) (by
    refine fw_from [15] 100 10 ok_X5_figuresAsTold ⟨_, wc_X5_figuresAsTold⟩ rfl ?_
    refine zq_lt 9 10 rfl rfl (fun _ => ?_) (fun h => absurd h (by omega))
    exact ⟨rfl, rfl⟩) (fun v hv ih => by
    refine fw_from [15] 100 10 ok_X5_figuresAsTold ⟨_, wc_X5_figuresAsTold⟩ rfl ?_
    refine zq_lt 9 v rfl rfl (fun h => absurd h (by omega)) (fun _ => ?_)
    refine And.intro (fun z => absurd z (nI_m1 (by omega))) (fun _ => ?_)
    refine And.intro (fw_in1 (zl_ow s.1 6 y) 6 (by omega)) ?_
    have c1 := ct_grew (X := X) (l := l) h hy ho (k := s.1 2 (zl_ow s.1 6 y)) (f := v) w.1 (by omega)
    rw [← f3] at c1
    refine ⟨_, c1, ?_⟩
    rintro v' σ' ⟨rfl, rfl⟩
    refine zq_br (zi_eq0 _) (fun k => ?_) (fun k => ?_)
    · exact fw_sub ih (by simp [zw_bits, zm_s, k, nI_1]) rfl
    · have k : zw_so s y (s.1 2 (zl_ow s.1 6 y)) v = true := by simpa using k
      exact fw_sub ih (by rw [zb_or10 v (by omega) _ (zw_bits_lt _ v), nI_1]; simp [zw_bits, zm_s, k]) rfl)
  refine fw_enter [15] 100 ok_X5_figuresAsTold ⟨_, wc_X5_figuresAsTold⟩ rfl rfl rfl ?_
  refine And.intro (fw_in1 y 36 hy) ?_
  exact fw_sub (loop 0 (by omega)) (by dsimp only; rw [o2]; rfl) rfl
theorem cs_what (h : zc_at s I) (y w : Int32) : zs_c X l mX5_whatWas [.ref 0, .int y, .int w] I (zo_what s y w) := by
  have hl := h.2.1
  have hP := hl.2.1.1
  have no : ∀ c, 1 ≤ c → c ≤ 6 → zo_what s y w = zx_no s c → fw_Go X l mX5_whatWas (fun r σ => r = some (.int (zo_what s y w).1) ∧ ∃ I', σ = (fw_sh, I') ∧ zc_at (zo_what s y w).2 I' ∧ zf_hi I I') 38 0 0 [some (.ref 0), some (.int y), some (.int w), none] [.int (zn_g c)] (fw_sh, I) := by
    intro c hc1 hc6 e
    refine fw_from [] 100 19 ok_X5_whatWas ⟨_, wc_X5_whatWas⟩ rfl ?_
    refine zq_br (zn_g0 hc6) (fun z => absurd z (by omega)) (fun _ => ?_)
    refine ⟨_, ct_no (X := X) (l := l) h hc1 hc6, fun v σ' hq => ?_⟩
    obtain ⟨rfl, I', rfl, h1, h2⟩ := hq
    exact zc_end e ⟨rfl, I', rfl, h1, h2⟩
  refine fw_enter [35, 38] 100 ok_X5_whatWas ⟨_, wc_X5_whatWas⟩ rfl rfl rfl ?_
  refine ⟨_, ct_isYard (X := X) (l := l) (I := I) y, ?_⟩
  rintro v σ' ⟨rfl, rfl⟩
  refine zq_brn (zi_eq0 _) (fun g => ?_) (fun g => ?_)
  · have g : zb_in y 36 = true := by simpa using g
    obtain ⟨q, hq, rfl⟩ := zb_in_of g (by omega)
    have ec := nI_clamp (n := q) (by omega)
    refine ⟨_, ct_oth (X := X) (l := l) (I := I) w 1, ?_⟩
    rintro v' σ' ⟨rfl, rfl⟩
    have main : ∀ c3, c3 = (if zl_ow s.1 6 q < s.1 9 0 then 0 else 3) → fw_Go X l mX5_whatWas (fun r σ => r = some (.int (zo_what s (nI q) w).1) ∧ ∃ I', σ = (fw_sh, I') ∧ zc_at (zo_what s (nI q) w).2 I' ∧ zf_hi I I') 35 0 0 [some (.ref 0), some (.int (nI q)), some (.int w), none] [.int (zn_g c3), .int (zn_g (zk_oth w 1))] (fw_sh, I) := by
      intro c3 hc3
      have hc6 : c3 ≤ 6 := by split at hc3 <;> omega
      refine fw_from [38] 100 18 ok_X5_whatWas ⟨_, wc_X5_whatWas⟩ rfl ?_
      refine ⟨_, ct_first (X := X) (l := l) (I := I) zk_oth_le, ?_⟩
      rintro v' σ' ⟨rfl, rfl⟩
      by_cases hk : zk_first (zk_oth w 1) c3 = 0
      · obtain ⟨hk1, hk2⟩ := zk_first0 hk
        have ho : zl_ow s.1 6 q < s.1 9 0 := by
          rw [hk2] at hc3
          split at hc3
          · assumption
          · cases hc3
        obtain ⟨u, hu, rfl⟩ := zk_oth_sp hk1
        have eu := nI_clamp (n := u) (by omega)
        rw [hk]
        refine fw_from [] 100 19 ok_X5_whatWas ⟨_, wc_X5_whatWas⟩ rfl ?_
        refine zq_br (zn_g0 (show 0 ≤ 6 by omega)) (fun _ => ?_) (fun z => absurd rfl z)
        rw [hc3] at hk
        simp only [zo_what, g, ec, hk, eu, if_true]
        refine zq_ne u 0 rfl rfl (fun k => ?_) (fun k => ?_)
        · refine ⟨_, ct_figures (X := X) (l := l) h hq ho, ?_⟩
          rintro v' σ' ⟨rfl, rfl⟩
          simp only [k, if_false]
          exact ⟨rfl, I, rfl, h, zf_hi.rf⟩
        · refine ⟨_, ct_kinds (X := X) (l := l) h hq ho, ?_⟩
          rintro v' σ' ⟨rfl, rfl⟩
          simp only [k, if_true]
          exact ⟨rfl, I, rfl, h, zf_hi.rf⟩
      · exact fw_sub2 (no (zk_first (zk_oth w 1) c3) (by omega) (zk_first_le zk_oth_le hc6) (by rw [hc3] at hk ⊢; simp only [zo_what, g, ec, hk, if_true, if_false])) (by rfl) (by rfl) rfl
    refine And.intro (fw_in1 q 36 hq) ?_
    refine zq_brn (c := I 3 _ = -1) (d := ¬ zl_ow s.1 6 q < s.1 9 0) ?_ (fun k => ?_) (fun k => ?_)
    · rw [zq_rd (hl.2.2.2.1 q hq), zo_eq1 hP]
    · exact fw_sub2 (main 0 (by rw [if_pos (Decidable.not_not.mp k)])) (by rfl) (by rfl) rfl
    · exact fw_sub2 (main 3 (by rw [if_neg k])) (by rfl) (by rfl) rfl
  · exact fw_sub2 (no 1 (by omega) (by omega) (by simp [zo_what, g])) (by rfl) (by rfl) rfl
end zC13
