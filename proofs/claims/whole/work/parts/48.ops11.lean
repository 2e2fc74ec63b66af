/-- how often it must be trod: j days left, the next a, so much grown, so often trod -/
def zt_c (gr : Nat → Nat) : Nat → Nat → Nat → Nat → Nat
  | 0, _, _, m => m
  | j + 1, a, g, m => if 9 ≤ g + gr a then zt_c gr j (a + 1) (gr a) (m + 1) else zt_c gr j (a + 1) (g + gr a) m
/-- the day of the first treading, 0 if none -/
def zt_f (gr : Nat → Nat) : Nat → Nat → Nat → Nat
  | 0, _, _ => 0
  | j + 1, a, g => if 9 ≤ g + gr a then a else zt_f gr j (a + 1) (g + gr a)
def zt_cnt (L : Nat → Nat → Nat) (ow : Nat → Nat) (p n : Nat) : Nat := if zl_mx (fun y => ow y = p) (fun y => L 0 y) 36 = 0 then 0 else zt_c (fun a => zl_on L p (L 10 0 + a)) n 1 (zl_mx (fun y => ow y = p) (fun y => L 0 y) 36 - 1) 0
def zt_fst (L : Nat → Nat → Nat) (ow : Nat → Nat) (p n : Nat) : Nat := if zl_mx (fun y => ow y = p) (fun y => L 0 y) 36 = 0 then 0 else zt_f (fun a => zl_on L p (L 10 0 + a)) n 1 (zl_mx (fun y => ow y = p) (fun y => L 0 y) 36 - 1)
def zo_tread (s : zS) (p n w : Int32) : Int32 × zS :=
  if zb_in p (s.1 9 0) then (if zk_first (zk_out n 0 40) (zk_first (zk_oth w 1) (if s.1 7 p.toNatClampNeg = 0 then 0 else 3)) = 0 then ((if w.toNatClampNeg = 0 then nI (zt_cnt s.1 (zl_ow s.1 6) p.toNatClampNeg n.toNatClampNeg) else if zt_fst s.1 (zl_ow s.1 6) p.toNatClampNeg n.toNatClampNeg = 0 then -9 else nI (zt_fst s.1 (zl_ow s.1 6) p.toNatClampNeg n.toNatClampNeg)), s) else zx_no s (zk_first (zk_out n 0 40) (zk_first (zk_oth w 1) (if s.1 7 p.toNatClampNeg = 0 then 0 else 3)))) else zx_no s 1
section zC11
variable {X : Nat × (Nat → Int32)} {l : Launch} {I : Nat → Nat → Int32} {s : zS}
theorem ct_countTr (h : zc_at s I) {p n : Nat} (hp : p < s.1 9 0) (hn : n ≤ 40) : zs_p X l mX5_countTreadings [.ref 0, .int (nI p), .int (nI n)] I (nI (zt_cnt s.1 (zl_ow s.1 6) p n)) := by
  have hl := h.2.1
  have hd := h.1.1
  have hm := zl_mx_le (fun y => zl_ow s.1 6 y = p) (g := fun y => s.1 0 y) (b := 9) 36 (fun k hk => hl.2.1.2.2.1 k hk)
  have loop : ∀ j a g m v6, a + j = n + 1 → 1 ≤ a → g ≤ 12 → m ≤ a → fw_Go X l mX5_countTreadings (fun r σ => r = some (.int (nI (zt_c (fun a => zl_on s.1 p (s.1 10 0 + a)) j a g m))) ∧ σ = (fw_sh, I)) 15 0 0 [some (.ref 0), some (.int (nI p)), some (.int (nI n)), some (.int (nI m)), some (.int (nI g)), some (.int (nI a)), v6] [] (fw_sh, I) := by
    intro j
    induction j with
    | zero =>
      intro a g m v6 ha ha1 hg hma
      refine fw_from [15] 100 9 ok_X5_countTreadings ⟨_, wc_X5_countTreadings⟩ rfl ?_
      refine zq_lt n a rfl rfl (fun _ => ?_) (fun z => absurd z (by omega))
      exact ⟨rfl, rfl⟩
    | succ j ih =>
      intro a g m v6 ha ha1 hg hma
      have hon := zl_on_le hl hp (s.1 10 0 + a)
      have c1 := ct_growthOn (X := X) (l := l) hl hp (day := s.1 10 0 + a) (by omega)
      rw [← nI_add, ← hl.2.2.2.2.2.2.1] at c1
      refine fw_from [15] 100 9 ok_X5_countTreadings ⟨_, wc_X5_countTreadings⟩ rfl ?_
      refine zq_lt n a rfl rfl (fun z => absurd z (by omega)) (fun _ => ?_)
      refine And.intro (fun z => absurd z (nI_m1 (by omega))) (fun _ => ?_)
      refine ⟨_, c1, ?_⟩
      rintro v σ' ⟨rfl, rfl⟩
      refine zq_lt (g + zl_on s.1 p (s.1 10 0 + a)) 9 (nI_add _ _) rfl (fun k => ?_) (fun k => ?_)
      · have e := ih (a + 1) (g + zl_on s.1 p (s.1 10 0 + a)) m (some (.int (nI (zl_on s.1 p (s.1 10 0 + a))))) (by omega) (by omega) (by omega) (by omega)
        simp only [zt_c, show ¬ 9 ≤ g + zl_on s.1 p (s.1 10 0 + a) by omega, if_false]
        exact fw_sub e (by simp only [nI_1, nI_add]) rfl
      · have e := ih (a + 1) (zl_on s.1 p (s.1 10 0 + a)) (m + 1) (some (.int (nI (zl_on s.1 p (s.1 10 0 + a))))) (by omega) (by omega) (by omega) (by omega)
        simp only [zt_c, show 9 ≤ g + zl_on s.1 p (s.1 10 0 + a) by omega, if_true]
        exact fw_sub e (by simp only [nI_1, show (0 : Int32) = nI 0 from rfl, nI_add, Nat.zero_add]) rfl
  refine fw_enter [15] 100 ok_X5_countTreadings ⟨_, wc_X5_countTreadings⟩ rfl rfl rfl ?_
  refine ⟨_, ct_mostGrownOn (X := X) (l := l) hl hp, ?_⟩
  rintro v σ' ⟨rfl, rfl⟩
  by_cases hz : zl_mx (fun y => zl_ow s.1 6 y = p) (fun y => s.1 0 y) 36 = 0
  · simp only [zt_cnt, hz, if_true]
    refine fw_from [] 100 9 ok_X5_countTreadings ⟨_, wc_X5_countTreadings⟩ rfl ?_
    refine zq_lt n 1 rfl rfl (fun _ => ?_) (fun _ => ?_)
    · exact ⟨rfl, rfl⟩
    · refine And.intro (fun _ => ?_) (fun z => absurd rfl z)
      exact ⟨rfl, rfl⟩
  · have e2 : zp_I (zl_mx (fun y => zl_ow s.1 6 y = p) (fun y => s.1 0 y) 36) = nI (zl_mx (fun y => zl_ow s.1 6 y = p) (fun y => s.1 0 y) 36 - 1) := by simp [zp_I, hz]
    rw [e2]
    simp only [zt_cnt, hz, if_false]
    exact fw_sub (loop n 1 (zl_mx (fun y => zl_ow s.1 6 y = p) (fun y => s.1 0 y) 36 - 1) 0 none (by omega) (by omega) (by omega) (by omega)) (by rfl) rfl
theorem ct_firstTr (h : zc_at s I) {p n : Nat} (hp : p < s.1 9 0) (hn : n ≤ 40) : zs_p X l mX5_firstTreading [.ref 0, .int (nI p), .int (nI n)] I (if zt_fst s.1 (zl_ow s.1 6) p n = 0 then -9 else nI (zt_fst s.1 (zl_ow s.1 6) p n)) := by
  have hl := h.2.1
  have hd := h.1.1
  have hm := zl_mx_le (fun y => zl_ow s.1 6 y = p) (g := fun y => s.1 0 y) (b := 9) 36 (fun k hk => hl.2.1.2.2.1 k hk)
  have loop : ∀ j a g, a + j = n + 1 → 1 ≤ a → g ≤ 12 → fw_Go X l mX5_firstTreading (fun r σ => r = some (.int (if zt_f (fun a => zl_on s.1 p (s.1 10 0 + a)) j a g = 0 then -9 else nI (zt_f (fun a => zl_on s.1 p (s.1 10 0 + a)) j a g))) ∧ σ = (fw_sh, I)) 12 0 0 [some (.ref 0), some (.int (nI p)), some (.int (nI n)), some (.int (nI g)), some (.int (nI a))] [] (fw_sh, I) := by
    intro j
    induction j with
    | zero =>
      intro a g ha ha1 hg
      refine fw_from [12] 100 7 ok_X5_firstTreading ⟨_, wc_X5_firstTreading⟩ rfl ?_
      refine zq_lt n a rfl rfl (fun _ => ?_) (fun z => absurd z (by omega))
      exact ⟨rfl, rfl⟩
    | succ j ih =>
      intro a g ha ha1 hg
      have hon := zl_on_le hl hp (s.1 10 0 + a)
      have c1 := ct_growthOn (X := X) (l := l) hl hp (day := s.1 10 0 + a) (by omega)
      rw [← nI_add, ← hl.2.2.2.2.2.2.1] at c1
      refine fw_from [12] 100 7 ok_X5_firstTreading ⟨_, wc_X5_firstTreading⟩ rfl ?_
      refine zq_lt n a rfl rfl (fun z => absurd z (by omega)) (fun _ => ?_)
      refine And.intro (fun z => absurd z (nI_m1 (by omega))) (fun _ => ?_)
      refine ⟨_, c1, ?_⟩
      rintro v σ' ⟨rfl, rfl⟩
      refine zq_lt (g + zl_on s.1 p (s.1 10 0 + a)) 9 (nI_add _ _) rfl (fun k => ?_) (fun k => ?_)
      · have e := ih (a + 1) (g + zl_on s.1 p (s.1 10 0 + a)) (by omega) (by omega) (by omega)
        simp only [zt_f, show ¬ 9 ≤ g + zl_on s.1 p (s.1 10 0 + a) by omega, if_false]
        exact fw_sub e (by simp only [nI_1, nI_add]) rfl
      · simp only [zt_f, show 9 ≤ g + zl_on s.1 p (s.1 10 0 + a) by omega, if_true, show ¬ a = 0 by omega, if_false]
        exact ⟨rfl, rfl⟩
  refine fw_enter [12] 100 ok_X5_firstTreading ⟨_, wc_X5_firstTreading⟩ rfl rfl rfl ?_
  refine ⟨_, ct_mostGrownOn (X := X) (l := l) hl hp, ?_⟩
  rintro v σ' ⟨rfl, rfl⟩
  by_cases hz : zl_mx (fun y => zl_ow s.1 6 y = p) (fun y => s.1 0 y) 36 = 0
  · simp only [zt_fst, hz, if_true]
    refine fw_from [] 100 7 ok_X5_firstTreading ⟨_, wc_X5_firstTreading⟩ rfl ?_
    refine zq_lt n 1 rfl rfl (fun _ => ?_) (fun _ => ?_)
    · exact ⟨rfl, rfl⟩
    · refine And.intro (fun _ => ?_) (fun z => absurd rfl z)
      exact ⟨rfl, rfl⟩
  · have e2 : zp_I (zl_mx (fun y => zl_ow s.1 6 y = p) (fun y => s.1 0 y) 36) = nI (zl_mx (fun y => zl_ow s.1 6 y = p) (fun y => s.1 0 y) 36 - 1) := by simp [zp_I, hz]
    rw [e2]
    simp only [zt_fst, hz, if_false]
    exact fw_sub (loop n 1 (zl_mx (fun y => zl_ow s.1 6 y = p) (fun y => s.1 0 y) 36 - 1) (by omega) (by omega) (by omega)) (by rfl) rfl
theorem cs_tread (h : zc_at s I) (p n w : Int32) : zs_c X l mX5_treadings [.ref 0, .int p, .int n, .int w] I (zo_tread s p n w) := by
  have hl := h.2.1
  have hP := hl.2.1.1
  have c1 := ct_hasPiece (X := X) (l := l) hl p
  have no : ∀ c, 1 ≤ c → c ≤ 6 → zo_tread s p n w = zx_no s c → fw_Go X l mX5_treadings (fun r σ => r = some (.int (zo_tread s p n w).1) ∧ ∃ I', σ = (fw_sh, I') ∧ zc_at (zo_tread s p n w).2 I' ∧ zf_hi I I') 51 0 0 [some (.ref 0), some (.int p), some (.int n), some (.int w), none] [.int (zn_g c)] (fw_sh, I) := by
    intro c hc1 hc6 e
    refine fw_from [] 100 25 ok_X5_treadings ⟨_, wc_X5_treadings⟩ rfl ?_
    refine zq_br (zn_g0 hc6) (fun z => absurd z (by omega)) (fun _ => ?_)
    refine ⟨_, ct_no (X := X) (l := l) h hc1 hc6, fun v σ' hq => ?_⟩
    obtain ⟨rfl, I', rfl, h1, h2⟩ := hq
    exact zc_end e ⟨rfl, I', rfl, h1, h2⟩
  refine fw_enter [45, 51] 100 ok_X5_treadings ⟨_, wc_X5_treadings⟩ rfl rfl rfl ?_
  refine ⟨_, c1, ?_⟩
  rintro v σ' ⟨rfl, rfl⟩
  refine zq_brn (zi_eq0 _) (fun g => ?_) (fun g => ?_)
  · have g : zb_in p (s.1 9 0) = true := by simpa using g
    obtain ⟨q, hq, rfl⟩ := zb_in_of g (by omega)
    have ec := nI_clamp (n := q) (by omega)
    have w7 := hl.2.1.2.2.2 q hq
    refine ⟨_, ct_out (X := X) (l := l) (I := I) n 0 40, ?_⟩
    rintro v' σ' ⟨rfl, rfl⟩
    refine ⟨_, ct_oth (X := X) (l := l) (I := I) w 1, ?_⟩
    rintro v' σ' ⟨rfl, rfl⟩
    have main : ∀ c3, c3 = (if s.1 7 q = 0 then 0 else 3) → fw_Go X l mX5_treadings (fun r σ => r = some (.int (zo_tread s (nI q) n w).1) ∧ ∃ I', σ = (fw_sh, I') ∧ zc_at (zo_tread s (nI q) n w).2 I' ∧ zf_hi I I') 45 0 0 [some (.ref 0), some (.int (nI q)), some (.int n), some (.int w), none] [.int (zn_g c3), .int (zn_g (zk_oth w 1)), .int (zn_g (zk_out n 0 40))] (fw_sh, I) := by
      intro c3 hc3
      have hc6 : c3 ≤ 6 := by split at hc3 <;> omega
      refine fw_from [51] 100 23 ok_X5_treadings ⟨_, wc_X5_treadings⟩ rfl ?_
      refine ⟨_, ct_first (X := X) (l := l) (I := I) zk_oth_le, ?_⟩
      rintro v' σ' ⟨rfl, rfl⟩
      refine ⟨_, ct_first (X := X) (l := l) (I := I) zk_out_le, ?_⟩
      rintro v' σ' ⟨rfl, rfl⟩
      by_cases hk : zk_first (zk_out n 0 40) (zk_first (zk_oth w 1) c3) = 0
      · obtain ⟨hk1, hk2⟩ := zk_first0 hk
        obtain ⟨hk3, hk4⟩ := zk_first0 hk2
        obtain ⟨j, hj1, hj, rfl⟩ := zk_out_sp hk1
        obtain ⟨u, hu, rfl⟩ := zk_oth_sp hk3
        have ej := nI_clamp (n := j) (by omega)
        have eu := nI_clamp (n := u) (by omega)
        rw [hk]
        refine fw_from [] 100 25 ok_X5_treadings ⟨_, wc_X5_treadings⟩ rfl ?_
        refine zq_br (zn_g0 (show 0 ≤ 6 by omega)) (fun _ => ?_) (fun z => absurd rfl z)
        have eo : zo_tread s (nI q) (nI j) (nI u) = ((if u = 0 then nI (zt_cnt s.1 (zl_ow s.1 6) q j) else if zt_fst s.1 (zl_ow s.1 6) q j = 0 then -9 else nI (zt_fst s.1 (zl_ow s.1 6) q j)), s) := by
          rw [hc3] at hk
          simp only [zo_tread, g, ec, hk, ej, eu, if_true]
        rw [eo]
        refine zq_ne u 0 rfl rfl (fun k => ?_) (fun k => ?_)
        · refine ⟨_, ct_firstTr (X := X) (l := l) h hq hj, ?_⟩
          rintro v' σ' ⟨rfl, rfl⟩
          simp only [k, if_false]
          exact ⟨rfl, I, rfl, h, zf_hi.rf⟩
        · refine ⟨_, ct_countTr (X := X) (l := l) h hq hj, ?_⟩
          rintro v' σ' ⟨rfl, rfl⟩
          simp only [k, if_true]
          exact ⟨rfl, I, rfl, h, zf_hi.rf⟩
      · exact fw_sub2 (no (zk_first (zk_out n 0 40) (zk_first (zk_oth w 1) c3)) (by omega) (zk_first_le zk_out_le (zk_first_le zk_oth_le hc6)) (by rw [hc3] at hk ⊢; simp only [zo_tread, g, ec, hk, if_true, if_false])) (by rfl) (by rfl) rfl
    refine And.intro (fw_in1 q 6 (by omega)) ?_
    refine zq_eq (s.1 7 q) 0 (zq_rd (hl.2.2.2.2.1 7 (by omega) (by omega) q hq)) rfl (fun k => ?_) (fun k => ?_)
    · exact fw_sub2 (main 0 (by simp [k])) (by rfl) (by rfl) rfl
    · exact fw_sub2 (main 3 (by simp [k])) (by rfl) (by rfl) rfl
  · exact fw_sub2 (no 1 (by omega) (by omega) (by simp [zo_tread, g])) (by rfl) (by rfl) rfl
end zC11
