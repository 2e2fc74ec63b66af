theorem zl_mv_mx (L : Nat → Nat → Nat) (ow : Nat → Nat) (p : Nat) : ∀ n, zl_mv L ow p n = zl_mx (fun y => ow y = p) (fun y => L 0 y) n - 1
  | 0 => rfl
  | n + 1 => by
    have ih := zl_mv_mx L ow p n
    simp only [zl_mv, zl_mx, ih]
    by_cases h : ow n = p
    · simp only [h, true_and, if_true]
      split <;> split <;> omega
    · simp only [h, false_and, if_false]
theorem zl_mx_many (L : Nat → Nat → Nat) (ow : Nat → Nat) (p : Nat) : ∀ n, zm_s (fun y => if ow y = p then 1 else 0) n = 0 ↔ zl_mx (fun y => ow y = p) (fun y => L 0 y) n = 0
  | 0 => by simp [zm_s, zl_mx]
  | n + 1 => by
    have ih := zl_mx_many L ow p n
    simp only [zm_s, zl_mx]
    by_cases h : ow n = p
    · simp only [h, if_true]
      split <;> omega
    · simp only [h, if_false]; omega
theorem zl_nl_none {L : Nat → Nat → Nat} : ∀ k q, q < L 9 0 → k ≤ L 9 0 → (zl_nl L k q = none ↔ ∀ i, i < k → L 7 ((q + i) % L 9 0) ≠ 0)
  | 0, q, _, _ => by simp [zl_nl]
  | k + 1, q, hq, hk => by
    simp only [zl_nl]
    have hm : q % L 9 0 = q := Nat.mod_eq_of_lt hq
    by_cases h0 : L 7 q = 0
    · rw [if_pos h0]
      constructor
      · intro z; cases z
      · intro z; exact absurd (by rw [Nat.add_zero, hm]; exact h0) (z 0 (by omega))
    · rw [if_neg h0]
      obtain ⟨q', hq'⟩ : ∃ q', q' = if q + 1 < L 9 0 then q + 1 else 0 := ⟨_, rfl⟩
      rw [← hq']
      have hlt : q' < L 9 0 := by rw [hq']; split <;> omega
      have e : ∀ i, (q' + i) % L 9 0 = (q + (i + 1)) % L 9 0 := fun i => by
        rw [hq']
        split
        · rw [show q + 1 + i = q + (i + 1) by omega]
        · have : q + 1 = L 9 0 := by omega
          rw [show q + (i + 1) = L 9 0 + i by omega, Nat.add_mod_left, Nat.zero_add]
      rw [zl_nl_none k q' hlt (by omega)]
      constructor
      · intro z i hi
        cases i with
        | zero => rw [Nat.add_zero, hm]; exact h0
        | succ i => rw [← e]; exact z i (by omega)
      · intro z i hi
        rw [e]; exact z (i + 1) (by omega)
theorem zl_nl_all {L : Nat → Nat → Nat} {q q' : Nat} (hq : q < L 9 0) (hq' : q' < L 9 0) (h : zl_nl L (L 9 0) q = none) : zl_nl L (L 9 0) q' = none := by
  rw [zl_nl_none _ _ hq (Nat.le_refl _)] at h
  rw [zl_nl_none _ _ hq' (Nat.le_refl _)]
  intro i hi
  obtain ⟨r, hr⟩ : ∃ r, r = (q' + i) % L 9 0 := ⟨_, rfl⟩
  rw [← hr]
  have hr1 : r < L 9 0 := by rw [hr]; exact Nat.mod_lt _ (by omega)
  by_cases hle : q ≤ r
  · have := h (r - q) (by omega)
    rw [show q + (r - q) = r by omega, Nat.mod_eq_of_lt hr1] at this
    exact this
  · have := h (r + L 9 0 - q) (by omega)
    rw [show q + (r + L 9 0 - q) = r + L 9 0 by omega, Nat.add_mod_right, Nat.mod_eq_of_lt hr1] at this
    exact this
theorem zl_nl_cong {L L' : Nat → Nat → Nat} (h7 : L' 7 = L 7) (h9 : L' 9 = L 9) : ∀ k q, zl_nl L' k q = zl_nl L k q
  | 0, _ => rfl
  | k + 1, q => by simp only [zl_nl, h7, h9, zl_nl_cong h7 h9 k]
def z9_O (o : Option Nat) : Int32 := match o with
  | some q => nI q
  | none => -9
section zR12
variable {X : Nat × (Nat → Int32)} {l : Launch} {I : Nat → Nat → Int32} {s : zS} {w : Nat} {L : Nat → Nat → Nat}
theorem cm_tread (h : zm_at s I) (p n w : Int32) : zs_m X l mX6_treadings [.ref 38, .int p, .int n, .int w] I (zo_tread s p n w) := by
  have hl := h.2.1
  have hP := hl.1.1
  have hd := h.1.1
  have no : ∀ c, 1 ≤ c → c ≤ 6 → zo_tread s p n w = zx_no s c → fw_Go X l mX6_treadings (fun r σ => r = some (.int (zo_tread s p n w).1) ∧ ∃ I', σ = (fw_sh, I') ∧ zm_at (zo_tread s p n w).2 I' ∧ zf_lo I I') 59 0 0 [some (.ref 38), some (.int p), some (.int n), some (.int w), some (.int (zn_g c)), none, none, none, none, none] [] (fw_sh, I) := by
    intro c hc1 hc6 e
    refine fw_from [] 100 29 ok_X6_treadings ⟨_, wc_X6_treadings⟩ rfl ?_
    refine zq_br (zn_g0 hc6) (fun z => absurd z (by omega)) (fun _ => ?_)
    refine ⟨_, rt_no (X := X) (l := l) h hc1 hc6, fun v σ' hq => ?_⟩
    obtain ⟨rfl, I', rfl, h1, h2⟩ := hq
    exact zm_end e ⟨rfl, I', rfl, h1, h2⟩
  refine fw_enter [59] 100 ok_X6_treadings ⟨_, wc_X6_treadings⟩ rfl rfl rfl ?_
  refine ⟨_, rt_isPiece (X := X) (l := l) hl p, ?_⟩
  rintro v' σ' ⟨rfl, rfl⟩
  refine zq_brn (zi_eq0 _) (fun g => ?_) (fun g => ?_)
  · have g : zb_in p (s.1 9 0) = true := by simpa using g
    refine ⟨_, rt_bound (X := X) (l := l) (I := I) n 0 40, ?_⟩
    rintro v' σ' ⟨rfl, rfl⟩
    refine zq_brn (zn_g0 zk_out_le) (fun k => ?_) (fun k => ?_)
    · exact fw_sub (no (zk_out n 0 40) (by omega) zk_out_le (by
        have e1 : zk_first (zk_out n 0 40) (zk_first (zk_oth w 1) (if s.1 7 p.toNatClampNeg = 0 then 0 else 3)) = zk_out n 0 40 := by unfold zk_first; rw [if_neg k]
        simp only [zo_tread, g, e1, k, if_true, if_false])) (by rfl) rfl
    refine ⟨_, rt_oth (X := X) (l := l) (I := I) w 1, ?_⟩
    rintro v' σ' ⟨rfl, rfl⟩
    refine zq_brn (zi_eq0 _) (fun g1 => ?_) (fun g1 => ?_)
    · have g1 : zk_oth w 1 = 0 := by simpa using g1
      obtain ⟨q, hq, rfl⟩ := zb_in_of g (by omega)
      have ec := nI_clamp (n := q) (by omega)
      have w7 := (hl.1.2.2.2 q hq).2.2.2.2.2.2.2
      have w3 := (hl.1.2.2.2 q hq).2.1
      refine ⟨_, rt_rolled (X := X) (l := l) hl hq, ?_⟩
      rintro v' σ' ⟨rfl, rfl⟩
      refine zq_br (zi_eq0 _) (fun k7 => ?_) (fun k7 => ?_)
      · have k7 : ¬ s.1 7 q = 1 := by simpa using k7
        have k7 : s.1 7 q = 0 := by omega
        obtain ⟨j, hj1, hj, rfl⟩ := zk_out_sp k
        obtain ⟨u, hu, rfl⟩ := zk_oth_sp g1
        have ej := nI_clamp (n := j) (by omega)
        have eu := nI_clamp (n := u) (by omega)
        have e1 : zk_first (zk_out (nI j) 0 40) (zk_first (zk_oth (nI u) 1) (if s.1 7 q = 0 then 0 else 3)) = 0 := by rw [k, g1, if_pos k7]; rfl
        simp only [zo_tread, g, ec, e1, ej, eu, if_true]
        have eon : ∀ a, zl_on s.1 q (s.1 10 0 + a) = zl_gr (s.1 2 q) (s.1 3 q) (s.1 10 0 + a) := fun a => by unfold zl_on; rw [if_pos k7]
        have cg : ∀ a, a ≤ 100 → zs_p X l mX6_growsBy [.ref 38, .int (nI q), .int (I 38 9 + nI a)] I (nI (zl_on s.1 q (s.1 10 0 + a))) := fun a ha => by
          rw [eon, hl.2.2.2.2.2.1, nI_add]
          exact rt_growsBy (X := X) (l := l) hl hq (by omega)
        have gle : ∀ a, zl_on s.1 q (s.1 10 0 + a) ≤ 4 := fun a => by rw [eon]; exact zl_gr_le w3
        have cm := rt_manyOf (X := X) (l := l) hl (by omega) hq
        have cmo := rt_mostOf (X := X) (l := l) hl (by omega) hq
        have emv := zl_mv_mx s.1 (zl_ow s.1 6) q 36
        have emm := zl_mx_many s.1 (zl_ow s.1 6) q 36
        have mle := zl_mv_le (L := s.1) (ow := zl_ow s.1 6) (p := q) 36 (fun k hk => hl.1.2.2.1 k hk)
        have m36 : zm_s (fun y => if zl_ow s.1 6 y = q then 1 else 0) 36 ≤ 36 := zm_ite
        unfold zt_cnt zt_fst
        generalize hgr : (fun a => zl_on s.1 q (s.1 10 0 + a)) = gr
        have gle2 : ∀ a, gr a ≤ 4 := fun a => by rw [← hgr]; exact gle a
        have cg2 : ∀ a, a ≤ 100 → zs_p X l mX6_growsBy [.ref 38, .int (nI q), .int (I 38 9 + nI a)] I (nI (gr a)) := fun a ha => by rw [← hgr]; exact cg a ha
        generalize zl_mx (fun y => zl_ow s.1 6 y = q) (fun y => s.1 0 y) 36 = mx at *
        generalize zl_mv s.1 (zl_ow s.1 6) q 36 = mv at *
        generalize zm_s (fun y => if zl_ow s.1 6 y = q then 1 else 0) 36 = mm at *
        have fin : ∀ (m d gv fst : Nat) (v9 : Option Value) (R : Int32), R = (if u = 0 then nI m else if fst = 0 then -9 else nI fst) → fw_Go X l mX6_treadings (fun r σ => r = some (.int R) ∧ ∃ I', σ = (fw_sh, I') ∧ zm_at s I' ∧ zf_lo I I') 169 0 0 [some (.ref 38), some (.int (nI q)), some (.int (nI j)), some (.int (nI u)), some (.int 0), some (.int (nI gv)), some (.int (nI m)), some (.int (if fst = 0 then -9 else nI fst)), some (.int (nI d)), v9] [] (fw_sh, I) := by
          intro m d gv fst v9 R hR
          refine fw_from [] 100 85 ok_X6_treadings ⟨_, wc_X6_treadings⟩ rfl ?_
          refine zq_ne u 0 rfl rfl (fun u0 => ?_) (fun u0 => ?_)
          · exact ⟨zr_e (by rw [hR, if_neg u0]), I, rfl, h, zf_lo.rf⟩
          · exact ⟨zr_e (by rw [hR, if_pos u0]), I, rfl, h, zf_lo.rf⟩
        have loop : mx ≠ 0 → ∀ r d gv m fst v9, d + r = j + 1 → 1 ≤ d → gv ≤ 20 → m ≤ d → fst ≤ 100 → fw_Go X l mX6_treadings (fun rr σ => rr = some (.int (if u = 0 then nI (zt_c gr r d gv m) else if (if fst = 0 then zt_f gr r d gv else fst) = 0 then -9 else nI (if fst = 0 then zt_f gr r d gv else fst))) ∧ ∃ I', σ = (fw_sh, I') ∧ zm_at s I' ∧ zf_lo I I') 88 0 0 [some (.ref 38), some (.int (nI q)), some (.int (nI j)), some (.int (nI u)), some (.int 0), some (.int (nI gv)), some (.int (nI m)), some (.int (if fst = 0 then -9 else nI fst)), some (.int (nI d)), v9] [] (fw_sh, I) := by
          intro hmx r
          induction r with
          | zero =>
            intro d gv m fst v9 hdr hd1 hgv hm hfst
            refine fw_from [88, 169] 100 45 ok_X6_treadings ⟨_, wc_X6_treadings⟩ rfl ?_
            refine zq_lt j d rfl rfl (fun _ => ?_) (fun z => absurd z (by omega))
            exact fw_sub (fin m d gv fst v9 _ (by
              simp only [zt_c, zt_f]
              by_cases f0 : fst = 0 <;> simp [f0])) (by rfl) rfl
          | succ r ih =>
            intro d gv m fst v9 hdr hd1 hgv hm hfst
            have gd := gle2 d
            refine fw_from [88, 169] 100 45 ok_X6_treadings ⟨_, wc_X6_treadings⟩ rfl ?_
            refine zq_lt j d rfl rfl (fun z => absurd z (by omega)) (fun _ => ?_)
            refine ⟨_, cm, ?_⟩
            rintro v' σ' ⟨rfl, rfl⟩
            refine zq_le mm 0 rfl rfl (fun z => absurd (emm.mp (by omega)) hmx) (fun _ => ?_)
            refine ⟨_, cg2 d (by omega), ?_⟩
            rintro v' σ' ⟨rfl, rfl⟩
            refine zq_lt (gv + gr d) 9 (by show nI gv + nI (gr d) = _; rw [nI_add]) rfl (fun k9 => ?_) (fun k9 => ?_)
            · refine zq_lt (gr d) 9 rfl rfl (fun _ => ?_) (fun z => absurd z (by omega))
              have := ih (d + 1) (gv + gr d) m fst (some (.int (nI (gr d)))) (by omega) (by omega) (by omega) (by omega) hfst
              have ec1 : zt_c gr (r + 1) d gv m = zt_c gr r (d + 1) (gv + gr d) m := by simp only [zt_c, show ¬ 9 ≤ gv + gr d by omega, if_false]
              have ec2 : zt_f gr (r + 1) d gv = zt_f gr r (d + 1) (gv + gr d) := by simp only [zt_f, show ¬ 9 ≤ gv + gr d by omega, if_false]
              rw [ec1, ec2]
              exact fw_sub this (by rw [nI_add]; simp only [nI_1]) rfl
            · have ec1 : zt_c gr (r + 1) d gv m = zt_c gr r (d + 1) (gr d) (m + 1) := by simp only [zt_c, k9, if_true]
              have ec2 : zt_f gr (r + 1) d gv = d := by simp only [zt_f, k9, if_true]
              rw [ec1, ec2]
              by_cases f0 : fst = 0
              · subst f0
                have := ih (d + 1) (gr d) (m + 1) d (some (.int (nI (gr d)))) (by omega) (by omega) (by omega) (by omega) (by omega)
                simp only [show ¬ d = 0 by omega, if_false] at this
                simp only [if_true, show ¬ d = 0 by omega, if_false]
                refine And.intro (fun z => absurd z (by decide)) (fun _ => ?_)
                refine zq_lt (gr d) 9 rfl rfl (fun _ => ?_) (fun z => absurd z (by omega))
                exact fw_sub this (by rw [show (0 : Int32) = nI 0 from rfl, nI_add, Nat.zero_add]; simp only [nI_1]) rfl
              · have := ih (d + 1) (gr d) (m + 1) fst (some (.int (nI (gr d)))) (by omega) (by omega) (by omega) (by omega) (by omega)
                simp only [f0, if_false] at this ⊢
                refine zq_le 0 fst rfl rfl (fun _ => ?_) (fun z => absurd z (by omega))
                refine zq_lt (gr d) 9 rfl rfl (fun _ => ?_) (fun z => absurd z (by omega))
                exact fw_sub this (by rw [show (0 : Int32) = nI 0 from rfl, nI_add, Nat.zero_add]; simp only [nI_1]) rfl
        refine fw_from [88] 100 29 ok_X6_treadings ⟨_, wc_X6_treadings⟩ rfl ?_
        refine And.intro (fun _ => ?_) (fun z => absurd rfl z)
        refine ⟨_, cmo, ?_⟩
        rintro v' σ' ⟨rfl, rfl⟩
        by_cases hmx : mx = 0
        · simp only [hmx, if_true]
          have go88 : fw_Go X l mX6_treadings (fun r σ => r = some (.int (if u = 0 then nI 0 else -9)) ∧ ∃ I', σ = (fw_sh, I') ∧ zm_at s I' ∧ zf_lo I I') 88 0 0 [some (.ref 38), some (.int (nI q)), some (.int (nI j)), some (.int (nI u)), some (.int 0), some (.int (nI mv)), some (.int (nI 0)), some (.int (if (0 : Nat) = 0 then -9 else nI 0)), some (.int (nI 1)), none] [] (fw_sh, I) := by
            refine fw_from [169] 100 45 ok_X6_treadings ⟨_, wc_X6_treadings⟩ rfl ?_
            refine zq_lt j 1 rfl rfl (fun _ => ?_) (fun _ => ?_)
            · exact fw_sub (fin 0 1 mv 0 none _ (by simp)) (by rfl) rfl
            · refine ⟨_, cm, ?_⟩
              rintro v' σ' ⟨rfl, rfl⟩
              refine zq_le mm 0 rfl rfl (fun _ => ?_) (fun z => absurd (emm.mpr hmx) (by omega))
              exact fw_sub (fin 0 1 mv 0 none _ (by simp)) (by rfl) rfl
          exact fw_sub go88 (by rfl) rfl
        · have := loop hmx j 1 mv 0 0 none (by omega) (by omega) (by omega) (by omega) (by omega)
          rw [emv] at this
          simp only [if_true] at this
          simp only [hmx, if_false]
          exact fw_sub this (by rw [emv]; rfl) rfl
      · have k7 : s.1 7 q = 1 := by simpa using k7
        exact fw_sub (no 3 (by omega) (by omega) (by
          have e1 : zk_first (zk_out n 0 40) (zk_first (zk_oth w 1) (if s.1 7 q = 0 then 0 else 3)) = 3 := by rw [k, g1, if_neg (by omega)]; rfl
          simp only [zo_tread, g, ec, e1, if_true]; rfl)) (by rfl) rfl
    · have g1 : ¬ zk_oth w 1 = 0 := by simpa using g1
      exact fw_sub (no 2 (by omega) (by omega) (by
        have e1 : zk_first (zk_out n 0 40) (zk_first (zk_oth w 1) (if s.1 7 p.toNatClampNeg = 0 then 0 else 3)) = 2 := by rw [k]; unfold zk_first; rw [if_pos rfl, if_neg g1, zk_oth2 g1]
        simp only [zo_tread, g, e1, if_true]; rfl)) (by rfl) rfl
  · refine And.intro (fun _ => ?_) (fun z => absurd z (by decide))
    exact fw_sub (no 1 (by omega) (by omega) (by simp [zo_tread, g])) (by rfl) rfl
theorem rt_nextLaid (h : zm_l 6 L I) {a q : Nat} (ha : a ≤ 6) (hq : 0 < L 9 0 → q < L 9 0 ∧ ∀ i, (a + i) % L 9 0 = (q + i) % L 9 0) : zs_p X l mX6_nextLaid [.ref 38, .int (nI a)] I (z9_O (zl_nl L (L 9 0) q)) := by
  have hP := h.1.1
  have h3 := h.2.2.2.1
  have loop : ∀ r k, k + r = L 9 0 → ∀ q', (0 < L 9 0 → q' < L 9 0 ∧ ∀ i, (a + k + i) % L 9 0 = (q' + i) % L 9 0) → fw_Go X l mX6_nextLaid (fun rr σ => rr = some (.int (z9_O (zl_nl L r q'))) ∧ σ = (fw_sh, I)) 2 0 0 [some (.ref 38), some (.int (nI a)), some (.int (nI k))] [] (fw_sh, I) := by
    intro r
    induction r with
    | zero =>
      intro k hk q' hq'
      refine fw_from [2] 100 2 ok_X6_nextLaid ⟨_, wc_X6_nextLaid⟩ rfl ?_
      refine zq_le (L 9 0) k h3 rfl (fun _ => ?_) (fun z => absurd z (by omega))
      exact ⟨rfl, rfl⟩
    | succ r ih =>
      intro k hk q' hq'
      obtain ⟨hq1, hq2⟩ := hq' (by omega)
      have e0 : (a + k) % L 9 0 = q' := by
        have := hq2 0
        rw [Nat.add_zero, Nat.add_zero, Nat.mod_eq_of_lt hq1] at this
        exact this
      have er : nI a + nI k - (nI a + nI k) / I 38 7 * I 38 7 = nI q' := by
        rw [h3, nI_add, pk_rem (d := L 9 0) (by omega) (by omega) (by omega), e0]
      have hne : ¬ I 38 7 = 0 := by rw [h3]; exact fun z => by have := (nI_eq (a := L 9 0) (b := 0) (by omega) (by omega)).mp z; omega
      have c1 := rt_rolled (X := X) (l := l) h hq1
      rw [← er] at c1
      have w7 := (h.1.2.2.2 q' hq1).2.2.2.2.2.2.2
      refine fw_from [2] 100 2 ok_X6_nextLaid ⟨_, wc_X6_nextLaid⟩ rfl ?_
      refine zq_le (L 9 0) k h3 rfl (fun z => absurd z (by omega)) (fun _ => ?_)
      refine And.intro hne ?_
      refine ⟨_, c1, ?_⟩
      rintro v σ' ⟨rfl, rfl⟩
      refine zq_brn (zi_eq0 _) (fun k7 => ?_) (fun k7 => ?_)
      · have k7 : L 7 q' = 1 := by simpa using k7
        have := ih (k + 1) (by omega) (if q' + 1 < L 9 0 then q' + 1 else 0) (fun _ => ⟨by split <;> omega, fun i => by
          rw [show a + (k + 1) + i = a + k + (i + 1) by omega, hq2]
          split
          · rw [show q' + (i + 1) = q' + 1 + i by omega]
          · rw [show q' + (i + 1) = L 9 0 + i by omega, Nat.add_mod_left, Nat.zero_add]⟩)
        rw [show zl_nl L (r + 1) q' = zl_nl L r (if q' + 1 < L 9 0 then q' + 1 else 0) by simp only [zl_nl]; rw [if_neg (by omega)]]
        exact fw_sub this (by simp only [nI_1]) rfl
      · have k7 : ¬ L 7 q' = 1 := by simpa using k7
        refine And.intro hne ?_
        rw [show zl_nl L (r + 1) q' = some q' by simp only [zl_nl]; rw [if_pos (by omega)]]
        exact ⟨zr_e er, rfl⟩
  refine fw_enter [2] 100 ok_X6_nextLaid ⟨_, wc_X6_nextLaid⟩ rfl rfl rfl ?_
  exact fw_sub (loop (L 9 0) 0 (by omega) q (fun z => by have := hq z; exact ⟨this.1, fun i => this.2 i⟩)) (by rfl) rfl
theorem zo_tuL_k (L : Nat → Nat → Nat) (ow : Nat → Nat) : ∀ n q, 1 ≤ q → q ≤ 9 → (zo_tuL L ow n).1 q = L q
  | 0, q, _, _ => rfl
  | n + 1, q, h1, h2 => by
    have ih := zo_tuL_k L ow n q h1 h2
    funext j
    simp only [zo_tuL]
    cases zl_nl (zo_tuL L ow n).1 (L 9 0) (zl_nx (L 9 0) (zo_tuL L ow n).2) with
    | none => simp [zl_tro, zl_pd, show ¬ q = 0 by omega, show ¬ q = 10 by omega, ih]
    | some z => simp [zl_tro, zl_tr, zl_pd, show ¬ q = 0 by omega, show ¬ q = 10 by omega, ih]
theorem zo_tuL_10 (L : Nat → Nat → Nat) (ow : Nat → Nat) : ∀ n j, (zo_tuL L ow n).1 10 j = L 10 j + n
  | 0, j => rfl
  | n + 1, j => by
    have ih := zo_tuL_10 L ow n j
    simp only [zo_tuL]
    cases zl_nl (zo_tuL L ow n).1 (L 9 0) (zl_nx (L 9 0) (zo_tuL L ow n).2) with
    | none => simp [zl_tro, zl_pd, ih]; omega
    | some z => simp [zl_tro, zl_tr, zl_pd, ih]; omega
theorem cm_turns (h : zm_at s I) (n : Int32) : zs_m X l mX6_turns [.ref 38, .int n] I (zo_turns s n) := by
  have hl := h.2.1
  have hP := hl.1.1
  have hd := h.1.1
  refine fw_enter [28] 100 ok_X6_turns ⟨_, wc_X6_turns⟩ rfl rfl rfl ?_
  refine ⟨_, rt_notDays (X := X) (l := l) (I := I) n, ?_⟩
  rintro v' σ' ⟨rfl, rfl⟩
  refine zq_br (zn_g0 zk_out_le) (fun hk => ?_) (fun hk => ?_)
  · obtain ⟨j, hj1, hj, rfl⟩ := zk_out_sp hk
    have ej := nI_clamp (n := j) (by omega)
    simp only [zo_turns, hk, ej, if_true]
    refine ⟨_, rt_thinks (X := X) (l := l) (I := I), ?_⟩
    rintro v' σ' ⟨rfl, I1, rfl, hK⟩
    obtain ⟨N, hN⟩ : ∃ N : Nat → Option Nat, N = fun k => zl_nl s.1 (s.1 9 0) (zl_nx (s.1 9 0) (zo_tuL s.1 (zl_ow s.1 6) k).2) := ⟨_, rfl⟩
    have enl : ∀ k q, zl_nl (zo_tuL s.1 (zl_ow s.1 6) k).1 (s.1 9 0) q = zl_nl s.1 (s.1 9 0) q := fun k q => zl_nl_cong (zo_tuL_k _ _ k 7 (by omega) (by omega)) (zo_tuL_k _ _ k 9 (by omega) (by omega)) _ _
    have eow : ∀ k, zl_ow (zo_tuL s.1 (zl_ow s.1 6) k).1 6 = zl_ow s.1 6 := fun k => zl_ow_congr (zo_tuL_k _ _ k 4 (by omega) (by omega)) (zo_tuL_k _ _ k 5 (by omega) (by omega)) (zo_tuL_k _ _ k 6 (by omega) (by omega)) (zo_tuL_k _ _ k 9 (by omega) (by omega)) 6
    have e9 : ∀ k, (zo_tuL s.1 (zl_ow s.1 6) k).1 9 0 = s.1 9 0 := fun k => by rw [zo_tuL_k _ _ k 9 (by omega) (by omega)]
    have e10 : ∀ k, (zo_tuL s.1 (zl_ow s.1 6) k).1 10 0 = s.1 10 0 + k := fun k => zo_tuL_10 _ _ k 0
    have stp : ∀ k, zo_tuL s.1 (zl_ow s.1 6) (k + 1) = (zl_pd (zl_tro (zo_tuL s.1 (zl_ow s.1 6) k).1 (zl_ow s.1 6) (N k)) (zl_ow s.1 6) 1, N k) := fun k => by
      rw [hN]; simp only [zo_tuL, enl]
    have nS : ∀ k, N (k + 1) = zl_nl s.1 (s.1 9 0) (zl_nx (s.1 9 0) (N k)) := fun k => by
      have := stp k
      rw [hN] at this ⊢
      simp only [this]
    have nx_lt : ∀ o, 0 < s.1 9 0 → zl_nx (s.1 9 0) o < s.1 9 0 := fun o h0 => by
      cases o with
      | none => exact h0
      | some z => simp only [zl_nx]; split <;> omega
    have nNone : ∀ k, N k = none → N (k + 1) = none := fun k hk2 => by
      rw [nS, hk2]
      by_cases h0 : 0 < s.1 9 0
      · rw [hN] at hk2
        exact zl_nl_all (nx_lt _ h0) (nx_lt none h0) hk2
      · rw [show s.1 9 0 = 0 by omega]; rfl
    have nSome : ∀ k z, N k = some z → z < s.1 9 0 := fun k z hz => by
      rw [hN] at hz
      by_cases h0 : 0 < s.1 9 0
      · exact zl_nl_lt _ _ _ (nx_lt _ h0) hz
      · rw [show s.1 9 0 = 0 by omega] at hz; cases hz
    have c0 := rt_nextLaid (X := X) (l := l) (hl.K hK) (a := 0) (q := 0) (by omega) (fun z => ⟨z, fun i => rfl⟩)
    have eN0 : zl_nl s.1 (s.1 9 0) 0 = N 0 := by rw [hN]; rfl
    rw [eN0] at c0
    refine ⟨_, c0, ?_⟩
    rintro v' σ' ⟨rfl, rfl⟩
    have loop := zl_down (N := j) (G := fun k => ∀ I2, zm_l 6 (zo_tuL s.1 (zl_ow s.1 6) k).1 I2 → zgw 3 I1 I2 → fw_Go X l mX6_turns (fun r σ => r = some (.int (nI (zm_s (fun y => if (zo_tuL s.1 (zl_ow s.1 6) j).1 0 y = 9 then 1 else 0) 36))) ∧ ∃ I', σ = (fw_sh, I') ∧ zm_at s I' ∧ zf_lo I I') 28 0 0 [some (.ref 38), some (.int (nI j)), some (.int (zn_g 0)), some (.int (z9_O (N k))), some (.int (nI k))] [] (fw_sh, I2)) (by
      intro I2 hz hg
      refine fw_from [28] 100 17 ok_X6_turns ⟨_, wc_X6_turns⟩ rfl ?_
      refine zq_le j j rfl rfl (fun _ => ?_) (fun z => absurd z (by omega))
      refine ⟨_, rt_thistles (X := X) (l := l) hz, ?_⟩
      rintro v' σ' ⟨rfl, rfl⟩
      refine ⟨_, rt_forgets (X := X) (l := l) (I := I2), ?_⟩
      rintro v' σ' ⟨rfl, I3, rfl, hB⟩
      have hh := zh_mk hK hg hB
      exact ⟨rfl, I3, rfl, hh.m h, hh.lo⟩) (fun k hk3 ih => by
      intro I2 hz hg
      refine fw_from [28] 100 17 ok_X6_turns ⟨_, wc_X6_turns⟩ rfl ?_
      refine zq_le j k rfl rfl (fun z => absurd z (by omega)) (fun _ => ?_)
      have st := stp k
      have ns := nS k
      cases hNk : N k with
      | none =>
        have hn1 := nNone k hNk
        rw [hNk] at st
        have c3 := rt_goesDay (X := X) (l := l) hz (by omega) (by rw [e10]; omega)
        rw [eow] at c3
        refine And.intro (fun _ => ?_) (fun z => absurd (show (-9 : Int32) < 0 by decide) z)
        refine ⟨_, c3, ?_⟩
        rintro v' σ' ⟨rfl, I3, rfl, hz3, hg3⟩
        refine fw_sub (ih I3 (by rw [st]; exact hz3) (hg.tr hg3.w)) ?_ rfl
        rw [hn1]; simp only [nI_1]
      | some z =>
        have hzP := nSome k z hNk
        rw [hNk] at st ns
        have c1 := rt_trod (X := X) (l := l) hz (by omega) (p := z) (by rw [e9]; exact hzP)
        rw [eow] at c1
        refine And.intro (fun q => absurd q ?_) (fun _ => ?_)
        · show ¬ nI z < 0
          rw [zt_lt0, nI_toInt (by omega)]; omega
        refine ⟨_, c1, ?_⟩
        rintro v' σ' ⟨rfl, I3, rfl, hz3, hg3⟩
        have c2 := rt_nextLaid (X := X) (l := l) hz3 (a := z + 1) (q := zl_nx (s.1 9 0) (some z)) (by omega) (fun h0 => by
          have h0' : 0 < s.1 9 0 := by rw [← e9 k]; exact h0
          have ee : zl_tr (zo_tuL s.1 (zl_ow s.1 6) k).1 (zl_ow s.1 6) z 9 0 = s.1 9 0 := e9 k
          rw [ee]
          refine ⟨nx_lt _ h0', fun i => ?_⟩
          simp only [zl_nx]
          split
          · rfl
          · rw [show z + 1 + i = s.1 9 0 + i by omega, Nat.add_mod_left, Nat.zero_add])
        have ec2 : zl_nl (zl_tr (zo_tuL s.1 (zl_ow s.1 6) k).1 (zl_ow s.1 6) z) (zl_tr (zo_tuL s.1 (zl_ow s.1 6) k).1 (zl_ow s.1 6) z 9 0) (zl_nx (s.1 9 0) (some z)) = N (k + 1) := by
          rw [ns]
          have : zl_tr (zo_tuL s.1 (zl_ow s.1 6) k).1 (zl_ow s.1 6) z 9 0 = s.1 9 0 := e9 k
          rw [this]
          have z7 : zl_tr (zo_tuL s.1 (zl_ow s.1 6) k).1 (zl_ow s.1 6) z 7 = s.1 7 := zo_tuL_k _ _ k 7 (by omega) (by omega)
          have z9 : zl_tr (zo_tuL s.1 (zl_ow s.1 6) k).1 (zl_ow s.1 6) z 9 = s.1 9 := zo_tuL_k _ _ k 9 (by omega) (by omega)
          exact zl_nl_cong z7 z9 _ _
        rw [ec2, ← nI_1] at c2
        refine ⟨_, c2, ?_⟩
        rintro v' σ' ⟨rfl, rfl⟩
        have c3 := rt_goesDay (X := X) (l := l) hz3 (by omega) (by
          have : zl_tr (zo_tuL s.1 (zl_ow s.1 6) k).1 (zl_ow s.1 6) z 10 0 = s.1 10 0 + k := e10 k
          rw [this]; omega)
        rw [show zl_ow (zl_tr (zo_tuL s.1 (zl_ow s.1 6) k).1 (zl_ow s.1 6) z) 6 = zl_ow s.1 6 from eow k] at c3
        refine ⟨_, c3, ?_⟩
        rintro v' σ' ⟨rfl, I4, rfl, hz4, hg4⟩
        refine fw_sub (ih I4 (by rw [st]; exact hz4) ((hg.tr hg3.w).tr hg4.w)) ?_ rfl
        simp only [nI_1])
    exact fw_sub (loop 0 (by omega) I1 (hl.K hK) (fun _ _ _ _ _ _ _ => rfl)) (by rfl) rfl
  · have e : zo_turns s n = zx_no s (zk_out n 0 99) := by simp [zo_turns, hk]
    refine ⟨_, rt_no (X := X) (l := l) h (by omega) zk_out_le, fun v σ' hq => ?_⟩
    obtain ⟨rfl, I', rfl, h1, h2⟩ := hq
    exact zm_end e ⟨rfl, I', rfl, h1, h2⟩
end zR12
