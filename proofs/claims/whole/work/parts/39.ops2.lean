def zo_yard (s : zS) (y w : Int32) : Int32 × zS :=
  if zb_in y 36 then (if zk_oth w 2 = 0 then ((if w.toNatClampNeg = 0 then nI (s.1 0 y.toNatClampNeg) else if w.toNatClampNeg = 1 then (if zl_ow s.1 6 y.toNatClampNeg < s.1 9 0 then nI (zl_ow s.1 6 y.toNatClampNeg) else -9) else zi (zl_op s.1 (zl_ow s.1 6) y.toNatClampNeg)), s) else zx_no s (zk_oth w 2)) else zx_no s 1
def zo_grows (s : zS) (p n : Int32) : Int32 × zS :=
  if zb_in p (s.1 9 0) then (if zk_out n 1 999 = 0 then (nI (zl_gr (s.1 2 p.toNatClampNeg) (s.1 3 p.toNatClampNeg) n.toNatClampNeg), s) else zx_no s (zk_out n 1 999)) else zx_no s 1
def zl_mk (L : Nat → Nat → Nat) (y v : Nat) : Nat → Nat → Nat := fun k j => if k = 0 ∧ j = y then v else L k j
def zo_makes (s : zS) (y v : Int32) : Int32 × zS :=
  if zb_in y 36 then (if zk_out v 0 9 = 0 then (nI (s.1 0 y.toNatClampNeg), zl_mk s.1 y.toNatClampNeg v.toNatClampNeg, s.2) else zx_no s (zk_out v 0 9)) else zx_no s 1
noncomputable def zo_steps (s : zS) (a b : Int32) : Int32 × zS :=
  if zb_in a 36 && zb_in b 36 then ((if zb_far (zl_op s.1 (zl_ow s.1 6)) a.toNatClampNeg b.toNatClampNeg = 36 then -9 else nI (zb_far (zl_op s.1 (zl_ow s.1 6)) a.toNatClampNeg b.toNatClampNeg)), s) else zx_no s 1
noncomputable def zo_reached (s : zS) (y n : Int32) : Int32 × zS :=
  if zb_in y 36 then (if zk_out n 0 35 = 0 then (nI (zm_s (fun z => if zb_far (zl_op s.1 (zl_ow s.1 6)) y.toNatClampNeg z ≤ n.toNatClampNeg then 1 else 0) 36), s) else zx_no s (zk_out n 0 35)) else zx_no s 1
def zo_image (s : zS) : Int32 × zS := (nI (s.1 10 0), s.1, s.1, (fun k j => if k = 0 then 1 else s.2.2.1 k j), s.2.2.2)
def zo_on (s : zS) : Int32 × zS := if s.2.2.1 0 0 = 1 then (nI (s.2.1 10 0), s.2.1, s.2) else zx_no s 3
section zV
variable {X : Nat × (Nat → Int32)} {l : Launch} {I : Nat → Nat → Int32} {s : zS}
/-- behind a refusal -/
theorem zc_end {o : Int32 × zS} {c : Nat} (e : o = zx_no s c) {v : Option Value} {σ' : fw_St} (hq : v = some (.int (zx_no s c).1) ∧ ∃ I', σ' = (fw_sh, I') ∧ zc_at (zx_no s c).2 I' ∧ zf_hi I I') : v = some (.int o.1) ∧ ∃ I', σ' = (fw_sh, I') ∧ zc_at o.2 I' ∧ zf_hi I I' := by rw [e]; exact hq
theorem cs_yard (h : zc_at s I) (y w : Int32) : zs_c X l mX5_yard [.ref 0, .int y, .int w] I (zo_yard s y w) := by
  have hl := h.2.1
  have hP := hl.2.1.1
  have c1 := ct_isYard (X := X) (l := l) (I := I) y
  have no : ∀ c, 1 ≤ c → c ≤ 6 → zo_yard s y w = zx_no s c → fw_Go X l mX5_yard (fun r σ => r = some (.int (zo_yard s y w).1) ∧ ∃ I', σ = (fw_sh, I') ∧ zc_at (zo_yard s y w).2 I' ∧ zf_hi I I') 16 0 0 [some (.ref 0), some (.int y), some (.int w), none] [.int (zn_g c)] (fw_sh, I) := by
    intro c hc1 hc6 e
    refine fw_from [] 100 8 ok_X5_yard ⟨_, wc_X5_yard⟩ rfl ?_
    refine zq_br (zn_g0 hc6) (fun z => absurd z (by omega)) (fun _ => ?_)
    refine ⟨_, ct_no (X := X) (l := l) h hc1 hc6, fun v σ' hq => ?_⟩
    obtain ⟨rfl, I', rfl, h1, h2⟩ := hq
    exact zc_end e ⟨rfl, I', rfl, h1, h2⟩
  refine fw_enter [16] 100 ok_X5_yard ⟨_, wc_X5_yard⟩ rfl rfl rfl ?_
  refine ⟨_, c1, ?_⟩
  rintro v σ' ⟨rfl, rfl⟩
  refine zq_brn (zi_eq0 _) (fun g => ?_) (fun g => ?_)
  · have g : zb_in y 36 = true := by simpa using g
    refine ⟨_, ct_oth (X := X) (l := l) (I := I) w 2, ?_⟩
    rintro v σ' ⟨rfl, rfl⟩
    by_cases hk : zk_oth w 2 = 0
    · obtain ⟨q, hq, rfl⟩ := zb_in_of g (by omega)
      obtain ⟨j, hj, rfl⟩ := zk_oth_sp hk
      have ec := nI_clamp (n := q) (by omega)
      rw [hk]
      refine fw_from [] 100 8 ok_X5_yard ⟨_, wc_X5_yard⟩ rfl ?_
      refine zq_br (zn_g0 (show 0 ≤ 6 by omega)) (fun _ => ?_) (fun z => absurd rfl z)
      refine zq_eq j 0 rfl rfl (fun z => ?_) (fun z0 => ?_)
      · subst z
        refine And.intro (fw_in1 q 36 hq) ?_
        simp only [zo_yard, g, hk, ec, nI_clamp (show 0 < 2 ^ 31 by omega), if_true]
        exact ⟨zr_e (hl.2.2.1 q hq), I, rfl, h, zf_hi.rf⟩
      have j0 : ¬ j = 0 := z0
      have ew := nI_clamp (n := j) (by omega)
      refine zq_eq j 1 rfl rfl (fun z => ?_) (fun z1 => ?_)
      · subst z
        have e10 : ¬ (1 : Nat) = 0 := by omega
        have o1 := zq_rd (hl.2.2.2.1 q hq)
        refine And.intro (fw_in1 q 36 hq) ?_
        refine zq_brn (c := I 3 _ = -1) (d := ¬ zl_ow s.1 6 q < s.1 9 0) ?_ (fun k => ?_) (fun k => ?_)
        · rw [o1, zo_eq1 hP]
        · have k : zl_ow s.1 6 q < s.1 9 0 := Decidable.not_not.mp k
          refine And.intro (fw_in1 q 36 hq) ?_
          simp only [zo_yard, g, hk, ec, ew, e10, k, if_true, if_false]
          exact ⟨zr_e ((hl.2.2.2.1 q hq).trans (zo_some k)), I, rfl, h, zf_hi.rf⟩
        · simp only [zo_yard, g, hk, ec, ew, e10, k, if_true, if_false]
          exact ⟨rfl, I, rfl, h, zf_hi.rf⟩
      · have j1 : ¬ j = 1 := z1
        refine ⟨_, ct_isOpen (X := X) (l := l) hl hq, ?_⟩
        rintro v σ' ⟨rfl, rfl⟩
        simp only [zo_yard, g, hk, ec, ew, j0, j1, if_true, if_false]
        refine zq_br (zi_eq0 _) (fun k => ?_) (fun k => ?_)
        · rw [k]; exact ⟨rfl, I, rfl, h, zf_hi.rf⟩
        · rw [show zl_op s.1 (zl_ow s.1 6) q = true by simpa using k]; exact ⟨rfl, I, rfl, h, zf_hi.rf⟩
    · exact fw_sub2 (no (zk_oth w 2) (by omega) zk_oth_le (by simp [zo_yard, g, hk])) (by rfl) (by rfl) rfl
  · exact fw_sub2 (no 1 (by omega) (by omega) (by simp [zo_yard, g])) (by rfl) (by rfl) rfl
theorem cs_grows (h : zc_at s I) (p n : Int32) : zs_c X l mX5_grows [.ref 0, .int p, .int n] I (zo_grows s p n) := by
  have hl := h.2.1
  have hP := hl.2.1.1
  have c1 := ct_hasPiece (X := X) (l := l) hl p
  have no : ∀ c, 1 ≤ c → c ≤ 6 → zo_grows s p n = zx_no s c → fw_Go X l mX5_grows (fun r σ => r = some (.int (zo_grows s p n).1) ∧ ∃ I', σ = (fw_sh, I') ∧ zc_at (zo_grows s p n).2 I' ∧ zf_hi I I') 23 0 0 [some (.ref 0), some (.int p), some (.int n), none] [.int (zn_g c)] (fw_sh, I) := by
    intro c hc1 hc6 e
    refine fw_from [] 100 11 ok_X5_grows ⟨_, wc_X5_grows⟩ rfl ?_
    refine zq_br (zn_g0 hc6) (fun z => absurd z (by omega)) (fun _ => ?_)
    refine ⟨_, ct_no (X := X) (l := l) h hc1 hc6, fun v σ' hq => ?_⟩
    obtain ⟨rfl, I', rfl, h1, h2⟩ := hq
    exact zc_end e ⟨rfl, I', rfl, h1, h2⟩
  refine fw_enter [23] 100 ok_X5_grows ⟨_, wc_X5_grows⟩ rfl rfl rfl ?_
  refine ⟨_, c1, ?_⟩
  rintro v σ' ⟨rfl, rfl⟩
  refine zq_brn (zi_eq0 _) (fun g => ?_) (fun g => ?_)
  · have g : zb_in p (s.1 9 0) = true := by simpa using g
    refine ⟨_, ct_out (X := X) (l := l) (I := I) n 1 999, ?_⟩
    rintro v σ' ⟨rfl, rfl⟩
    by_cases hk : zk_out n 1 999 = 0
    · obtain ⟨q, hq, rfl⟩ := zb_in_of g (by omega)
      obtain ⟨j, hj1, hj, rfl⟩ := zk_out_sp hk
      have ec := nI_clamp (n := q) (by omega)
      have ej := nI_clamp (n := j) (by omega)
      have w := hl.2.1.2.2.2 q hq
      rw [hk]
      refine fw_from [] 100 11 ok_X5_grows ⟨_, wc_X5_grows⟩ rfl ?_
      refine zq_br (zn_g0 (show 0 ≤ 6 by omega)) (fun _ => ?_) (fun z => absurd rfl z)
      refine And.intro (fw_in1 q 6 (by omega)) ?_
      refine And.intro (fw_in1 q 6 (by omega)) ?_
      have c2 := ct_ofKind (X := X) (l := l) (I := I) (s.1 2 q) (s.1 3 q) j w.1 w.2.1 (by omega)
      rw [← zq_rd (hl.2.2.2.2.1 2 (by omega) (by omega) q hq), ← zq_rd (hl.2.2.2.2.1 3 (by omega) (by omega) q hq)] at c2
      refine ⟨_, c2, ?_⟩
      rintro v σ' ⟨rfl, rfl⟩
      simp only [zo_grows, g, hk, ec, ej, if_true]
      exact ⟨rfl, I, rfl, h, zf_hi.rf⟩
    · exact fw_sub2 (no (zk_out n 1 999) (by omega) zk_out_le (by simp [zo_grows, g, hk])) (by rfl) (by rfl) rfl
  · exact fw_sub2 (no 1 (by omega) (by omega) (by simp [zo_grows, g])) (by rfl) (by rfl) rfl
theorem cs_behind (h : zc_at s I) (y n : Int32) : zs_c X l mX5_behind [.ref 0, .int y, .int n] I (zo_behind s y n) := by
  have hl := h.2.1
  have hP := hl.2.1.1
  have c1 := ct_isYard (X := X) (l := l) (I := I) y
  have no : ∀ c, 1 ≤ c → c ≤ 6 → zo_behind s y n = zx_no s c → fw_Go X l mX5_behind (fun r σ => r = some (.int (zo_behind s y n).1) ∧ ∃ I', σ = (fw_sh, I') ∧ zc_at (zo_behind s y n).2 I' ∧ zf_hi I I') 18 0 0 [some (.ref 0), some (.int y), some (.int n), none] [.int (zn_g c)] (fw_sh, I) := by
    intro c hc1 hc6 e
    refine fw_from [] 100 9 ok_X5_behind ⟨_, wc_X5_behind⟩ rfl ?_
    refine zq_br (zn_g0 hc6) (fun z => absurd z (by omega)) (fun _ => ?_)
    refine ⟨_, ct_no (X := X) (l := l) h hc1 hc6, fun v σ' hq => ?_⟩
    obtain ⟨rfl, I', rfl, h1, h2⟩ := hq
    exact zc_end e ⟨rfl, I', rfl, h1, h2⟩
  refine fw_enter [18] 100 ok_X5_behind ⟨_, wc_X5_behind⟩ rfl rfl rfl ?_
  refine ⟨_, c1, ?_⟩
  rintro v σ' ⟨rfl, rfl⟩
  refine zq_brn (zi_eq0 _) (fun g => ?_) (fun g => ?_)
  · have g : zb_in y 36 = true := by simpa using g
    refine ⟨_, ct_out (X := X) (l := l) (I := I) n 0 99, ?_⟩
    rintro v σ' ⟨rfl, rfl⟩
    by_cases hk : zk_out n 0 99 = 0
    · obtain ⟨q, hq, rfl⟩ := zb_in_of g (by omega)
      obtain ⟨j, hj1, hj, rfl⟩ := zk_out_sp hk
      have ec := nI_clamp (n := q) (by omega)
      have ej := nI_clamp (n := j) (by omega)
      rw [hk]
      refine fw_from [] 100 9 ok_X5_behind ⟨_, wc_X5_behind⟩ rfl ?_
      refine zq_br (zn_g0 (show 0 ≤ 6 by omega)) (fun _ => ?_) (fun z => absurd rfl z)
      refine ⟨_, ct_grownBehind (X := X) (l := l) hl hq (by omega : j ≤ 1000), ?_⟩
      rintro v σ' ⟨rfl, rfl⟩
      simp only [zo_behind, g, hk, ec, ej, if_true]
      exact ⟨rfl, I, rfl, h, zf_hi.rf⟩
    · exact fw_sub2 (no (zk_out n 0 99) (by omega) zk_out_le (by simp [zo_behind, g, hk])) (by rfl) (by rfl) rfl
  · exact fw_sub2 (no 1 (by omega) (by omega) (by simp [zo_behind, g])) (by rfl) (by rfl) rfl
theorem cs_steps (h : zc_at s I) (a b : Int32) : zs_c X l mX5_steps [.ref 0, .int a, .int b] I (zo_steps s a b) := by
  have hl := h.2.1
  have no : zo_steps s a b = zx_no s 1 → fw_Go X l mX5_steps (fun r σ => r = some (.int (zo_steps s a b).1) ∧ ∃ I', σ = (fw_sh, I') ∧ zc_at (zo_steps s a b).2 I' ∧ zf_hi I I') 14 0 0 [some (.ref 0), some (.int a), some (.int b), none] [] (fw_sh, I) := by
    intro e
    refine fw_from [] 100 6 ok_X5_steps ⟨_, wc_X5_steps⟩ rfl ?_
    refine ⟨_, ct_no (X := X) (l := l) h (c := 1) (by omega) (by omega), fun v σ' hq => ?_⟩
    obtain ⟨rfl, I', rfl, h1, h2⟩ := hq
    exact zc_end e ⟨rfl, I', rfl, h1, h2⟩
  refine fw_enter [14] 100 ok_X5_steps ⟨_, wc_X5_steps⟩ rfl rfl rfl ?_
  refine ⟨_, ct_isYard (X := X) (l := l) (I := I) a, ?_⟩
  rintro v σ' ⟨rfl, rfl⟩
  refine zq_br (zi_eq0 _) (fun g => ?_) (fun g => ?_)
  · exact fw_sub (no (by simp [zo_steps, g])) (by rfl) rfl
  have g : zb_in a 36 = true := by simpa using g
  refine ⟨_, ct_isYard (X := X) (l := l) (I := I) b, ?_⟩
  rintro v σ' ⟨rfl, rfl⟩
  refine zq_brn (zi_eq0 _) (fun g2 => ?_) (fun g2 => ?_)
  · have g2 : zb_in b 36 = true := by simpa using g2
    obtain ⟨p, hp, rfl⟩ := zb_in_of g (by omega)
    obtain ⟨q, hq, rfl⟩ := zb_in_of g2 (by omega)
    have ep := nI_clamp (n := p) (by omega)
    have eq := nI_clamp (n := q) (by omega)
    have hfl := zb_far_le (op := zl_op s.1 (zl_ow s.1 6)) hp hq
    refine ⟨_, ct_fewest (X := X) (l := l) hl hp hq, ?_⟩
    rintro v σ' ⟨rfl, I', rfl, hf⟩
    have hC : zc_at s I' := zc_keep h (fun c hc => hf c (by simp; omega))
    simp only [zo_steps, g, g2, ep, eq, Bool.and_self, if_true]
    refine zq_ne (zb_far (zl_op s.1 (zl_ow s.1 6)) p q) 36 rfl rfl (fun k => ?_) (fun k => ?_)
    · simp only [k, if_false]; exact ⟨rfl, I', rfl, hC, hf.hi (by simp)⟩
    · simp only [k, if_true]; exact ⟨rfl, I', rfl, hC, hf.hi (by simp)⟩
  · exact fw_sub (no (by simp [zo_steps, g, g2])) (by rfl) rfl
theorem cs_reached (h : zc_at s I) (y n : Int32) : zs_c X l mX5_reached [.ref 0, .int y, .int n] I (zo_reached s y n) := by
  have hl := h.2.1
  have c1 := ct_isYard (X := X) (l := l) (I := I) y
  have no : ∀ c, 1 ≤ c → c ≤ 6 → zo_reached s y n = zx_no s c → fw_Go X l mX5_reached (fun r σ => r = some (.int (zo_reached s y n).1) ∧ ∃ I', σ = (fw_sh, I') ∧ zc_at (zo_reached s y n).2 I' ∧ zf_hi I I') 18 0 0 [some (.ref 0), some (.int y), some (.int n), none] [.int (zn_g c)] (fw_sh, I) := by
    intro c hc1 hc6 e
    refine fw_from [] 100 9 ok_X5_reached ⟨_, wc_X5_reached⟩ rfl ?_
    refine zq_br (zn_g0 hc6) (fun z => absurd z (by omega)) (fun _ => ?_)
    refine ⟨_, ct_no (X := X) (l := l) h hc1 hc6, fun v σ' hq => ?_⟩
    obtain ⟨rfl, I', rfl, h1, h2⟩ := hq
    exact zc_end e ⟨rfl, I', rfl, h1, h2⟩
  refine fw_enter [18] 100 ok_X5_reached ⟨_, wc_X5_reached⟩ rfl rfl rfl ?_
  refine ⟨_, c1, ?_⟩
  rintro v σ' ⟨rfl, rfl⟩
  refine zq_brn (zi_eq0 _) (fun g => ?_) (fun g => ?_)
  · have g : zb_in y 36 = true := by simpa using g
    refine ⟨_, ct_out (X := X) (l := l) (I := I) n 0 35, ?_⟩
    rintro v σ' ⟨rfl, rfl⟩
    by_cases hk : zk_out n 0 35 = 0
    · obtain ⟨q, hq, rfl⟩ := zb_in_of g (by omega)
      obtain ⟨j, hj1, hj, rfl⟩ := zk_out_sp hk
      have ec := nI_clamp (n := q) (by omega)
      have ej := nI_clamp (n := j) (by omega)
      rw [hk]
      refine fw_from [] 100 9 ok_X5_reached ⟨_, wc_X5_reached⟩ rfl ?_
      refine zq_br (zn_g0 (show 0 ≤ 6 by omega)) (fun _ => ?_) (fun z => absurd rfl z)
      refine ⟨_, ct_measure (X := X) (l := l) hl hq, ?_⟩
      rintro v σ' ⟨rfl, I', rfl, hf1, hf⟩
      refine ⟨_, ct_within (X := X) (l := l) (I := I') (far := zb_far (zl_op s.1 (zl_ow s.1 6)) q) (fun z hz => ⟨hf1 z hz, zb_far_le hq hz⟩) (by omega : j < 1000), ?_⟩
      rintro v σ' ⟨rfl, rfl⟩
      simp only [zo_reached, g, hk, ec, ej, if_true]
      exact ⟨rfl, I', rfl, zc_keep h (fun c hc => hf c (by simp; omega)), hf.hi (by simp)⟩
    · exact fw_sub2 (no (zk_out n 0 35) (by omega) zk_out_le (by simp [zo_reached, g, hk])) (by rfl) (by rfl) rfl
  · exact fw_sub2 (no 1 (by omega) (by omega) (by simp [zo_reached, g])) (by rfl) (by rfl) rfl
end zV
