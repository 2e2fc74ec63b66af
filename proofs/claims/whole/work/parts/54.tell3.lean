def zy_d (T : Nat → Nat) (p : Nat) : Nat := T p - 48
def zy_n2 (T : Nat → Nat) (p : Nat) : Nat := 10 * zy_d T p + zy_d T (p + 1)
def zl_fg (L : Nat → Nat → Nat) (a b v : Nat) : Nat → Nat → Nat := fun k j => if k = 0 ∧ a ≤ j ∧ j ≤ b then v else L k j
def zy_ok (L : Nat → Nat → Nat) (T : Nat → Nat) (a : Nat) : Bool :=
  if T a = 112 then zl_can L (zy_n2 T (a + 3)) (zy_d T (a + 5)) (zy_d T (a + 6))
  else if T a = 114 then decide (zy_d T (a + 1) < L 9 0)
  else if T a = 116 then decide (zy_d T (a + 1) < L 9 0 ∧ L 7 (zy_d T (a + 1)) = 0)
  else if T a = 103 then decide (zy_n2 T (a + 1) < 36 ∧ zy_n2 T (a + 3) < 36 ∧ zy_n2 T (a + 1) ≤ zy_n2 T (a + 3))
  else decide (1 ≤ zy_n2 T (a + 1) ∧ zy_n2 T (a + 1) ≤ 60 ∧ L 10 0 + zy_n2 T (a + 1) ≤ 999)
def zy_ex (L : Nat → Nat → Nat) (T : Nat → Nat) (a : Nat) : Nat → Nat → Nat :=
  if T a = 112 then zl_lay L (zy_kd (T (a + 1))) (zy_d T (a + 2)) (zy_n2 T (a + 3)) (zy_d T (a + 5)) (zy_d T (a + 6))
  else if T a = 114 then zl_to L (zy_d T (a + 1))
  else if T a = 116 then zl_tr L (zl_ow L 6) (zy_d T (a + 1))
  else if T a = 103 then zl_fg L (zy_n2 T (a + 1)) (zy_n2 T (a + 3)) (zy_d T (a + 5))
  else zl_pd L (zl_ow L 6) (zy_n2 T (a + 1))
def zy_tell (T : Nat → Nat) (n : Nat) : Nat → (Nat → Nat → Nat) → Nat → Nat → Nat × (Nat → Nat → Nat) × Nat
  | 0, L, _, m => (0, L, m)
  | k + 1, L, a, m => if a < n then (if zy_ok L T a = true then zy_tell T n k (zy_ex L T a) (a + 1 + zy_fl (zy_fm (T a))) (m + 1) else (a + 1, L, m)) else (0, L, m)
def zy_tx (T : Nat → Nat) (n : Nat) (I : Nat → Nat → Int32) : Prop := I 34 1 = nI n ∧ (∀ j, j < n → I 35 j = nI (T j)) ∧ n ≤ 96 ∧ ∀ j, T j ≤ 255
/-- the statement at a is as it must be -/
def zy_wf (T : Nat → Nat) (n a : Nat) : Prop := 0 < zy_fm (T a) ∧ ∀ j, j < zy_fl (zy_fm (T a)) → a + 1 + j < n ∧ zy_ft (zy_fm (T a)) j (T (a + 1 + j)) = true
def zy_dg (T : Nat → Nat) (n p : Nat) : Prop := p < n ∧ 48 ≤ T p ∧ T p ≤ 57
theorem zy_fr {I I' : Nat → Nat → Int32} {T : Nat → Nat} {n : Nat} (h : zy_tx T n I) (hf : zf_fr [11, 12, 13, 14, 15, 16, 17, 18, 19, 20] I I') : zy_tx T n I' := by
  obtain ⟨h1, h2, h3⟩ := h
  exact ⟨by rw [hf 34 (by simp)]; exact h1, fun j hj => by rw [hf 35 (by simp)]; exact h2 j hj, h3⟩
theorem zy_dg_ft {f i c : Nat} (h : zy_ft f i c = true) (h1 : zy_sg f i = 100) : 48 ≤ c ∧ c ≤ 57 := by
  unfold zy_ft at h
  rw [if_neg (by omega), if_pos h1] at h
  simpa using h
theorem zy_wf_dg {T : Nat → Nat} {n a : Nat} (h : zy_wf T n a) {j : Nat} (hj : j < zy_fl (zy_fm (T a))) (h1 : zy_sg (zy_fm (T a)) j = 100) : zy_dg T n (a + 1 + j) :=
  ⟨(h.2 j hj).1, zy_dg_ft (h.2 j hj).2 h1⟩
section zY3
variable {X : Nat × (Nat → Int32)} {l : Launch} {I : Nat → Nat → Int32} {T : Nat → Nat} {n : Nat}
theorem ct_num1 (h : zy_tx T n I) {p : Nat} (hp : zy_dg T n p) : zs_p X l mX3_number [.ref 34, .int (nI p), .int (nI 1)] I (nI (zy_d T p)) := by
  obtain ⟨h1, h2, h3, h4⟩ := h
  obtain ⟨p1, p2, p3⟩ := hp
  have ev : nI 10 * nI 0 + I 35 (nI p).toNatClampNeg - nI 48 = nI (zy_d T p) := by
    rw [zq_rd (h2 p p1), pk_mul, nI_add, zn_sub (by omega)]
    simp [zy_d]
  refine fw_enter [] 100 ok_X3_number ⟨_, wc_X3_number⟩ rfl rfl rfl ?_
  refine zq_le (p + 1) p (nI_add p 1) rfl (fun z => absurd z (by omega)) (fun _ => ?_)
  refine zq_le n p h1 rfl (fun z => absurd z (by omega)) (fun _ => ?_)
  refine And.intro (fw_in1 p 96 (by omega)) ?_
  refine zq_le (p + 1) (p + 1) (nI_add p 1) (nI_1 p) (fun _ => ?_) (fun z => absurd z (by omega))
  exact ⟨zr_e ev, rfl⟩
theorem ct_num2 (h : zy_tx T n I) {p : Nat} (hp : zy_dg T n p) (hq : zy_dg T n (p + 1)) : zs_p X l mX3_number [.ref 34, .int (nI p), .int (nI 2)] I (nI (zy_n2 T p)) := by
  obtain ⟨h1, h2, h3, h4⟩ := h
  obtain ⟨p1, p2, p3⟩ := hp
  obtain ⟨q1, q2, q3⟩ := hq
  have ev : nI 10 * nI 0 + I 35 (nI p).toNatClampNeg - nI 48 = nI (zy_d T p) := by
    rw [zq_rd (h2 p p1), pk_mul, nI_add, zn_sub (by omega)]
    simp [zy_d]
  have ew : nI 10 * (nI 10 * nI 0 + I 35 (nI p).toNatClampNeg - nI 48) + I 35 (nI p + 1).toNatClampNeg - nI 48 = nI (zy_n2 T p) := by
    rw [ev, nI_1, zq_rd (h2 (p + 1) q1), pk_mul, nI_add, zn_sub (by omega)]
    congr 1
    unfold zy_n2 zy_d
    omega
  refine fw_enter [] 100 ok_X3_number ⟨_, wc_X3_number⟩ rfl rfl rfl ?_
  refine zq_le (p + 2) p (nI_add p 2) rfl (fun z => absurd z (by omega)) (fun _ => ?_)
  refine zq_le n p h1 rfl (fun z => absurd z (by omega)) (fun _ => ?_)
  refine And.intro (fw_in1 p 96 (by omega)) ?_
  refine zq_le (p + 2) (p + 1) (nI_add p 2) (nI_1 p) (fun z => absurd z (by omega)) (fun _ => ?_)
  refine zq_le n (p + 1) h1 (nI_1 p) (fun z => absurd z (by omega)) (fun _ => ?_)
  refine And.intro (fw_in1 (p + 1) 96 (by omega) (nI_1 p)) ?_
  refine zq_le (p + 2) (p + 2) (nI_add p 2) (by rw [nI_1, nI_1]) (fun _ => ?_) (fun z => absurd z (by omega))
  exact ⟨zr_e ew, rfl⟩
theorem zy_d9 {p : Nat} (h : zy_dg T n p) : zy_d T p ≤ 9 := by have := h.2.2; unfold zy_d; omega
theorem zy_n99 {p : Nat} (h : zy_dg T n p) (h2 : zy_dg T n (p + 1)) : zy_n2 T p ≤ 99 := by have := zy_d9 h; have := zy_d9 h2; unfold zy_n2; omega
abbrev zy_Q (L' : Nat → Nat → Nat) (ok : Bool) (I : Nat → Nat → Int32) (r : Option Value) (σ : fw_St) : Prop := r = some (.int (zi ok)) ∧ ∃ I', σ = (fw_sh, I') ∧ (ok = true → zl_at 11 L' (zl_ow L' 6) I') ∧ zf_fr [11, 12, 13, 14, 15, 16, 17, 18, 19, 20] I I'
variable {L : Nat → Nat → Nat}
theorem ct_tPiece (h : zy_tx T n I) (hl : zl_at 11 L (zl_ow L 6) I) {a : Nat} (hw : zy_wf T n a) (hc : T a = 112) : fw_Sem X l mX3_tellPiece [.ref 34, .ref 11, .int (nI (a + 1))] (fw_sh, I) (zy_Q (zy_ex L T a) (zy_ok L T a) I) := by
  have hfm : zy_fm (T a) = 1 := by rw [hc]; rfl
  have hw2 := hw.2
  have dg : ∀ j, 1 ≤ j → j ≤ 5 → zy_dg T n (a + 1 + j) := fun j h1 h2 => zy_wf_dg hw (by rw [hfm]; show j < 7; omega) (by rw [hfm]; rcases (show j = 1 ∨ j = 2 ∨ j = 3 ∨ j = 4 ∨ j = 5 by omega) with rfl | rfl | rfl | rfl | rfl <;> rfl)
  rw [hfm] at hw2
  have k0 := hw2 0 (by decide)
  have hkd : zy_kd (T (a + 1)) < 6 := by
    have := k0.2
    unfold zy_ft at this
    rw [if_pos (show zy_sg 1 0 = 107 from rfl)] at this
    simpa using this
  have n1 := ct_num2 (X := X) (l := l) h (p := a + 3) (dg 2 (by omega) (by omega)) (dg 3 (by omega) (by omega))
  have n2 := ct_num1 (X := X) (l := l) h (p := a + 5) (dg 4 (by omega) (by omega))
  have n3 := ct_num1 (X := X) (l := l) h (p := a + 6) (dg 5 (by omega) (by omega))
  have n4 := ct_num1 (X := X) (l := l) h (p := a + 2) (dg 1 (by omega) (by omega))
  have b1 := zy_n99 (dg 2 (by omega) (by omega)) (dg 3 (by omega) (by omega))
  have b2 := zy_d9 (dg 4 (by omega) (by omega))
  have b3 := zy_d9 (dg 5 (by omega) (by omega))
  have b4 := zy_d9 (dg 1 (by omega) (by omega))
  rw [show a + 1 + 2 = a + 3 by omega] at b1
  rw [show a + 1 + 4 = a + 5 by omega] at b2
  rw [show a + 1 + 5 = a + 6 by omega] at b3
  rw [show a + 1 + 1 = a + 2 by omega] at b4
  have c1 := ct_canLay (X := X) (l := l) hl (c := zy_n2 T (a + 3)) (e := zy_d T (a + 5)) (g := zy_d T (a + 6)) (by omega) (by omega) (by omega)
  have eok : zy_ok L T a = zl_can L (zy_n2 T (a + 3)) (zy_d T (a + 5)) (zy_d T (a + 6)) := by simp only [zy_ok, hc, if_true]
  have eex : zy_ex L T a = zl_lay L (zy_kd (T (a + 1))) (zy_d T (a + 2)) (zy_n2 T (a + 3)) (zy_d T (a + 5)) (zy_d T (a + 6)) := by simp only [zy_ex, hc, if_true]
  rw [eok, eex]
  have e2 : nI (a + 1) + 2 = nI (a + 3) := nI_add (a + 1) 2
  have e4 : nI (a + 1) + 4 = nI (a + 5) := nI_add (a + 1) 4
  have e5 : nI (a + 1) + 5 = nI (a + 6) := nI_add (a + 1) 5
  have e1 : nI (a + 1) + 1 = nI (a + 2) := nI_add (a + 1) 1
  rw [← e2] at n1
  rw [← e4] at n2
  rw [← e5] at n3
  rw [← e1] at n4
  have hTl := h.2.2.2 (a + 1)
  have t1 := zq_rd (h.2.1 (a + 1) (by have := k0.1; omega)) (by have := h.2.2.1; have := k0.1; omega)
  have e16 : ((I 35 (nI (a + 1)).toNatClampNeg).toUInt32 % 65536).toInt32 = nI (T (a + 1)) := by
    rw [t1]
    exact lg_i2c_word (by rw [nI_toInt (by omega)]; omega) (by rw [nI_toInt (by omega)]; omega)
  have c2 := ct_idx (X := X) (l := l) (I := I) hTl
  rw [← e16] at c2
  have ek : zy_kI (T (a + 1)) = nI (zy_kd (T (a + 1))) := by simp [zy_kI, hkd]
  refine fw_enter [] 100 ok_X3_tellPiece ⟨_, wc_X3_tellPiece⟩ rfl rfl rfl ?_
  refine ⟨_, n1, ?_⟩
  rintro v σ' ⟨rfl, rfl⟩
  refine ⟨_, n2, ?_⟩
  rintro v σ' ⟨rfl, rfl⟩
  refine ⟨_, n3, ?_⟩
  rintro v σ' ⟨rfl, rfl⟩
  have hn96 := h.2.2.1
  have hk01 := k0.1
  refine zq_le n (a + 1) h.1 rfl (fun z => absurd z (by omega)) (fun _ => ?_)
  refine ⟨_, c1, ?_⟩
  rintro v σ' ⟨rfl, rfl⟩
  refine zq_brn (zi_eq0 _) (fun g => ?_) (fun g => ?_)
  · have g : zl_can L (zy_n2 T (a + 3)) (zy_d T (a + 5)) (zy_d T (a + 6)) = true := by simpa using g
    refine And.intro (fw_in1 (a + 1) 96 (by omega)) ?_
    refine ⟨_, c2, ?_⟩
    rintro v σ' ⟨rfl, rfl⟩
    refine ⟨_, n4, ?_⟩
    rintro v σ' ⟨rfl, rfl⟩
    have c3 := ct_lay (X := X) (l := l) hl (a := zy_kd (T (a + 1))) (b := zy_d T (a + 2)) (by omega) b4 g
    rw [← ek] at c3
    refine ⟨_, c3, ?_⟩
    rintro v σ' ⟨rfl, I', rfl, hz, hf⟩
    exact ⟨by decide, by rw [g]; rfl, I', rfl, fun _ => hz, hf.mono (by simp)⟩
  · exact ⟨by decide, by rw [g]; rfl, I, rfl, fun z => absurd (g.symm.trans z) Bool.false_ne_true, zf_fr.rf⟩
theorem ct_tRolled (hl : zl_at 11 L (zl_ow L 6) I) {a : Nat} (hb : zy_d T (a + 1) ≤ 9) (hc : T a = 114) : fw_Sem X l mX3_tellRolled [.ref 11, .int (nI (zy_d T (a + 1)))] (fw_sh, I) (zy_Q (zy_ex L T a) (zy_ok L T a) I) := by
  have eok : zy_ok L T a = decide (zy_d T (a + 1) < L 9 0) := by unfold zy_ok; rw [if_neg (by omega), if_pos hc]
  have eex : zy_ex L T a = zl_to L (zy_d T (a + 1)) := by unfold zy_ex; rw [if_neg (by omega), if_pos hc]
  rw [eok, eex]
  have c1 := ct_hasPiece (X := X) (l := l) hl (nI (zy_d T (a + 1)))
  rw [zb_in_nI (by omega)] at c1
  refine fw_enter [] 100 ok_X3_tellRolled ⟨_, wc_X3_tellRolled⟩ rfl rfl rfl ?_
  refine ⟨_, c1, ?_⟩
  rintro v σ' ⟨rfl, rfl⟩
  refine zq_brn (zi_eq0 _) (fun g => ?_) (fun g => ?_)
  · have g : decide (zy_d T (a + 1) < L 9 0) = true := by simpa using g
    refine ⟨_, ct_turnOver (X := X) (l := l) hl (p := zy_d T (a + 1)) (by simpa using g), ?_⟩
    rintro v σ' ⟨rfl, I', rfl, hz, hf⟩
    refine ⟨by decide, by rw [g]; rfl, I', rfl, fun _ => ?_, hf.mono (by simp)⟩
    rw [zl_ow_congr (L := L) (L' := zl_to L (zy_d T (a + 1))) rfl rfl rfl rfl 6]
    exact hz
  · exact ⟨by decide, by rw [g]; rfl, I, rfl, fun z => absurd (g.symm.trans z) Bool.false_ne_true, zf_fr.rf⟩
theorem ct_tTrod (hl : zl_at 11 L (zl_ow L 6) I) {a : Nat} (hb : zy_d T (a + 1) ≤ 9) (hc : T a = 116) : fw_Sem X l mX3_tellTrod [.ref 11, .int (nI (zy_d T (a + 1)))] (fw_sh, I) (zy_Q (zy_ex L T a) (zy_ok L T a) I) := by
  have eok : zy_ok L T a = decide (zy_d T (a + 1) < L 9 0 ∧ L 7 (zy_d T (a + 1)) = 0) := by unfold zy_ok; rw [if_neg (by omega), if_neg (by omega), if_pos hc]
  have eex : zy_ex L T a = zl_tr L (zl_ow L 6) (zy_d T (a + 1)) := by unfold zy_ex; rw [if_neg (by omega), if_neg (by omega), if_pos hc]
  rw [eok, eex]
  have hP := hl.2.1.1
  have c1 := ct_hasPiece (X := X) (l := l) hl (nI (zy_d T (a + 1)))
  rw [zb_in_nI (by omega)] at c1
  refine fw_enter [] 100 ok_X3_tellTrod ⟨_, wc_X3_tellTrod⟩ rfl rfl rfl ?_
  refine ⟨_, c1, ?_⟩
  rintro v σ' ⟨rfl, rfl⟩
  refine zq_br (zi_eq0 _) (fun g => ?_) (fun g => ?_)
  · have g : ¬ zy_d T (a + 1) < L 9 0 := by simpa using g
    exact ⟨by decide, by simp [g, zi], I, rfl, fun z => by simp [g] at z, zf_fr.rf⟩
  · have g : zy_d T (a + 1) < L 9 0 := by simpa using g
    have w := hl.2.1.2.2.2 _ g
    refine And.intro (fw_in1 (zy_d T (a + 1)) 6 (by omega)) ?_
    refine zq_eq (L 7 (zy_d T (a + 1))) 0 (zq_rd (hl.2.2.2.2.1 7 (by omega) (by omega) _ g)) rfl (fun k => ?_) (fun k => ?_)
    · refine ⟨_, ct_treadDown (X := X) (l := l) hl g, ?_⟩
      rintro v σ' ⟨rfl, I', rfl, hz, hf⟩
      refine ⟨by decide, by simp [g, k, zi], I', rfl, fun _ => ?_, hf.mono (by simp)⟩
      rw [zl_ow_congr (L := L) (L' := zl_tr L (zl_ow L 6) (zy_d T (a + 1))) rfl rfl rfl rfl 6]
      exact hz
    · exact ⟨by decide, by simp [g, k, zi], I, rfl, fun z => by simp [g, k] at z, zf_fr.rf⟩
theorem ct_tDays (hl : zl_at 11 L (zl_ow L 6) I) {a : Nat} (hb : zy_n2 T (a + 1) ≤ 99) (hd : L 10 0 ≤ 999) (hc : T a ≠ 112 ∧ T a ≠ 114 ∧ T a ≠ 116 ∧ T a ≠ 103) : fw_Sem X l mX3_tellDays [.ref 11, .int (nI (zy_n2 T (a + 1)))] (fw_sh, I) (zy_Q (zy_ex L T a) (zy_ok L T a) I) := by
  have eok : zy_ok L T a = decide (1 ≤ zy_n2 T (a + 1) ∧ zy_n2 T (a + 1) ≤ 60 ∧ L 10 0 + zy_n2 T (a + 1) ≤ 999) := by unfold zy_ok; rw [if_neg hc.1, if_neg hc.2.1, if_neg hc.2.2.1, if_neg hc.2.2.2]
  have eex : zy_ex L T a = zl_pd L (zl_ow L 6) (zy_n2 T (a + 1)) := by unfold zy_ex; rw [if_neg hc.1, if_neg hc.2.1, if_neg hc.2.2.1, if_neg hc.2.2.2]
  rw [eok, eex]
  refine fw_enter [] 100 ok_X3_tellDays ⟨_, wc_X3_tellDays⟩ rfl rfl rfl ?_
  refine zq_lt (zy_n2 T (a + 1)) 1 rfl rfl (fun g => ?_) (fun g => ?_)
  · exact ⟨by decide, by simp [show ¬ 1 ≤ zy_n2 T (a + 1) by omega, zi], I, rfl, fun z => absurd z (by simp; omega), zf_fr.rf⟩
  refine zq_lt 60 (zy_n2 T (a + 1)) rfl rfl (fun g2 => ?_) (fun g2 => ?_)
  · exact ⟨by decide, by simp [show ¬ zy_n2 T (a + 1) ≤ 60 by omega, zi], I, rfl, fun z => absurd z (by simp; omega), zf_fr.rf⟩
  refine zq_le (L 10 0 + zy_n2 T (a + 1)) 999 ?_ rfl (fun g3 => ?_) (fun g3 => ?_)
  · show I 11 10 + nI (zy_n2 T (a + 1)) = _
    rw [hl.2.2.2.2.2.2.1, nI_add]
  · refine ⟨_, ct_passDays (X := X) (l := l) hl (N := zy_n2 T (a + 1)) (by omega) (by omega), ?_⟩
    rintro v σ' ⟨rfl, I', rfl, hz, hf⟩
    refine ⟨by decide, by simp [g, g2, g3, zi], I', rfl, fun _ => ?_, hf.mono (by simp)⟩
    rw [zl_ow_congr (L := L) (L' := zl_pd L (zl_ow L 6) (zy_n2 T (a + 1))) rfl rfl rfl rfl 6]
    exact hz
  · exact ⟨by decide, by simp [show ¬ L 10 0 + zy_n2 T (a + 1) ≤ 999 by omega, zi], I, rfl, fun z => absurd z (by simp; omega), zf_fr.rf⟩
theorem zl_at_fg (hl : zl_at 11 L (zl_ow L 6) I) {I' : Nat → Nat → Int32} {a b v : Nat} (hv : v ≤ 9) (hf : zf_fr [12] I I') (hg : ∀ j, j < 36 → I' 12 j = nI (if a ≤ j ∧ j ≤ b then v else L 0 j)) : zl_at 11 (zl_fg L a b v) (zl_ow (zl_fg L a b v) 6) I' := by
  rw [zl_ow_congr (L := L) (L' := zl_fg L a b v) rfl rfl rfl rfl 6]
  obtain ⟨hd, hw, h0, h1, h2, h3, h4, h5⟩ := hl
  refine ⟨hd, ⟨hw.1, hw.2.1, fun y hy => ?_, hw.2.2.2⟩, fun y hy => ?_, fun y hy => by rw [hf _ (by simp)]; exact h1 y hy, fun k hk1 hk2 q hq => ?_, by rw [hf _ (by simp)]; exact h3, by rw [hf _ (by simp)]; exact h4, fun p hp => by rw [hf _ (by simp)]; exact h5 p hp⟩
  · have := hw.2.2.1 y hy
    simp only [zl_fg, true_and]
    split <;> omega
  · rw [hg y hy]; simp only [zl_fg, true_and]
  · rw [hf _ (by simp; omega), show zl_fg L a b v k q = L k q by simp [zl_fg, show ¬ k = 0 by omega]]
    exact h2 k hk1 hk2 q hq
theorem ct_tGrown (h : zy_tx T n I) (hl : zl_at 11 L (zl_ow L 6) I) {a : Nat} (hw : zy_wf T n a) (hc : T a = 103) : fw_Sem X l mX3_tellGrown [.ref 34, .ref 11, .int (nI (a + 1))] (fw_sh, I) (zy_Q (zy_ex L T a) (zy_ok L T a) I) := by
  have hfm : zy_fm (T a) = 3 := by rw [hc]; rfl
  have dg : ∀ j, j ≤ 4 → zy_dg T n (a + 1 + j) := fun j h2 => zy_wf_dg hw (by rw [hfm]; show j < 6; omega) (by rw [hfm]; rcases (show j = 0 ∨ j = 1 ∨ j = 2 ∨ j = 3 ∨ j = 4 by omega) with rfl | rfl | rfl | rfl | rfl <;> rfl)
  have n1 := ct_num2 (X := X) (l := l) h (p := a + 1) (dg 0 (by omega)) (dg 1 (by omega))
  have n2 := ct_num2 (X := X) (l := l) h (p := a + 3) (dg 2 (by omega)) (dg 3 (by omega))
  have b1 : zy_n2 T (a + 1) ≤ 99 := zy_n99 (dg 0 (by omega)) (dg 1 (by omega))
  have b2 : zy_n2 T (a + 3) ≤ 99 := zy_n99 (p := a + 3) (dg 2 (by omega)) (dg 3 (by omega))
  have b3 : zy_d T (a + 5) ≤ 9 := zy_d9 (p := a + 5) (dg 4 (by omega))
  have e2 : nI (a + 1) + 2 = nI (a + 3) := nI_add (a + 1) 2
  have e4 : nI (a + 1) + 4 = nI (a + 5) := nI_add (a + 1) 4
  rw [← e2] at n2
  have eok : zy_ok L T a = decide (zy_n2 T (a + 1) < 36 ∧ zy_n2 T (a + 3) < 36 ∧ zy_n2 T (a + 1) ≤ zy_n2 T (a + 3)) := by unfold zy_ok; rw [if_neg (by omega), if_neg (by omega), if_neg (by omega), if_pos hc]
  have eex : zy_ex L T a = zl_fg L (zy_n2 T (a + 1)) (zy_n2 T (a + 3)) (zy_d T (a + 5)) := by unfold zy_ex; rw [if_neg (by omega), if_neg (by omega), if_neg (by omega), if_pos hc]
  rw [eok, eex]
  have g0 := hl.2.2.1
  have loop := fun (hok : zy_n2 T (a + 1) < 36 ∧ zy_n2 T (a + 3) < 36 ∧ zy_n2 T (a + 1) ≤ zy_n2 T (a + 3)) => zl_down (N := zy_n2 T (a + 3) + 1) (G := fun y => zy_n2 T (a + 1) ≤ y → ∀ I', zf_fr [12] I I' → (∀ j, j < 36 → I' 12 j = nI (if zy_n2 T (a + 1) ≤ j ∧ j < y then zy_d T (a + 5) else L 0 j)) → fw_Go X l mX3_tellGrown (zy_Q (zl_fg L (zy_n2 T (a + 1)) (zy_n2 T (a + 3)) (zy_d T (a + 5))) (decide (zy_n2 T (a + 1) < 36 ∧ zy_n2 T (a + 3) < 36 ∧ zy_n2 T (a + 1) ≤ zy_n2 T (a + 3))) I) 43 0 0 [some (.ref 34), some (.ref 11), some (.int (nI (a + 1))), some (.int (nI (zy_n2 T (a + 1)))), some (.int (nI (zy_n2 T (a + 3)))), some (.int (nI y))] [] (fw_sh, I')) (by
    intro hy I' hf hg
    refine fw_from [43] 100 25 ok_X3_tellGrown ⟨_, wc_X3_tellGrown⟩ rfl ?_
    refine zq_lt (zy_n2 T (a + 3)) (zy_n2 T (a + 3) + 1) rfl rfl (fun _ => ?_) (fun z => absurd z (by omega))
    refine ⟨by decide, by simp [hok, zi], I', rfl, fun _ => zl_at_fg hl b3 hf (fun j hj => ?_), hf.mono (by simp)⟩
    rw [hg j hj]
    simp only [show (j < zy_n2 T (a + 3) + 1 ↔ j ≤ zy_n2 T (a + 3)) by omega]) (fun y hy ih => by
    intro hay I' hf hg
    have n3 := ct_num1 (X := X) (l := l) (zy_fr h (hf.mono (by simp))) (p := a + 5) (dg 4 (by omega))
    rw [← e4] at n3
    refine fw_from [43] 100 25 ok_X3_tellGrown ⟨_, wc_X3_tellGrown⟩ rfl ?_
    refine zq_lt (zy_n2 T (a + 3)) y rfl rfl (fun z => absurd z (by omega)) (fun _ => ?_)
    refine ⟨_, n3, ?_⟩
    rintro v σ' ⟨rfl, rfl⟩
    refine And.intro (fw_in1 y 36 (by omega)) ?_
    refine fw_sub (ih (by omega) (fw_up I' 12 y (nI (zy_d T (a + 5)))) (hf.up (by simp)) (fun j hj => ?_)) (by simp only [nI_1]) (by rw [nI_clamp (by omega)])
    by_cases e : j = y
    · subst e; rw [fw_up_at, if_pos ⟨hay, by omega⟩]
    · rw [fw_up_k e, hg j hj]
      simp only [show (j < y + 1 ↔ j < y) by omega])
  refine fw_enter [43] 100 ok_X3_tellGrown ⟨_, wc_X3_tellGrown⟩ rfl rfl rfl ?_
  refine ⟨_, n1, ?_⟩
  rintro v σ' ⟨rfl, rfl⟩
  refine ⟨_, n2, ?_⟩
  rintro v σ' ⟨rfl, rfl⟩
  have y1 := ct_isYard (X := X) (l := l) (I := I) (nI (zy_n2 T (a + 1)))
  have y2 := ct_isYard (X := X) (l := l) (I := I) (nI (zy_n2 T (a + 3)))
  rw [zb_in_nI (by omega)] at y1 y2
  refine ⟨_, y1, ?_⟩
  rintro v σ' ⟨rfl, rfl⟩
  refine zq_br (zi_eq0 _) (fun g1 => ?_) (fun g1 => ?_)
  · have g1 : ¬ zy_n2 T (a + 1) < 36 := by simpa using g1
    exact ⟨by decide, by simp [g1, zi], I, rfl, fun z => by simp [g1] at z, zf_fr.rf⟩
  have g1 : zy_n2 T (a + 1) < 36 := by simpa using g1
  refine ⟨_, y2, ?_⟩
  rintro v σ' ⟨rfl, rfl⟩
  refine zq_br (zi_eq0 _) (fun g2 => ?_) (fun g2 => ?_)
  · have g2 : ¬ zy_n2 T (a + 3) < 36 := by simpa using g2
    exact ⟨by decide, by simp [g2, zi], I, rfl, fun z => by simp [g2] at z, zf_fr.rf⟩
  have g2 : zy_n2 T (a + 3) < 36 := by simpa using g2
  refine zq_le (zy_n2 T (a + 1)) (zy_n2 T (a + 3)) rfl rfl (fun g3 => ?_) (fun g3 => ?_)
  · exact fw_sub (loop ⟨g1, g2, g3⟩ (zy_n2 T (a + 1)) (by omega) (by omega) I zf_fr.rf (fun j hj => by rw [if_neg (by omega)]; exact g0 j hj)) (by rfl) rfl
  · have g3 : ¬ zy_n2 T (a + 1) ≤ zy_n2 T (a + 3) := by omega
    exact ⟨by decide, by simp [g3, zi], I, rfl, fun z => by simp [g3] at z, zf_fr.rf⟩
end zY3
