theorem zm_lay {L : Nat → Nat → Nat} {I : Nat → Nat → Int32} (h : zm_l 6 L I) {a b c e g : Nat} (ha : a ≤ 5) (hb : b ≤ 9) (hcan : zl_can L c e g = true) : zm_l 6 (zl_lay L a b c e g) (fw_up (fw_up (fw_up (fw_up (fw_up (fw_up I 41 (L 9 0) (nI a)) 42 (L 9 0) (nI b)) 43 (L 9 0) (nI c)) 44 (L 9 0) (nI e)) 45 (L 9 0) (nI g)) 38 7 (nI (L 9 0 + 1))) := by
  have hc := of_decide_eq_true hcan
  obtain ⟨hw, a2, a3, a4, a5, a6, a7⟩ := h
  have e9 : zl_lay L a b c e g 9 0 = L 9 0 + 1 := by simp [zl_lay]
  have e0 : ∀ y, zl_lay L a b c e g 0 y = L 0 y := fun y => by
    simp only [zl_lay]
    rw [if_neg (by omega)]
    split <;> simp
  have e10 : zl_lay L a b c e g 10 0 = L 10 0 := by
    simp only [zl_lay]
    rw [if_neg (by omega)]
    split <;> simp
  have eo : ∀ k p, k ≠ 9 → p ≠ L 9 0 → zl_lay L a b c e g k p = L k p := fun k p h1 h2 => by simp [zl_lay, h1, h2]
  have eP : ∀ k, 2 ≤ k → k ≤ 7 → zl_lay L a b c e g k (L 9 0) = if k = 2 then a else if k = 3 then b else if k = 4 then c else if k = 5 then e else if k = 6 then g else 0 := fun k h1 h2 => by
    simp only [zl_lay, if_true]
    rw [if_neg (by omega)]
    by_cases q2 : k = 2
    · simp [q2]
    by_cases q3 : k = 3
    · simp [q3]
    by_cases q4 : k = 4
    · simp [q4]
    by_cases q5 : k = 5
    · simp [q5]
    by_cases q6 : k = 6
    · simp [q6]
    · simp [q2, q3, q4, q5, q6]; omega
  refine ⟨⟨by rw [e9]; omega, by rw [e10]; exact hw.2.1, fun y hy => by rw [e0]; exact hw.2.2.1 y hy, fun p hp => ?_⟩, fun y hy => ?_, fun k h1 h2 p hp => ?_, ?_, ?_, ?_, ?_⟩
  · rw [e9] at hp
    by_cases hpP : p = L 9 0
    · rw [hpP, eP 2 (by omega) (by omega), eP 3 (by omega) (by omega), eP 4 (by omega) (by omega), eP 5 (by omega) (by omega), eP 6 (by omega) (by omega), eP 7 (by omega) (by omega)]
      simp
      omega
    · rw [eo 2 p (by omega) hpP, eo 3 p (by omega) hpP, eo 4 p (by omega) hpP, eo 5 p (by omega) hpP, eo 6 p (by omega) hpP, eo 7 p (by omega) hpP]
      exact hw.2.2.2 p (by omega)
  · rw [fw_up_ne _ (by omega), fw_up_ne _ (by omega), fw_up_ne _ (by omega), fw_up_ne _ (by omega), fw_up_ne _ (by omega), fw_up_ne _ (by omega), e0]; exact a2 y hy
  · rw [e9] at hp
    by_cases hpP : p = L 9 0
    · rw [hpP, eP k h1 (by omega), fw_up_ne _ (by omega)]
      rcases (show k = 2 ∨ k = 3 ∨ k = 4 ∨ k = 5 ∨ k = 6 by omega) with rfl | rfl | rfl | rfl | rfl
      · rw [fw_up_ne _ (by omega), fw_up_ne _ (by omega), fw_up_ne _ (by omega), fw_up_ne _ (by omega), fw_up_at]; rfl
      · rw [fw_up_ne _ (by omega), fw_up_ne _ (by omega), fw_up_ne _ (by omega), fw_up_at]; rfl
      · rw [fw_up_ne _ (by omega), fw_up_ne _ (by omega), fw_up_at]; rfl
      · rw [fw_up_ne _ (by omega), fw_up_at]; rfl
      · rw [fw_up_at]; rfl
    · rw [eo k p (by omega) hpP, fw_up_ne _ (by omega), fw_up_p _ p (fun _ => hpP), fw_up_p _ p (fun _ => hpP), fw_up_p _ p (fun _ => hpP), fw_up_p _ p (fun _ => hpP), fw_up_p _ p (fun _ => hpP)]
      exact a3 k h1 h2 p (by omega)
  · rw [e9, fw_up_at]
  · rw [e9, fw_up_k (by omega), fw_up_ne _ (by omega), fw_up_ne _ (by omega), fw_up_ne _ (by omega), fw_up_ne _ (by omega), fw_up_ne _ (by omega), a5]
    congr 1
    show _ = zl_rb (zl_lay L a b c e g) (L 9 0) + (if zl_lay L a b c e g 7 (L 9 0) = 0 then 0 else 2 ^ L 9 0)
    rw [eP 7 (by omega) (by omega)]
    simp
    exact (zm_s_cong _ (fun p hp => by rw [eo 7 p (by omega) (by omega)])).symm
  · rw [e10, fw_up_k (by omega), fw_up_ne _ (by omega), fw_up_ne _ (by omega), fw_up_ne _ (by omega), fw_up_ne _ (by omega), fw_up_ne _ (by omega)]; exact a6
  · rw [fw_up_k (by omega), fw_up_ne _ (by omega), fw_up_ne _ (by omega), fw_up_ne _ (by omega), fw_up_ne _ (by omega), fw_up_ne _ (by omega)]; exact a7
abbrev zy_C (L' : Nat → Nat → Nat) (ok : Bool) (I : Nat → Nat → Int32) (r : Option Value) (σ : fw_St) : Prop := r = some (.int (zi ok)) ∧ ∃ I', σ = (fw_sh, I') ∧ (ok = true → zm_l 6 L' I') ∧ zg I I'
section zR19
variable {X : Nat × (Nat → Int32)} {l : Launch} {I : Nat → Nat → Int32} {s : zS} {L : Nat → Nat → Nat} {T : Nat → Nat} {n : Nat}
theorem rt_cPiece (h : zm_l 6 L I) {p a b c e g : Nat} (hp : p + 5 ≤ 240) (h0 : I 49 p = nI a) (h1 : I 49 (p + 1) = nI b) (h2 : I 49 (p + 2) = nI c) (h3 : I 49 (p + 3) = nI e) (h4 : I 49 (p + 4) = nI g) (ha : a ≤ 5) (hb : b ≤ 9) (hc : c ≤ 99) (he : e ≤ 9) (hg : g ≤ 9) : fw_Sem X l mX6_comesPiece [.ref 38, .int (nI p)] (fw_sh, I) (zy_C (zl_lay L a b c e g) (zl_can L c e g) I) := by
  have hP := h.1.1
  have h7 := h.2.2.2.1
  have i2 : nI p + 2 = nI (p + 2) := by rw [show (2 : Int32) = nI 2 from rfl, nI_add]
  have i3 : nI p + 3 = nI (p + 3) := by rw [show (3 : Int32) = nI 3 from rfl, nI_add]
  have i4 : nI p + 4 = nI (p + 4) := by rw [show (4 : Int32) = nI 4 from rfl, nI_add]
  have i1 : nI p + 1 = nI (p + 1) := nI_1 p
  have r0 : I 49 (nI p).toNatClampNeg = nI a := zq_rd h0
  have r1 : I 49 (nI p + 1).toNatClampNeg = nI b := by rw [i1]; exact zq_rd h1
  have r2 : I 49 (nI p + 2).toNatClampNeg = nI c := by rw [i2]; exact zq_rd h2
  have r3 : I 49 (nI p + 3).toNatClampNeg = nI e := by rw [i3]; exact zq_rd h3
  have r4 : I 49 (nI p + 4).toNatClampNeg = nI g := by rw [i4]; exact zq_rd h4
  have cd : nI c / 6 = nI (c / 6) := pk_div (d := 6) (by omega) (by omega) (by omega)
  have cr : nI c - nI c / 6 * 6 = nI (c % 6) := pk_rem (d := 6) (by omega) (by omega) (by omega)
  have cy := rt_isYard (X := X) (l := l) (I := I) (nI c)
  rw [zb_in_nI (by omega), ← r2] at cy
  have bad : ¬ (L 9 0 < 6 ∧ c < 36 ∧ 1 ≤ e ∧ 1 ≤ g ∧ c / 6 + e ≤ 6 ∧ c % 6 + g ≤ 6) → zy_C (zl_lay L a b c e g) (zl_can L c e g) I (some (.int 0)) (fw_sh, I) := fun hn => by
    have e0 : zl_can L c e g = false := decide_eq_false hn
    rw [e0]; exact ⟨rfl, I, rfl, fun z => by (cases z), zg.rf⟩
  refine fw_enter [] 200 ok_X6_comesPiece ⟨_, wc_X6_comesPiece⟩ rfl rfl rfl ?_
  refine And.intro (fw_in1 (p + 2) 240 (by omega) i2) ?_
  refine And.intro (fw_in1 (p + 3) 240 (by omega) i3) ?_
  refine And.intro (fw_in1 (p + 4) 240 (by omega) i4) ?_
  refine zq_eq (L 9 0) 6 h7 rfl (fun k => ⟨by decide, bad (by omega)⟩) (fun k1 => ?_)
  refine ⟨_, cy, ?_⟩
  rintro v σ' ⟨rfl, rfl⟩
  refine zq_br (zi_eq0 _) (fun k => ⟨by decide, bad (fun z => by simp at k; omega)⟩) (fun k2 => ?_)
  have k2 : c < 36 := by simpa using k2
  refine zq_eq e 0 r3 rfl (fun k => ⟨by decide, bad (by omega)⟩) (fun k3 => ?_)
  refine zq_eq g 0 r4 rfl (fun k => ⟨by decide, bad (by omega)⟩) (fun k4 => ?_)
  refine And.intro (by decide) ?_
  refine zq_lt 6 (c / 6 + e) rfl (by dsimp only; rw [r2, r3, cd, nI_add]) (fun k => ⟨by decide, bad (by omega)⟩) (fun k5 => ?_)
  refine And.intro (by decide) ?_
  refine zq_le (c % 6 + g) 6 (by dsimp only; rw [r2, r4, cr, nI_add]) rfl (fun k6 => ?_) (fun k => ⟨by decide, bad (by omega)⟩)
  have hcan : zl_can L c e g = true := decide_eq_true ⟨by omega, k2, by omega, by omega, by omega, k6⟩
  refine And.intro (fw_in1 p 240 (by omega)) ?_
  refine And.intro (fw_in1 (L 9 0) 6 (by omega) h7) ?_
  refine And.intro (fw_in1 (p + 1) 240 (by omega) i1) ?_
  refine And.intro (fw_in1 (L 9 0) 6 (by omega) (by dsimp only; rw [fw_up_ne 38 (by omega)]; exact h7)) ?_
  refine And.intro (fw_in1 (L 9 0) 6 (by omega) (by dsimp only; rw [fw_up_ne 38 (by omega), fw_up_ne 38 (by omega)]; exact h7)) ?_
  refine And.intro (fw_in1 (L 9 0) 6 (by omega) (by dsimp only; rw [fw_up_ne 38 (by omega), fw_up_ne 38 (by omega), fw_up_ne 38 (by omega)]; exact h7)) ?_
  refine And.intro (fw_in1 (L 9 0) 6 (by omega) (by dsimp only; rw [fw_up_ne 38 (by omega), fw_up_ne 38 (by omega), fw_up_ne 38 (by omega), fw_up_ne 38 (by omega)]; exact h7)) ?_
  have hz := zm_lay h ha hb hcan
  refine ⟨by decide, by rw [hcan]; rfl, _, ?_, fun _ => hz, (((((zg.rf.up (by omega)).up (by omega)).up (by omega)).up (by omega)).up (by omega)).up (by omega)⟩
  dsimp only
  simp only [fw_up_ne 38 (show 38 ≠ 41 by omega), fw_up_ne 38 (show 38 ≠ 42 by omega), fw_up_ne 38 (show 38 ≠ 43 by omega), fw_up_ne 38 (show 38 ≠ 44 by omega), fw_up_ne 38 (show 38 ≠ 45 by omega), fw_up_ne 49 (show 49 ≠ 41 by omega), h7, r0, r1, r2, r3, r4, nI_clamp (show L 9 0 < 2 ^ 31 by omega), nI_1, show I 49 (nI (p + 1)).toNatClampNeg = nI b from zq_rd h1]
theorem rt_cGrown (h : zm_l 6 L I) {a b v : Nat} (ha : a ≤ 99) (hb : b ≤ 99) (hv : v ≤ 9) : fw_Sem X l mX6_comesGrown [.ref 38, .int (nI a), .int (nI b), .int (nI v)] (fw_sh, I) (zy_C (zl_fg L a b v) (decide (a < 36 ∧ b < 36 ∧ a ≤ b)) I) := by
  have cy := rt_isYard (X := X) (l := l) (I := I) (nI b)
  rw [zb_in_nI (by omega)] at cy
  have bad : ¬ (a < 36 ∧ b < 36 ∧ a ≤ b) → zy_C (zl_fg L a b v) (decide (a < 36 ∧ b < 36 ∧ a ≤ b)) I (some (.int 0)) (fw_sh, I) := fun hn => by
    rw [decide_eq_false hn]; exact ⟨rfl, I, rfl, fun z => by (cases z), zg.rf⟩
  refine fw_enter [17] 100 ok_X6_comesGrown ⟨_, wc_X6_comesGrown⟩ rfl rfl rfl ?_
  refine ⟨_, cy, ?_⟩
  rintro v' σ' ⟨rfl, rfl⟩
  refine zq_br (zi_eq0 _) (fun k => ⟨by decide, bad (fun z => by simp at k; omega)⟩) (fun k2 => ?_)
  have k2 : b < 36 := by simpa using k2
  refine zq_le a b rfl rfl (fun k3 => ?_) (fun k => ⟨by decide, bad (by omega)⟩)
  have hok : decide (a < 36 ∧ b < 36 ∧ a ≤ b) = true := decide_eq_true ⟨by omega, k2, k3⟩
  rw [hok]
  have loop := zl_down (N := b + 1) (G := fun y => a ≤ y → ∀ I1, zm_l 6 (fun k j => if k = 0 ∧ a ≤ j ∧ j < y then v else L k j) I1 → zg I I1 → fw_Go X l mX6_comesGrown (zy_C (zl_fg L a b v) true I) 17 0 0 [some (.ref 38), some (.int (nI a)), some (.int (nI b)), some (.int (nI v)), some (.int (nI y))] [] (fw_sh, I1)) (by
    intro _ I1 hz hf
    refine fw_from [17] 100 10 ok_X6_comesGrown ⟨_, wc_X6_comesGrown⟩ rfl ?_
    refine zq_lt b (b + 1) rfl rfl (fun _ => ?_) (fun z => absurd z (by omega))
    refine ⟨by decide, rfl, I1, rfl, fun _ => ?_, hf⟩
    have e : zl_fg L a b v = (fun k j => if k = 0 ∧ a ≤ j ∧ j < b + 1 then v else L k j) := by
      funext k j
      simp only [zl_fg, show (j ≤ b ↔ j < b + 1) by omega]
    rw [e]; exact hz) (fun y hy ih => by
    intro hay I1 hz hf
    refine fw_from [17] 100 10 ok_X6_comesGrown ⟨_, wc_X6_comesGrown⟩ rfl ?_
    refine zq_lt b y rfl rfl (fun z => absurd z (by omega)) (fun _ => ?_)
    refine And.intro (fw_in1 y 36 (by omega)) ?_
    refine fw_sub (ih (by omega) (fw_up I1 40 y (nI v)) ?_ (hf.up (by omega))) (by simp only [nI_1]) (by rw [nI_clamp (by omega)])
    have e : (fun k j => if k = 0 ∧ a ≤ j ∧ j < y + 1 then v else L k j) = zl_mk (fun k j => if k = 0 ∧ a ≤ j ∧ j < y then v else L k j) y v := by
      funext k' j
      by_cases ej : j = y
      · subst ej; by_cases ek : k' = 0 <;> simp [zl_mk, ek, hay]
      · simp only [zl_mk, ej, and_false, if_false, show (j < y + 1 ↔ j < y) by omega]
    rw [e]; exact zm_mk hz hv)
  refine fw_sub (loop a (by omega) (Nat.le_refl _) I ?_ zg.rf) (by rfl) rfl
  have e : (fun k j => if k = 0 ∧ a ≤ j ∧ j < a then v else L k j) = L := by funext k j; rw [if_neg (by omega)]
  rw [e]; exact h
theorem rt_cDays (h : zm_l 6 L I) {d : Nat} (hd : d ≤ 99) (hday : L 10 0 ≤ 999) : fw_Sem X l mX6_comesDays [.ref 38, .int (nI d)] (fw_sh, I) (zy_C (zl_pd L (zl_ow L 6) d) (decide (1 ≤ d ∧ d ≤ 60 ∧ L 10 0 + d ≤ 999)) I) := by
  have c1 := rt_isIn (X := X) (l := l) (I := I) (nI d) 1 60
  rw [nI_toInt (by omega), show (1 : Int32).toInt = 1 from rfl, show (60 : Int32).toInt = 60 from rfl] at c1
  have bad : ¬ (1 ≤ d ∧ d ≤ 60 ∧ L 10 0 + d ≤ 999) → zy_C (zl_pd L (zl_ow L 6) d) (decide (1 ≤ d ∧ d ≤ 60 ∧ L 10 0 + d ≤ 999)) I (some (.int 0)) (fw_sh, I) := fun hn => by
    rw [decide_eq_false hn]; exact ⟨rfl, I, rfl, fun z => by (cases z), zg.rf⟩
  refine fw_enter [] 100 ok_X6_comesDays ⟨_, wc_X6_comesDays⟩ rfl rfl rfl ?_
  refine ⟨_, c1, ?_⟩
  rintro v' σ' ⟨rfl, rfl⟩
  refine zq_br (zi_eq0 _) (fun k => ⟨by decide, bad (fun z => by have := of_decide_eq_false k; omega)⟩) (fun k1 => ?_)
  have k1 := of_decide_eq_true (show decide _ = true by simpa using k1)
  refine zq_le (L 10 0 + d) 999 (by show I 38 9 + nI d = _; rw [h.2.2.2.2.2.1, nI_add]) rfl (fun k2 => ?_) (fun k => ⟨by decide, bad (by omega)⟩)
  refine ⟨_, rt_goesN (X := X) (l := l) (w := 6) (by omega) (by omega) h (by omega), ?_⟩
  rintro v' σ' ⟨rfl, I', rfl, hz, hf⟩
  rw [decide_eq_true (show 1 ≤ d ∧ d ≤ 60 ∧ L 10 0 + d ≤ 999 by omega)]
  exact ⟨by decide, rfl, I', rfl, fun _ => hz, hf⟩
theorem zb_xz (x : Int32) : x ^^^ 0 = x := by simp
theorem rt_comes (h : zm_l 6 L I) (hday : L 10 0 ≤ 999) {k a : Nat} (hk : k < 48) (h47 : I 47 k = nI (T a)) (hw : zy_wf T n a) (h255 : ∀ j, T j ≤ 255) (htv : ∀ j, j < zy_tn T a → I 49 (5 * k + j) = nI (zy_tv T a j)) : fw_Sem X l mX6_comes [.ref 38, .int (nI k)] (fw_sh, I) (zy_C (zy_ex L T a) (zy_ok L T a) I) := by
  have hP := h.1.1
  have h255a := h255 a
  have r47 : I 47 (nI k).toNatClampNeg = nI (T a) := zq_rd h47
  have h5 := zy_fm5 hw.1
  have ep : nI 5 * nI k = nI (5 * k) := pk_mul 5 k
  have dgs : ∀ j, j < zy_fl (zy_fm (T a)) → zy_sg (zy_fm (T a)) j = 100 → zy_dg T n (a + 1 + j) := fun j h1 h2 => zy_wf_dg hw h1 h2
  refine fw_enter [] 100 ok_X6_comes ⟨_, wc_X6_comes⟩ rfl rfl rfl ?_
  refine And.intro (fw_in1 k 48 hk) ?_
  have s3 : ∀ j, j < 5 → zy_sg 3 j = 100 := by decide
  have s1 : ∀ j, j < 6 → 1 ≤ j → zy_sg 1 j = 100 := by decide
  have tv0 : 0 < zy_tn T a := by
    unfold zy_tn
    repeat' split
    all_goals omega
  have g0 : I 49 (nI 5 * nI k).toNatClampNeg = nI (zy_tv T a 0) := by rw [ep]; exact zq_rd (htv 0 tv0)
  have j0 : fw_in (nI 5 * nI k) 240 := fw_in1 (5 * k) 240 (by omega) ep
  refine zq_eq (T a) 103 r47 rfl (fun q => ?_) (fun q1 => ?_)
  · have f3 : zy_fm (T a) = 3 := by rw [q]; rfl
    have tn3 : zy_tn T a = 3 := by simp [zy_tn, q]
    have dg : ∀ j, j < 5 → zy_dg T n (a + 1 + j) := fun j hj => dgs j (by rw [f3]; show j < 6; omega) (by rw [f3]; exact s3 j hj)
    have t0 : zy_tv T a 0 = zy_n2 T (a + 1) := by simp [zy_tv, q]
    have t1 : zy_tv T a 1 = zy_n2 T (a + 3) := by simp [zy_tv, q]
    have t2 : zy_tv T a 2 = zy_d T (a + 5) := by simp [zy_tv, q]
    have g1 : I 49 (nI 5 * nI k + 1).toNatClampNeg = nI (zy_n2 T (a + 3)) := by rw [ep, nI_1, ← t1]; exact zq_rd (htv 1 (by omega))
    have g2 : I 49 (nI 5 * nI k + 2).toNatClampNeg = nI (zy_d T (a + 5)) := by rw [ep, show (2 : Int32) = nI 2 from rfl, nI_add, ← t2]; exact zq_rd (htv 2 (by omega))
    have c1 := rt_cGrown (X := X) (l := l) h (zy_n99 (dg 0 (by omega)) (dg 1 (by omega))) (zy_n99 (p := a + 3) (dg 2 (by omega)) (dg 3 (by omega))) (zy_d9 (p := a + 5) (dg 4 (by omega)))
    have e1 : zy_ok L T a = decide (zy_n2 T (a + 1 + 0) < 36 ∧ zy_n2 T (a + 3) < 36 ∧ zy_n2 T (a + 1 + 0) ≤ zy_n2 T (a + 3)) := by simp [zy_ok, q]
    have e2 : zy_ex L T a = zl_fg L (zy_n2 T (a + 1 + 0)) (zy_n2 T (a + 3)) (zy_d T (a + 5)) := by simp [zy_ex, q]
    rw [← e1, ← e2, Nat.add_zero, ← t0, ← g0, ← g1, ← g2] at c1
    refine And.intro j0 ?_
    refine And.intro (fw_in1 (5 * k + 1) 240 (by omega) (by rw [← nI_1, ← ep]; rfl)) ?_
    refine And.intro (fw_in1 (5 * k + 2) 240 (by omega) (by rw [← nI_add, ← ep]; rfl)) ?_
    refine ⟨_, c1, ?_⟩
    rintro v' σ' ⟨rfl, hq⟩
    exact ⟨zi_nar _, rfl, hq⟩
  refine zq_eq (T a) 112 r47 rfl (fun q => ?_) (fun q2 => ?_)
  · have f1 : zy_fm (T a) = 1 := by rw [q]; rfl
    have tn5 : zy_tn T a = 5 := by simp [zy_tn, q]
    have dg : ∀ j, j < 6 → 1 ≤ j → zy_dg T n (a + 1 + j) := fun j hj hj1 => dgs j (by rw [f1]; show j < 7; omega) (by rw [f1]; exact s1 j hj hj1)
    have kd : zy_kd (T (a + 1)) < 6 := by
      have := (hw.2 0 (by rw [f1]; decide)).2
      unfold zy_ft at this
      rw [f1, if_pos (by decide)] at this
      simpa using this
    have t : ∀ j, zy_tv T a j = if j = 0 then zy_kd (T (a + 1)) else if j = 1 then zy_d T (a + 2) else if j = 2 then zy_n2 T (a + 3) else if j = 3 then zy_d T (a + 5) else zy_d T (a + 6) := fun j => by unfold zy_tv; rw [if_pos q]
    have c1 := rt_cPiece (X := X) (l := l) h (p := 5 * k) (a := zy_kd (T (a + 1))) (b := zy_d T (a + 2)) (c := zy_n2 T (a + 3)) (e := zy_d T (a + 5)) (g := zy_d T (a + 6)) (by omega) (by have := htv 0 (by omega); rw [t] at this; exact this) (by have := htv 1 (by omega); rw [t] at this; exact this) (by have := htv 2 (by omega); rw [t] at this; exact this) (by have := htv 3 (by omega); rw [t] at this; exact this) (by have := htv 4 (by omega); rw [t] at this; exact this) (by omega) (zy_d9 (dg 1 (by omega) (by omega))) (zy_n99 (dg 2 (by omega) (by omega)) (dg 3 (by omega) (by omega))) (zy_d9 (dg 4 (by omega) (by omega))) (zy_d9 (dg 5 (by omega) (by omega)))
    have e1 : zy_ok L T a = zl_can L (zy_n2 T (a + 3)) (zy_d T (a + 5)) (zy_d T (a + 6)) := by simp [zy_ok, q]
    have e2 : zy_ex L T a = zl_lay L (zy_kd (T (a + 1))) (zy_d T (a + 2)) (zy_n2 T (a + 3)) (zy_d T (a + 5)) (zy_d T (a + 6)) := by simp [zy_ex, q]
    rw [← e1, ← e2, ← ep] at c1
    refine ⟨_, c1, ?_⟩
    rintro v' σ' ⟨rfl, hq⟩
    exact ⟨zi_nar _, rfl, hq⟩
  refine zq_eq (T a) 114 r47 rfl (fun q => ?_) (fun q3 => ?_)
  · have f2 : zy_fm (T a) = 2 := by rw [q]; rfl
    have d0 := zy_d9 (dgs 0 (by rw [f2]; decide) (by rw [f2]; decide))
    have t0 : zy_tv T a 0 = zy_d T (a + 1 + 0) := by simp [zy_tv, q]
    generalize hu : zy_d T (a + 1 + 0) = u at d0 t0
    rw [t0] at g0
    have e1 : zy_ok L T a = decide (u < L 9 0) := by rw [← hu]; simp [zy_ok, q]
    have e2 : zy_ex L T a = zl_to L u := by rw [← hu]; simp [zy_ex, q]
    rw [e1, e2]
    have ci : ∀ J : Nat → Nat → Int32, (∃ L', zm_l 6 L' J ∧ L' 9 0 = L 9 0) → J 49 = I 49 → zs_p X l mX6_isPiece [.ref 38, .int (J 49 (nI 5 * nI k).toNatClampNeg)] J (zi (decide (u < L 9 0))) := by
      intro J hJ hJ49
      obtain ⟨L', hJ, h9⟩ := hJ
      have c := rt_isPiece (X := X) (l := l) hJ (nI u)
      rw [h9, zb_in_nI (by omega), ← g0, ← hJ49] at c
      exact c
    refine And.intro j0 ?_
    refine ⟨_, ci I ⟨L, h, rfl⟩ rfl, ?_⟩
    rintro v' σ' ⟨rfl, rfl⟩
    refine zq_br (zi_eq0 _) (fun g => ?_) (fun g => ?_)
    · have g' := of_decide_eq_false g
      have ex : fw_up I 38 8 (I 38 8 ^^^ 0) = I := by
        rw [zb_xz]; funext c j
        by_cases e : c = 38 ∧ j = 8
        · rw [e.1, e.2, fw_up_at]
        · exact fw_up_p c j (by omega)
      refine And.intro j0 ?_
      have ci2 := ci (fw_up I 38 8 (I 38 8 ^^^ 0)) ⟨L, by rw [ex]; exact h, rfl⟩ (fw_up_ne 49 (by omega))
      refine ⟨_, ci2, ?_⟩
      rintro v' σ' ⟨rfl, rfl⟩
      rw [ex]
      exact ⟨zi_nar _, rfl, I, rfl, fun z => absurd z (by rw [g]; exact Bool.false_ne_true), zg.rf⟩
    · have g : u < L 9 0 := by simpa using g
      have h7 : ∀ q, q < L 9 0 → L 7 q ≤ 1 := fun q hq => (h.1.2.2.2 q hq).2.2.2.2.2.2.2
      have hx := zb_xx (zl_rb L (L 9 0)) (zl_rb64 hP) u (by omega)
      have et := zl_rb_to hP g h7
      have ev : I 38 8 ^^^ ((1 : Int32) <<< (I 49 (nI 5 * nI k).toNatClampNeg &&& 31)) = nI (zl_rb (zl_to L u) (L 9 0)) := by rw [g0, h.2.2.2.2.1, hx.1, et]
      have hz : zm_l 6 (zl_to L u) (fw_up I 38 8 (I 38 8 ^^^ ((1 : Int32) <<< (I 49 (nI 5 * nI k).toNatClampNeg &&& 31)))) := zm_r7 h (fun k hk => by funext j; simp [zl_to, hk]) (fun p hp => by
        have := h7 p hp
        have := h7 u g
        simp only [zl_to, true_and]
        split <;> omega) ev
      refine And.intro j0 ?_
      refine And.intro j0 ?_
      have ci2 := ci (fw_up I 38 8 (I 38 8 ^^^ ((1 : Int32) <<< (I 49 (nI 5 * nI k).toNatClampNeg &&& 31)))) ⟨_, hz, by simp [zl_to]⟩ (fw_up_ne 49 (by omega))
      refine ⟨_, ci2, ?_⟩
      rintro v' σ' ⟨rfl, rfl⟩
      exact ⟨zi_nar _, rfl, _, rfl, fun _ => hz, zg.rf.up (by omega)⟩
  refine zq_eq (T a) 116 r47 rfl (fun q => ?_) (fun q4 => ?_)
  · have f2 : zy_fm (T a) = 2 := by rw [q]; rfl
    have d0 := zy_d9 (dgs 0 (by rw [f2]; decide) (by rw [f2]; decide))
    have t0 : zy_tv T a 0 = zy_d T (a + 1 + 0) := by simp [zy_tv, q]
    generalize hu : zy_d T (a + 1 + 0) = u at d0 t0
    rw [t0] at g0
    have e1 : zy_ok L T a = decide (u < L 9 0 ∧ L 7 u = 0) := by rw [← hu]; simp [zy_ok, q]
    have e2 : zy_ex L T a = zl_tr L (zl_ow L 6) u := by rw [← hu]; simp [zy_ex, q]
    rw [e1, e2]
    have c := rt_isPiece (X := X) (l := l) h (nI u)
    rw [zb_in_nI (by omega), ← g0] at c
    have bad : ¬ (u < L 9 0 ∧ L 7 u = 0) → zy_C (zl_tr L (zl_ow L 6) u) (decide (u < L 9 0 ∧ L 7 u = 0)) I (some (.int 0)) (fw_sh, I) := fun hn => by
      rw [decide_eq_false hn]; exact ⟨rfl, I, rfl, fun z => by (cases z), zg.rf⟩
    refine And.intro j0 ?_
    refine ⟨_, c, ?_⟩
    rintro v' σ' ⟨rfl, rfl⟩
    refine zq_br (zi_eq0 _) (fun g => ⟨by decide, bad (fun z => of_decide_eq_false g z.1)⟩) (fun g => ?_)
    have g : u < L 9 0 := by simpa using g
    have w7 := (h.1.2.2.2 u g).2.2.2.2.2.2.2
    have cr := rt_rolled (X := X) (l := l) h g
    rw [← g0] at cr
    refine And.intro j0 ?_
    refine ⟨_, cr, ?_⟩
    rintro v' σ' ⟨rfl, rfl⟩
    refine zq_br (zi_eq0 _) (fun g7 => ?_) (fun g7 => ⟨by decide, bad (fun z => by rw [show L 7 u = 1 by simpa using g7] at z; omega)⟩)
    have g7 : ¬ L 7 u = 1 := by simpa using g7
    have ct := rt_trod (X := X) (l := l) h (by omega) g
    rw [← g0] at ct
    refine And.intro j0 ?_
    refine ⟨_, ct, ?_⟩
    rintro v' σ' ⟨rfl, I', rfl, hz, hf⟩
    rw [decide_eq_true (show u < L 9 0 ∧ L 7 u = 0 from ⟨g, by omega⟩)]
    exact ⟨by decide, rfl, I', rfl, fun _ => hz, hf⟩
  · have q5 : T a = 100 := by omega
    have f4 : zy_fm (T a) = 4 := by rw [q5]; rfl
    have d0 := dgs 0 (by rw [f4]; decide) (by rw [f4]; decide)
    have d1 := dgs 1 (by rw [f4]; decide) (by rw [f4]; decide)
    have t0 : zy_tv T a 0 = zy_n2 T (a + 1 + 0) := by simp [zy_tv, q5]
    have c1 := rt_cDays (X := X) (l := l) h (zy_n99 d0 d1) hday
    have e1 : zy_ok L T a = decide (1 ≤ zy_n2 T (a + 1 + 0) ∧ zy_n2 T (a + 1 + 0) ≤ 60 ∧ L 10 0 + zy_n2 T (a + 1 + 0) ≤ 999) := by simp [zy_ok, q5]
    have e2 : zy_ex L T a = zl_pd L (zl_ow L 6) (zy_n2 T (a + 1 + 0)) := by simp [zy_ex, q5]
    rw [← e1, ← e2, ← t0, ← g0] at c1
    refine And.intro j0 ?_
    refine ⟨_, c1, ?_⟩
    rintro v' σ' ⟨rfl, hq⟩
    exact ⟨zi_nar _, rfl, hq⟩
end zR19
