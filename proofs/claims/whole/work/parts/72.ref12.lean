theorem zw_all_t {f : Nat → Bool} : ∀ n, (∀ k, k < n → f k = true) → zw_all f n = true
  | 0, _ => rfl
  | n + 1, h => by simp only [zw_all]; rw [zw_all_t n (fun k hk => h k (by omega)), h n (by omega)]; rfl
theorem zw_all_cong {f g : Nat → Bool} : ∀ n, (∀ k, k < n → f k = g k) → zw_all f n = zw_all g n
  | 0, _ => rfl
  | n + 1, h => by simp only [zw_all]; rw [zw_all_cong n (fun k hk => h k (by omega)), h n (by omega)]
theorem zw_v_pdk {L : Nat → Nat → Nat} {ow : Nat → Nat} {y p : Nat} (hy : ow y = p) (hp : p < L 9 0) (h7 : L 7 p ≤ 1) : ∀ n, zo_pdk L ow n 0 y = zw_v (L 0 y) (L 2 p) (L 3 p) (L 10 0) (1 - L 7 p) n
  | 0 => rfl
  | n + 1 => by
    have ih := zw_v_pdk hy hp h7 n
    have e9 : zo_pdk L ow n 9 0 = L 9 0 := by rw [zo_pdk_k L ow n 9 (by omega) (by omega)]
    show zl_pd (zo_pdk L ow n) ow 1 0 y = _
    simp only [zl_pd, if_true, hy, e9, hp, zl_ov1, ih, zw_v]
    rw [zo_pdk_k L ow n 7 (by omega) (by omega), zo_pdk_k L ow n 2 (by omega) (by omega), zo_pdk_k L ow n 3 (by omega) (by omega), zo_pdk_10]
    by_cases h0 : L 7 p = 0
    · simp only [h0, if_true, Nat.sub_zero]
    · rw [if_neg h0, if_neg (show ¬ 1 - L 7 p = 1 by omega)]
def zl_s2 (L : Nat → Nat → Nat) (r p v : Nat) : Nat → Nat → Nat := fun k j => if k = r ∧ j = p then v else L k j
theorem zm_s2 {w : Nat} {L : Nat → Nat → Nat} {I : Nat → Nat → Int32} (h : zm_l w L I) {r p v : Nat} (hr : (r = 2 ∧ v ≤ 5) ∨ (r = 3 ∧ v ≤ 9)) : zm_l w (zl_s2 L r p v) (fw_up I (39 + r) p (nI v)) := by
  obtain ⟨a1, a2, a3, a4, a5, a6, a7⟩ := h
  have eR : ∀ k, k ≠ r → zl_s2 L r p v k = L k := fun k hk => by funext j; simp [zl_s2, hk]
  have e9 : zl_s2 L r p v 9 0 = L 9 0 := by rw [eR 9 (by omega)]
  refine ⟨⟨by rw [e9]; exact a1.1, by rw [eR 10 (by omega)]; exact a1.2.1, fun y hy => by rw [eR 0 (by omega)]; exact a1.2.2.1 y hy, fun q hq => ?_⟩, fun y hy => ?_, fun k h1 h2 q hq => ?_, ?_, ?_, ?_, ?_⟩
  · rw [e9] at hq
    have wp := a1.2.2.2 q hq
    rw [eR 4 (by omega), eR 5 (by omega), eR 6 (by omega), eR 7 (by omega)]
    refine ⟨?_, ?_, wp.2.2⟩
    · simp only [zl_s2]; split <;> omega
    · simp only [zl_s2]; split <;> omega
  · rw [eR 0 (by omega), fw_up_ne _ (by omega)]; exact a2 y hy
  · rw [e9] at hq
    by_cases kr : k = r
    · subst kr
      by_cases ep : q = p
      · subst ep; simp [zl_s2, fw_up_at]
      · rw [fw_up_k ep]; simp only [zl_s2, ep, and_false, if_false]; exact a3 k h1 h2 q hq
    · rw [eR k kr, fw_up_ne _ (by omega)]; exact a3 k h1 h2 q hq
  · rw [e9, fw_up_ne _ (by omega)]; exact a4
  · rw [e9, fw_up_ne _ (by omega), a5]
    congr 1
    exact zm_s_cong _ (fun p _ => by rw [eR 7 (by omega)])
  · rw [eR 10 (by omega), fw_up_ne _ (by omega)]; exact a6
  · rw [fw_up_ne _ (by omega)]; exact a7
section zR13
variable {X : Nat × (Nat → Int32)} {l : Launch} {I : Nat → Nat → Int32} {s : zS} {w : Nat} {L : Nat → Nat → Nat}
theorem rt_isSo (hl : zm_l 6 L I) {T : Nat → Nat} {R y : Nat} (hR : R ≤ 16) (h26 : I 38 26 = nI R) (hr : ∀ j, j < R → I 54 j = nI (T j)) (h99 : ∀ j, T j ≤ 99) (hd : L 10 0 ≤ 999) (hy : y < 36) : fw_Sem X l mX6_isSo [.ref 38, .int (nI y)] (fw_sh, I) (fun r σ => r = some (.int (zi (zw_all (fun a => decide (T a = zo_pdk L (zl_ow L 6) a 0 y)) R))) ∧ ∃ I', σ = (fw_sh, I') ∧ zh 2 I I') := by
  obtain ⟨f, hf⟩ : ∃ f : Nat → Bool, f = fun a => decide (T a = zo_pdk L (zl_ow L 6) a 0 y) := ⟨_, rfl⟩
  rw [← hf]
  obtain ⟨D, hD⟩ : ∃ D, D = zl_f (fun k => !(f k)) R := ⟨_, rfl⟩
  obtain ⟨sp1, sp2, sp3⟩ := zl_f_sp (fun k => !(f k)) R
  rw [← hD] at sp1 sp2 sp3
  refine fw_enter [8] 100 ok_X6_isSo ⟨_, wc_X6_isSo⟩ rfl rfl rfl ?_
  refine ⟨_, rt_thinks (X := X) (l := l) (I := I), ?_⟩
  rintro v' σ' ⟨rfl, I1, rfl, hK⟩
  have fin : ∀ I2 k (b : Bool), zgw 3 I1 I2 → b = zw_all f R → fw_Go X l mX6_isSo (fun r σ => r = some (.int (zi (zw_all f R))) ∧ ∃ I', σ = (fw_sh, I') ∧ zh 2 I I') 51 0 0 [some (.ref 38), some (.int (nI y)), some (.int (zi b)), some (.int (nI k))] [] (fw_sh, I2) := by
    intro I2 k b hg hv
    refine fw_from [] 100 29 ok_X6_isSo ⟨_, wc_X6_isSo⟩ rfl ?_
    refine ⟨_, rt_forgets (X := X) (l := l) (I := I2), ?_⟩
    rintro v' σ' ⟨rfl, I3, rfl, hB⟩
    exact ⟨zi_nar _, zr_e (by rw [hv]), I3, rfl, zh_mk hK hg hB⟩
  have e26 : ∀ I2, zgw 3 I1 I2 → I2 38 26 = nI R := fun I2 hg => by
    rw [hg 38 26 (by omega) (by omega) (by omega) (by omega) (by omega), hK.2 38 26 (by omega) (by omega)]; exact h26
  have e54 : ∀ I2 k, zgw 3 I1 I2 → k < R → I2 54 (nI k).toNatClampNeg = nI (T k) := fun I2 k hg hk => by
    rw [nI_clamp (by omega), hg 54 k (by omega) (by omega) (by omega) (by omega) (by omega), hK.2 54 k (by omega) (by omega)]; exact hr k hk
  have loop := zl_down (N := D) (G := fun k => ∀ I2, zm_l 6 (zo_pdk L (zl_ow L 6) k) I2 → zgw 3 I1 I2 → fw_Go X l mX6_isSo (fun r σ => r = some (.int (zi (zw_all f R))) ∧ ∃ I', σ = (fw_sh, I') ∧ zh 2 I I') 8 0 0 [some (.ref 38), some (.int (nI y)), some (.int 1), some (.int (nI k))] [] (fw_sh, I2)) (by
    intro I2 hz hg
    have h9 := hz.1.2.2.1 y hy
    have hT := h99 D
    refine fw_from [8, 51] 100 6 ok_X6_isSo ⟨_, wc_X6_isSo⟩ rfl ?_
    refine zq_le R D (e26 I2 hg) rfl (fun q => ?_) (fun q => ?_)
    · exact fw_sub (fin I2 D true hg (by rw [zw_all_t R (fun k hk => by have := sp2 k (by omega); simpa using this)])) (by rfl) rfl
    refine And.intro (fun z => absurd z (by decide)) (fun _ => ?_)
    have fD := sp3 q
    have fD0 : f D = false := by simpa using fD
    rw [hf] at fD0
    have fD1 : ¬ T D = zo_pdk L (zl_ow L 6) D 0 y := by simpa using fD0
    refine And.intro (fw_in1 y 36 hy) ?_
    refine And.intro (fw_in1 D 16 (by omega)) ?_
    refine zq_ne (zo_pdk L (zl_ow L 6) D 0 y) (T D) (zq_rd (hz.2.1 y hy)) (e54 I2 D hg q) (fun _ => ?_) (fun z => absurd z.symm fD1)
    refine ⟨_, rt_dayK (X := X) (l := l) (w := 6) (by omega) hz (by omega), ?_⟩
    rintro v' σ' ⟨rfl, I3, rfl, hz3, hg3⟩
    have ev : false = zw_all f R := (zw_all_f (k := D) (by simpa using fD) R q).symm
    have go8 : fw_Go X l mX6_isSo (fun r σ => r = some (.int (zi (zw_all f R))) ∧ ∃ I', σ = (fw_sh, I') ∧ zh 2 I I') 8 0 0 [some (.ref 38), some (.int (nI y)), some (.int 0), some (.int (nI (D + 1)))] [] (fw_sh, I3) := by
      refine fw_from [51] 100 6 ok_X6_isSo ⟨_, wc_X6_isSo⟩ rfl ?_
      refine zq_le R (D + 1) (e26 I3 (hg.tr hg3.w)) rfl (fun _ => ?_) (fun _ => ?_)
      · exact fw_sub (fin I3 (D + 1) false (hg.tr hg3.w) ev) (by rfl) rfl
      · refine And.intro (fun _ => ?_) (fun z => absurd rfl z)
        exact fw_sub (fin I3 (D + 1) false (hg.tr hg3.w) ev) (by rfl) rfl
    exact fw_sub go8 (by simp only [nI_1]) rfl) (fun k hk ih => by
    intro I2 hz hg
    have h9 := hz.1.2.2.1 y hy
    have hT := h99 k
    have fk := sp2 k hk
    have fk0 : f k = true := by simpa using fk
    rw [hf] at fk0
    have fk1 : T k = zo_pdk L (zl_ow L 6) k 0 y := by simpa using fk0
    refine fw_from [8, 51] 100 6 ok_X6_isSo ⟨_, wc_X6_isSo⟩ rfl ?_
    refine zq_le R k (e26 I2 hg) rfl (fun q => absurd q (by omega)) (fun q => ?_)
    refine And.intro (fun z => absurd z (by decide)) (fun _ => ?_)
    refine And.intro (fw_in1 y 36 hy) ?_
    refine And.intro (fw_in1 k 16 (by omega)) ?_
    refine zq_ne (zo_pdk L (zl_ow L 6) k 0 y) (T k) (zq_rd (hz.2.1 y hy)) (e54 I2 k hg q) (fun z => absurd fk1.symm z) (fun _ => ?_)
    refine ⟨_, rt_dayK (X := X) (l := l) (w := 6) (by omega) hz (by omega), ?_⟩
    rintro v' σ' ⟨rfl, I3, rfl, hz3, hg3⟩
    exact fw_sub (ih I3 hz3 (hg.tr hg3.w)) (by simp only [nI_1]) rfl)
  exact fw_sub (loop 0 (by omega) I1 (hl.K hK) (fun _ _ _ _ _ _ _ => rfl)) (by rfl) rfl
theorem zb_or0 (a : Int32) : a ||| 0 = a := by simp
theorem rt_bitsFor (h : zm_at s I) {r y m : Nat} (hrm : (r = 2 ∧ m = 6) ∨ (r = 3 ∧ m = 10)) (hy : y < 36) (ho : zl_ow s.1 6 y < s.1 9 0) : fw_Sem X l mX6_bitsFor [.ref 38, .ref (39 + r), .int (nI (zl_ow s.1 6 y)), .int (nI m), .int (nI y)] (fw_sh, I) (fun rr σ => rr = some (.int (nI (zw_bits (fun v => zw_so s y (if r = 2 then v else s.1 2 (zl_ow s.1 6 y)) (if r = 2 then s.1 3 (zl_ow s.1 6 y) else v)) m))) ∧ ∃ I', σ = (fw_sh, I') ∧ zh 2 I I') := by
  have hl := h.2.1
  have hP := hl.1.1
  obtain ⟨p, hpd⟩ : ∃ p, p = zl_ow s.1 6 y := ⟨_, rfl⟩
  rw [← hpd] at ho ⊢
  have wp := hl.1.2.2.2 p ho
  obtain ⟨f, hf⟩ : ∃ f : Nat → Bool, f = fun v => zw_so s y (if r = 2 then v else s.1 2 p) (if r = 2 then s.1 3 p else v) := ⟨_, rfl⟩
  rw [← hf]
  have cso : ∀ v J, v < m → (∀ a k, ¬ (a = 50 ∧ 70 * 2 ≤ k) → ¬ (a = 38 ∧ (k = 20 ∨ k = 21)) → ¬ (51 ≤ a ∧ a ≤ 53) → (a = 40 → k < 36) → (41 ≤ a ∧ a ≤ 45 → k < 6) → J a k = fw_up I (39 + r) p (nI v) a k) → fw_Sem X l mX6_isSo [.ref 38, .int (nI y)] (fw_sh, J) (fun r σ => r = some (.int (zi (f v))) ∧ ∃ I', σ = (fw_sh, I') ∧ zh 2 J I') := by
    intro v J hv hJ
    have hz : zm_l 6 (zl_s2 s.1 r p v) J := (zm_s2 hl (r := r) (p := p) (v := v) (by omega)).keep (fun c k hc => hJ c k (by omega) (by omega) (by omega) (by omega) (by omega))
    have eow : zl_ow (zl_s2 s.1 r p v) 6 = zl_ow s.1 6 := zl_ow_congr (by funext j; simp [zl_s2]; omega) (by funext j; simp [zl_s2]; omega) (by funext j; simp [zl_s2]; omega) (by funext j; simp [zl_s2]; omega) 6
    have c1 := rt_isSo (X := X) (l := l) hz (T := s.2.2.1 4) (R := s.2.2.1 3 0) (y := y) h.1.2.2.2.2.1 (by rw [hJ 38 26 (by omega) (by omega) (by omega) (by omega) (by omega), fw_up_ne _ (by omega)]; exact h.2.2.2.2.2.2.1) (fun j hj => by rw [hJ 54 j (by omega) (by omega) (by omega) (by omega) (by omega), fw_up_ne _ (by omega)]; exact h.2.2.2.2.2.2.2.1 j hj) h.1.2.2.2.2.2.1 (by have := h.1.1; simp only [zl_s2]; rw [if_neg (by omega)]; exact this) hy
    have ef : zw_all (fun a => decide (s.2.2.1 4 a = zo_pdk (zl_s2 s.1 r p v) (zl_ow (zl_s2 s.1 r p v) 6) a 0 y)) (s.2.2.1 3 0) = f v := by
      rw [hf]
      refine zw_all_cong _ (fun a _ => ?_)
      have q0 : zl_s2 s.1 r p v 0 y = s.1 0 y := by simp only [zl_s2]; rw [if_neg (by omega)]
      have q10 : zl_s2 s.1 r p v 10 0 = s.1 10 0 := by simp only [zl_s2]; rw [if_neg (by omega)]
      have q7 : zl_s2 s.1 r p v 7 p = s.1 7 p := by simp only [zl_s2]; rw [if_neg (by omega)]
      have q2 : zl_s2 s.1 r p v 2 p = if r = 2 then v else s.1 2 p := by
        simp only [zl_s2, and_true]
        by_cases e : r = 2
        · rw [if_pos e.symm, if_pos e]
        · rw [if_neg (fun z => e z.symm), if_neg e]
      have q3 : zl_s2 s.1 r p v 3 p = if r = 2 then s.1 3 p else v := by
        simp only [zl_s2, and_true]
        by_cases e : r = 2
        · rw [if_neg (by omega), if_pos e]
        · rw [if_pos (by omega), if_neg e]
      rw [zw_v_pdk (p := p) (by rw [eow]; exact hpd.symm) (by simp only [zl_s2]; rw [if_neg (by omega)]; exact ho) (by rw [q7]; exact wp.2.2.2.2.2.2.2), q0, q10, q7, q2, q3, hpd]
    rw [ef] at c1
    exact c1
  have hIp : ∀ a k, ¬ (a = 39 + r ∧ k = p) → ∀ x, fw_up I (39 + r) p x a k = I a k := fun a k hn x => fw_up_p a k (fun e z => hn ⟨e, z⟩)
  have loop := zl_down (N := m) (G := fun v => ∀ I1, (∀ a k, ¬ (a = 39 + r ∧ k = p) → ¬ (a = 50 ∧ 70 * 2 ≤ k) → ¬ (a = 38 ∧ (k = 20 ∨ k = 21)) → ¬ (51 ≤ a ∧ a ≤ 53) → (a = 40 → k < 36) → (41 ≤ a ∧ a ≤ 45 → k < 6) → I1 a k = I a k) → fw_Go X l mX6_bitsFor (fun rr σ => rr = some (.int (nI (zw_bits f m))) ∧ ∃ I', σ = (fw_sh, I') ∧ zh 2 I I') 11 0 0 [some (.ref 38), some (.ref (39 + r)), some (.int (nI p)), some (.int (nI m)), some (.int (nI y)), some (.int (I (39 + r) p)), some (.int (nI (zw_bits f v))), some (.int (nI v))] [] (fw_sh, I1)) (by
    intro I1 hI
    rcases hrm with ⟨rfl, rfl⟩ | ⟨rfl, rfl⟩
    · refine fw_from [11] 100 8 ok_X6_bitsFor ⟨_, wc_X6_bitsFor⟩ rfl ?_
      refine zq_le 6 6 rfl rfl (fun _ => ?_) (fun h => absurd h (by omega))
      refine And.intro (fw_in1 p 6 (by omega)) ?_
      refine ⟨rfl, _, rfl, fun a k h1 h2 h3 h4 h5 => ?_⟩
      rw [nI_clamp (by omega)]
      by_cases e : a = 41 ∧ k = p
      · rw [e.1, e.2, fw_up_at]
      · rw [fw_up_p a k (by omega)]; exact hI a k e h1 h2 h3 h4 h5
    · refine fw_from [11] 100 8 ok_X6_bitsFor ⟨_, wc_X6_bitsFor⟩ rfl ?_
      refine zq_le 10 10 rfl rfl (fun _ => ?_) (fun h => absurd h (by omega))
      refine And.intro (fw_in1 p 6 (by omega)) ?_
      refine ⟨rfl, _, rfl, fun a k h1 h2 h3 h4 h5 => ?_⟩
      rw [nI_clamp (by omega)]
      by_cases e : a = 42 ∧ k = p
      · rw [e.1, e.2, fw_up_at]
      · rw [fw_up_p a k (by omega)]; exact hI a k e h1 h2 h3 h4 h5) (fun v hv ih => by
    intro I1 hI
    have cs := cso v (fw_up I1 (39 + r) p (nI v)) hv (fun a k h1 h2 h3 h4 h5 => by
      by_cases e : a = 39 + r ∧ k = p
      · rw [e.1, e.2, fw_up_at, fw_up_at]
      · rw [fw_up_p a k (fun e1 z => e ⟨e1, z⟩), hIp a k e]; exact hI a k e h1 h2 h3 h4 h5)
    have go : ∀ I2, zh 2 (fw_up I1 (39 + r) p (nI v)) I2 → fw_Go X l mX6_bitsFor (fun rr σ => rr = some (.int (nI (zw_bits f m))) ∧ ∃ I', σ = (fw_sh, I') ∧ zh 2 I I') 11 0 0 [some (.ref 38), some (.ref (39 + r)), some (.int (nI p)), some (.int (nI m)), some (.int (nI y)), some (.int (I (39 + r) p)), some (.int (nI (zw_bits f (v + 1)))), some (.int (nI (v + 1)))] [] (fw_sh, I2) := fun I2 hh => ih I2 (fun a k e h1 h2 h3 h4 h5 => by
      rw [hh a k h1 h2 h3 h4 h5, fw_up_p a k (fun e1 z => e ⟨e1, z⟩)]; exact hI a k e h1 h2 h3 h4 h5)
    rcases hrm with ⟨rfl, rfl⟩ | ⟨rfl, rfl⟩
    all_goals
      refine fw_from [11] 100 8 ok_X6_bitsFor ⟨_, wc_X6_bitsFor⟩ rfl ?_
      refine zq_le _ v rfl rfl (fun h => absurd h (by omega)) (fun _ => ?_)
      refine And.intro (fw_in1 p 6 (by omega)) ?_
      rw [← nI_clamp (n := p) (by omega)] at cs
      refine ⟨_, cs, ?_⟩
      rintro v' σ' ⟨rfl, I2, rfl, hh⟩
      rw [nI_clamp (n := p) (by omega)] at hh
      refine zq_br (zi_eq0 _) (fun k => ?_) (fun k => ?_)
      · exact fw_sub (go I2 hh) (by rw [zb_or0]; simp [zw_bits, zm_s, k, nI_1]) rfl
      · have k : f v = true := by simpa using k
        exact fw_sub (go I2 hh) (by rw [zb_or10 v (by omega) _ (zw_bits_lt _ v), nI_1]; simp [zw_bits, zm_s, k]) rfl)
  rcases hrm with ⟨rfl, rfl⟩ | ⟨rfl, rfl⟩
  all_goals
    refine fw_enter [11] 100 ok_X6_bitsFor ⟨_, wc_X6_bitsFor⟩ rfl rfl rfl ?_
    refine And.intro (fw_in1 p 6 (by omega)) ?_
    refine fw_sub (loop 0 (by omega) I (fun a k _ _ _ _ _ _ => rfl)) ?_ rfl
    dsimp only
    rw [nI_clamp (n := p) (by omega)]; rfl
theorem cm_what (h : zm_at s I) (y w : Int32) : zs_m X l mX6_whatWas [.ref 38, .int y, .int w] I (zo_what s y w) := by
  have hl := h.2.1
  have hP := hl.1.1
  have no : ∀ c, 1 ≤ c → c ≤ 6 → zo_what s y w = zx_no s c → fw_Go X l mX6_whatWas (fun r σ => r = some (.int (zo_what s y w).1) ∧ ∃ I', σ = (fw_sh, I') ∧ zm_at (zo_what s y w).2 I' ∧ zf_lo I I') 39 0 0 [some (.ref 38), some (.int y), some (.int w), none] [.int (zn_g c)] (fw_sh, I) := by
    intro c hc1 hc6 e
    refine fw_from [] 100 19 ok_X6_whatWas ⟨_, wc_X6_whatWas⟩ rfl ?_
    refine zq_br (zn_g0 hc6) (fun z => absurd z (by omega)) (fun _ => ?_)
    refine ⟨_, rt_no (X := X) (l := l) h hc1 hc6, fun v σ' hq => ?_⟩
    obtain ⟨rfl, I', rfl, h1, h2⟩ := hq
    exact zm_end e ⟨rfl, I', rfl, h1, h2⟩
  refine fw_enter [39] 100 ok_X6_whatWas ⟨_, wc_X6_whatWas⟩ rfl rfl rfl ?_
  refine ⟨_, rt_isYard (X := X) (l := l) (I := I) y, ?_⟩
  rintro v' σ' ⟨rfl, rfl⟩
  refine zq_brn (zi_eq0 _) (fun g => ?_) (fun g => ?_)
  · have g : zb_in y 36 = true := by simpa using g
    obtain ⟨q, hq, rfl⟩ := zb_in_of g (by omega)
    have ec := nI_clamp (n := q) (by omega)
    refine ⟨_, rt_oth (X := X) (l := l) (I := I) w 1, ?_⟩
    rintro v' σ' ⟨rfl, rfl⟩
    refine zq_brn (zi_eq0 _) (fun g1 => ?_) (fun g1 => ?_)
    · have g1 : zk_oth w 1 = 0 := by simpa using g1
      have co := rt_ownerOf (X := X) (l := l) hl hq (by omega)
      refine ⟨_, co, ?_⟩
      rintro v' σ' ⟨rfl, rfl⟩
      refine zq_br (c := 0 ≤ z9_o (s.1 9 0) (zl_ow s.1 6 q)) (d := zl_ow s.1 6 q < s.1 9 0) ?_ (fun ho => ?_) (fun ho => ?_)
      · rw [← Int32.not_lt, z9_neg (by omega)]; exact Decidable.not_not
      · obtain ⟨u, hu, rfl⟩ := zk_oth_sp g1
        have eu := nI_clamp (n := u) (by omega)
        have e1 : zk_first (zk_oth (nI u) 1) (if zl_ow s.1 6 q < s.1 9 0 then 0 else 3) = 0 := by rw [g1, if_pos ho]; rfl
        have eo := z9_some ho
        simp only [zo_what, g, ec, e1, eu, if_true]
        refine fw_from [] 100 19 ok_X6_whatWas ⟨_, wc_X6_whatWas⟩ rfl ?_
        refine And.intro (fun _ => ?_) (fun z => absurd rfl z)
        refine zq_ne u 0 rfl rfl (fun u0 => ?_) (fun u0 => ?_)
        · refine ⟨_, co, ?_⟩
          rintro v' σ' ⟨rfl, rfl⟩
          have cb := rt_bitsFor (X := X) (l := l) h (r := 3) (m := 10) (by omega) hq ho
          rw [← eo] at cb
          refine ⟨_, cb, ?_⟩
          rintro v' σ' ⟨rfl, I', rfl, hh⟩
          rw [if_neg u0]
          exact ⟨rfl, I', rfl, hh.m h, hh.lo⟩
        · refine ⟨_, co, ?_⟩
          rintro v' σ' ⟨rfl, rfl⟩
          have cb := rt_bitsFor (X := X) (l := l) h (r := 2) (m := 6) (by omega) hq ho
          rw [← eo] at cb
          refine ⟨_, cb, ?_⟩
          rintro v' σ' ⟨rfl, I', rfl, hh⟩
          rw [if_pos u0]
          exact ⟨rfl, I', rfl, hh.m h, hh.lo⟩
      · exact fw_sub2 (no 3 (by omega) (by omega) (by
          have e1 : zk_first (zk_oth w 1) (if zl_ow s.1 6 q < s.1 9 0 then 0 else 3) = 3 := by rw [g1, if_neg ho]; rfl
          simp only [zo_what, g, ec, e1, if_true]; rfl)) (by rfl) (by rfl) rfl
    · have g1 : ¬ zk_oth w 1 = 0 := by simpa using g1
      exact fw_sub2 (no 2 (by omega) (by omega) (by
        have e1 : zk_first (zk_oth w 1) (if zl_ow s.1 6 q < s.1 9 0 then 0 else 3) = 2 := by unfold zk_first; rw [if_neg g1, zk_oth2 g1]
        simp only [zo_what, g, ec, e1, if_true]; rfl)) (by rfl) (by rfl) rfl
  · exact fw_sub2 (no 1 (by omega) (by omega) (by simp [zo_what, g])) (by rfl) (by rfl) rfl
end zR13
