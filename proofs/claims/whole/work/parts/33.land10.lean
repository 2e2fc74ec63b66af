def zl_can (L : Nat → Nat → Nat) (c e g : Nat) : Bool := decide (L 9 0 < 6 ∧ c < 36 ∧ 1 ≤ e ∧ 1 ≤ g ∧ c / 6 + e ≤ 6 ∧ c % 6 + g ≤ 6)
def zl_lay (L : Nat → Nat → Nat) (a b c e g : Nat) : Nat → Nat → Nat := fun k j => if k = 9 then L 9 j + 1 else if j = L 9 0 then (if k = 2 then a else if k = 3 then b else if k = 4 then c else if k = 5 then e else if k = 6 then g else if k = 7 then 0 else L k j) else L k j
section zM
variable {X : Nat × (Nat → Int32)} {l : Launch} {I : Nat → Nat → Int32} {d : Nat} {L : Nat → Nat → Nat} {ow : Nat → Nat}
theorem ct_canLay (h : zl_at d L ow I) {c e g : Nat} (hc : c < 1000) (he : e < 1000) (hg : g < 1000) : zs_p X l mX1_canLay [.ref d, .int (nI c), .int (nI e), .int (nI g)] I (zi (zl_can L c e g)) := by
  obtain ⟨hd, hw, h0, h1, h2, h3, h4, h5⟩ := id h
  have hP := hw.1
  have c6 : nI c / 6 = nI (c / 6) := pk_div (d := 6) (by omega) (by omega) (by omega)
  have cr : nI c - nI c / 6 * 6 = nI (c % 6) := pk_rem (d := 6) (by omega) (by omega) (by omega)
  have c1 := ct_isYard (X := X) (l := l) (I := I) (nI c)
  rw [zb_in_nI (by omega)] at c1
  refine fw_enter [] 100 ok_X1_canLay ⟨_, wc_X1_canLay⟩ rfl rfl rfl ?_
  rcases hd with rfl | rfl | rfl <;>
  · refine zq_le 6 (L 9 0) rfl h3 (fun q => ?_) (fun q => ?_)
    · exact ⟨by decide, zr_0 (by omega), rfl⟩
    refine ⟨_, c1, ?_⟩
    rintro v σ' ⟨rfl, rfl⟩
    refine zq_br (zi_eq0 _) (fun q2 => ?_) (fun q2 => ?_)
    · exact ⟨by decide, zr_0 (fun z => by simp at q2; omega), rfl⟩
    have q2 : c < 36 := by simpa using q2
    refine zq_lt e 1 rfl rfl (fun q3 => ?_) (fun q3 => ?_)
    · exact ⟨by decide, zr_0 (by omega), rfl⟩
    refine zq_lt g 1 rfl rfl (fun q4 => ?_) (fun q4 => ?_)
    · exact ⟨by decide, zr_0 (by omega), rfl⟩
    refine And.intro (by decide) ?_
    refine zq_lt 6 (c / 6 + e) rfl ?_ (fun q5 => ?_) (fun q5 => ?_)
    · rw [c6, nI_add]
    · exact ⟨by decide, zr_0 (by omega), rfl⟩
    refine And.intro (by decide) ?_
    refine zq_lt 6 (c % 6 + g) rfl ?_ (fun q6 => ?_) (fun q6 => ?_)
    · rw [cr, nI_add]
    · exact ⟨by decide, zr_0 (by omega), rfl⟩
    · exact ⟨by decide, zr_1 (by omega), rfl⟩
theorem ct_lay (h : zl_at d L ow I) {a b c e g : Nat} (ha : a ≤ 5) (hb : b ≤ 9) (hcan : zl_can L c e g = true) : fw_Sem X l mX1_lay [.ref d, .int (nI a), .int (nI b), .int (nI c), .int (nI e), .int (nI g)] (fw_sh, I) (fun r σ => r = none ∧ ∃ I', σ = (fw_sh, I') ∧ zl_at d (zl_lay L a b c e g) (zl_ow (zl_lay L a b c e g) 6) I' ∧ zf_fr [d, d + 2, d + 3, d + 4, d + 5, d + 6, d + 7, d + 8] I I') := by
  obtain ⟨hd, hw, h0, h1, h2, h3, h4, h5⟩ := id h
  have hcc := hcan
  simp only [zl_can, decide_eq_true_eq] at hcc
  obtain ⟨q1, q2, q3, q4, q5, q6⟩ := hcc
  have c1 := ct_canLay (X := X) (l := l) h (c := c) (e := e) (g := g) (by omega) (by omega) (by omega)
  rw [hcan] at c1
  obtain ⟨J, hJ⟩ : ∃ J, J = fw_up (fw_up (fw_up (fw_up (fw_up (fw_up (fw_up I (d + 3) (L 9 0) (nI a)) (d + 4) (L 9 0) (nI b)) (d + 5) (L 9 0) (nI c)) (d + 6) (L 9 0) (nI e)) (d + 7) (L 9 0) (nI g)) (d + 8) (L 9 0) 0) d 9 (nI (L 9 0 + 1)) := ⟨_, rfl⟩
  have hF : zf_fr [d, d + 2, d + 3, d + 4, d + 5, d + 6, d + 7, d + 8] I J := by
    subst hJ
    exact ((((((zf_fr.rf.up (by simp)).up (by simp)).up (by simp)).up (by simp)).up (by simp)).up (by simp)).up (by simp)
  have hL9 : zl_lay L a b c e g 9 0 = L 9 0 + 1 := by simp [zl_lay]
  have hA : zl_at d (zl_lay L a b c e g) (fun y => if ow y < L 9 0 then ow y else 6) J := by
    refine ⟨hd, ⟨by rw [hL9]; omega, by simpa [zl_lay] using hw.2.1, fun y hy => ?_, fun p hp => ?_⟩, fun y hy => ?_, fun y hy => ?_, fun k hk1 hk2 p hp => ?_, ?_, ?_, fun p hp => ?_⟩
    · have := hw.2.2.1 y hy
      simp only [zl_lay]
      simp [this]
    · rw [hL9] at hp
      by_cases hpe : p = L 9 0
      · subst hpe; simp [zl_lay]; omega
      · have := hw.2.2.2 p (by omega)
        simp [zl_lay, hpe]
        omega
    · rw [hF (d + 1) (by simp), h0 y hy]; simp [zl_lay]
    · have : J (d + 2) = I (d + 2) := by
        subst hJ
        rw [fw_up_ne _ (by omega), fw_up_ne _ (by omega), fw_up_ne _ (by omega), fw_up_ne _ (by omega), fw_up_ne _ (by omega), fw_up_ne _ (by omega), fw_up_ne _ (by omega)]
      rw [this, h1 y hy, hL9]
      by_cases ho : ow y < L 9 0
      · simp only [ho, if_true]; rw [zo_some ho, zo_some (by omega)]
      · simp only [ho, if_false]; rw [zo_none ho, zo_none (by omega)]
    · rw [hL9] at hp
      subst hJ
      by_cases hpe : p = L 9 0
      · subst hpe
        rcases hd with rfl | rfl | rfl <;> rcases (show k = 2 ∨ k = 3 ∨ k = 4 ∨ k = 5 ∨ k = 6 ∨ k = 7 by omega) with rfl | rfl | rfl | rfl | rfl | rfl <;> simp [fw_up, zl_lay] <;> rfl
      · have h9 := h2 k hk1 hk2 p (by omega)
        rcases hd with rfl | rfl | rfl <;> rcases (show k = 2 ∨ k = 3 ∨ k = 4 ∨ k = 5 ∨ k = 6 ∨ k = 7 by omega) with rfl | rfl | rfl | rfl | rfl | rfl <;> simp [fw_up, zl_lay, hpe] <;> exact h9
    · subst hJ; rw [fw_up_at, hL9]
    · subst hJ
      simp [fw_up, zl_lay, h4]
    · subst hJ
      simp only [fw_up]
      by_cases hpe : p = L 9 0
      · simp [hpe]; exact Or.inl rfl
      · simp [hpe]; exact h5 p hp
  have c2 := ct_settle (X := X) (l := l) hA 6
  rw [zo_none (by rw [hL9]; omega)] at c2
  refine fw_enter [] 100 ok_X1_lay ⟨_, wc_X1_lay⟩ rfl rfl rfl ?_
  have ix : (nI (L 9 0)).toNatClampNeg = L 9 0 := nI_clamp (by omega)
  have fin : ∀ M, M = J → fw_Sem X l mX1_settleWithout [.ref d, .int (-1)] (fw_sh, M) (fun r σ => r = none ∧ ∃ I', σ = (fw_sh, I') ∧ zl_at d (zl_lay L a b c e g) (zl_ow (zl_lay L a b c e g) 6) I' ∧ zf_fr [d + 2] J I') := fun M hM => by rw [hM]; exact c2
  rcases hd with rfl | rfl | rfl <;>
  · refine ⟨_, c1, ?_⟩
    rintro v σ' ⟨rfl, rfl⟩
    refine zq_brn (zi_eq0 _) (fun _ => ?_) (fun z => by cases z)
    refine And.intro ?_ ?_
    · exact fw_in1 (L 9 0) 6 (by omega) h3
    dsimp only
    rw [h3, ix]
    refine And.intro ?_ ?_
    · exact fw_in1 (L 9 0) 6 (by omega) (by simp (config := { decide := true }) only [fw_up_ne, h3])
    simp (config := { decide := true }) only [fw_up_ne, h3, ix]
    refine And.intro ?_ ?_
    · exact fw_in1 (L 9 0) 6 (by omega) (by simp (config := { decide := true }) only [fw_up_ne, h3])
    simp (config := { decide := true }) only [fw_up_ne, h3, ix]
    refine And.intro ?_ ?_
    · exact fw_in1 (L 9 0) 6 (by omega) (by simp (config := { decide := true }) only [fw_up_ne, h3])
    simp (config := { decide := true }) only [fw_up_ne, h3, ix]
    refine And.intro ?_ ?_
    · exact fw_in1 (L 9 0) 6 (by omega) (by simp (config := { decide := true }) only [fw_up_ne, h3])
    simp (config := { decide := true }) only [fw_up_ne, h3, ix]
    refine And.intro (Or.inl rfl) (And.intro ?_ ?_)
    · exact fw_in1 (L 9 0) 6 (by omega) (by simp (config := { decide := true }) only [fw_up_ne, h3])
    simp (config := { decide := true }) only [fw_up_ne, h3, ix]
    refine ⟨_, fin _ ?_, ?_⟩
    · simp (config := { decide := true }) only [fw_up_ne, h3, nI_1]
      rw [hJ]
    · rintro v σ' ⟨rfl, I', rfl, hz, hf'⟩
      exact ⟨rfl, I', rfl, hz, hF.tr (hf'.mono (by simp))⟩
end zM
