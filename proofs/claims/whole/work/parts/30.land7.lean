theorem zp_sub (P : Nat) : nI P - 1 = zp_I P := by
  cases P with
  | zero => decide
  | succ n => rw [nI_pred]; simp [zp_I]
theorem zp_dec (k : Nat) : zp_I (k + 1) + (-1) = zp_I k := by
  cases k with
  | zero => decide
  | succ n => simp only [zp_I, Nat.succ_ne_zero, if_false, Nat.add_sub_cancel]; exact pk_m1 n
theorem zp_neg {k : Nat} (hk : k < 2 ^ 31) : zp_I k < 0 ↔ k = 0 := by
  unfold zp_I
  split
  · rename_i h; exact ⟨fun _ => h, fun _ => by decide⟩
  · rename_i h; exact ⟨fun z => absurd z (nI_pos (by omega)), fun z => absurd z h⟩
theorem zp_succ (k : Nat) : zp_I (k + 1) = nI k := by simp [zp_I]
section zH
variable {X : Nat × (Nat → Int32)} {l : Launch} {I : Nat → Nat → Int32} {d : Nat} {L : Nat → Nat → Nat} {ow : Nat → Nat}
/-- the land's rows but the owners -/
theorem zl_at.own {I' : Nat → Nat → Int32} (h : zl_at d L ow I) (hf : zf_fr [d + 2] I I') (hz : ∀ j, j < 36 → ∃ m, I' (d + 2) j = zo_I (L 9 0) m) : ∃ ow', zl_at d L ow' I' := by
  obtain ⟨hd, hw, h0, h1, h2, h3, h4, h5⟩ := h
  have h9 : ∀ j, ∃ m, j < 36 → I' (d + 2) j = zo_I (L 9 0) m := fun j => by
    by_cases hj : j < 36
    · obtain ⟨m, hm⟩ := hz j hj; exact ⟨m, fun _ => hm⟩
    · exact ⟨0, fun z => absurd z hj⟩
  obtain ⟨ow', ho⟩ := Classical.axiomOfChoice h9
  refine ⟨ow', hd, hw, fun j hj => ?_, ho, fun q hq1 hq2 r hr => ?_, ?_, ?_, fun q hq => ?_⟩
  · rw [hf (d + 1) (by simp)]; exact h0 j hj
  · rw [hf (d + 1 + q) (by simp; omega)]; exact h2 q hq1 hq2 r hr
  · rw [hf d (by simp)]; exact h3
  · rw [hf d (by simp)]; exact h4
  · rw [hf (d + 8) (by simp)]; exact h5 q hq
theorem zl_at.own2 {I' : Nat → Nat → Int32} {ow' : Nat → Nat} (h : zl_at d L ow I) (hf : zf_fr [d + 2] I I') (ho : ∀ j, j < 36 → I' (d + 2) j = zo_I (L 9 0) (ow' j)) : zl_at d L ow' I' := by
  obtain ⟨hd, hw, h0, h1, h2, h3, h4, h5⟩ := h
  refine ⟨hd, hw, fun j hj => ?_, ho, fun q hq1 hq2 r hr => ?_, ?_, ?_, fun q hq => ?_⟩
  · rw [hf (d + 1) (by simp)]; exact h0 j hj
  · rw [hf (d + 1 + q) (by simp; omega)]; exact h2 q hq1 hq2 r hr
  · rw [hf d (by simp)]; exact h3
  · rw [hf d (by simp)]; exact h4
  · rw [hf (d + 8) (by simp)]; exact h5 q hq
theorem zo_m1 {P : Nat} (h : P ≤ 6) : (-1 : Int32) = zo_I P 6 := by rw [zo_none (by omega)]
theorem ct_settle (h : zl_at d L ow I) (w : Nat) : fw_Sem X l mX1_settleWithout [.ref d, .int (zo_I (L 9 0) w)] (fw_sh, I) (fun r σ => r = none ∧ ∃ I', σ = (fw_sh, I') ∧ zl_at d L (zl_ow L w) I' ∧ zf_fr [d + 2] I I') := by
  obtain ⟨hd, hw, h0, h1, h2, h3, h4, h5⟩ := id h
  have hP := hw.1
  obtain ⟨d2, e2⟩ : ∃ x, x = d + 2 := ⟨_, rfl⟩
  have inner : ∀ y, y < 36 → (∀ I' v3, zf_fr [d + 2] I I' → (∀ j, j < 36 → ∃ m, I' (d + 2) j = zo_I (L 9 0) m) → (∀ j, j < y + 1 → I' (d + 2) j = zo_I (L 9 0) (zl_ow L w j)) → fw_Go X l mX1_settleWithout (fun r σ => r = none ∧ ∃ I', σ = (fw_sh, I') ∧ zl_at d L (zl_ow L w) I' ∧ zf_fr [d + 2] I I') 2 0 0 [some (.ref d), some (.int (zo_I (L 9 0) w)), some (.int (nI (y + 1))), v3] [] (fw_sh, I')) →
      ∀ k, k ≤ L 9 0 → ∀ I' m, zf_fr [d + 2] I I' → (∀ j, j < 36 → ∃ m, I' (d + 2) j = zo_I (L 9 0) m) → (∀ j, j < y → I' (d + 2) j = zo_I (L 9 0) (zl_ow L w j)) → I' (d + 2) y = zo_I (L 9 0) m → m ≤ L 9 0 → (m < L 9 0 → k ≤ m ∧ (!(m == w) && zl_cov L m y) = true) → (∀ p, k ≤ p → p < m → (!(p == w) && zl_cov L p y) = false) → fw_Go X l mX1_settleWithout (fun r σ => r = none ∧ ∃ I', σ = (fw_sh, I') ∧ zl_at d L (zl_ow L w) I' ∧ zf_fr [d + 2] I I') 22 0 0 [some (.ref d), some (.int (zo_I (L 9 0) w)), some (.int (nI y)), some (.int (zp_I k))] [] (fw_sh, I') := by
    intro y hy hout k
    induction k with
    | zero =>
      intro _ I' m hf hz hlt hm hmP hm1 hm2
      refine fw_from [2, 22] 100 15 ok_X1_settleWithout ⟨_, wc_X1_settleWithout⟩ rfl ?_
      refine zq_br (zp_neg (by omega)) (fun _ => ?_) (fun g => absurd rfl g)
      refine fw_sub (hout I' (some (.int (zp_I 0))) hf hz (fun j hj => ?_)) (by simp only [nI_1]) rfl
      by_cases hjy : j = y
      · subst hjy
        rw [hm]
        have : zl_ow L w j = m := zl_f_eq hmP (fun p hp => hm2 p (by omega) hp) (fun hp => (hm1 hp).2)
        rw [this]
      · exact hlt j (by omega)
    | succ k ih =>
      intro hk I' m hf hz hlt hm hmP hm1 hm2
      obtain ⟨ow', hK⟩ := h.own hf hz
      have c1 := ct_covers (X := X) (l := l) hK (p := k) (by omega) hy
      have skip : (!(k == w) && zl_cov L k y) = false → fw_Go X l mX1_settleWithout (fun r σ => r = none ∧ ∃ I', σ = (fw_sh, I') ∧ zl_at d L (zl_ow L w) I' ∧ zf_fr [d + 2] I I') 22 0 0 [some (.ref d), some (.int (zo_I (L 9 0) w)), some (.int (nI y)), some (.int (zp_I k))] [] (fw_sh, I') := fun hfk => by
        refine ih (by omega) I' m hf hz hlt hm hmP (fun hp => ⟨?_, (hm1 hp).2⟩) (fun p hp1 hp2 => ?_)
        · exact Nat.le_of_succ_le (hm1 hp).1
        · by_cases hpk : p = k
          · subst hpk; exact hfk
          · exact hm2 p (by omega) hp2
      refine fw_from [2, 22] 100 15 ok_X1_settleWithout ⟨_, wc_X1_settleWithout⟩ rfl ?_
      refine zq_br (zp_neg (by omega)) (fun g => absurd g (by omega)) (fun _ => ?_)
      refine zq_br (c := zp_I (k + 1) = zo_I (L 9 0) w) (d := w = k) ?_ (fun g => ?_) (fun g => ?_)
      · rw [zp_succ, eq_comm, zo_eqn hP (by omega)]
      · exact fw_sub (skip (by simp [g])) (by simp only [zp_dec]) rfl
      rw [← zp_succ] at c1
      rcases hd with rfl | rfl | rfl <;>
      · refine ⟨_, c1, ?_⟩
        rintro v σ' ⟨rfl, rfl⟩
        refine zq_br (zi_eq0 _) (fun g2 => ?_) (fun g2 => ?_)
        · exact fw_sub (skip (by simp [g2])) (by simp only [zp_dec]) rfl
        · refine And.intro (fw_in1 y 36 hy) ?_
          subst e2
          have g2 : zl_cov L k y = true := by simpa using g2
          refine fw_sub (ih (by omega) (fw_up I' (_ + 2) y (nI k)) k (hf.up List.mem_cons_self) (fun j hj => ?_) (fun j hj => ?_) ?_ (by omega) (fun _ => ⟨Nat.le_refl _, ?_⟩) (fun p hp1 hp2 => absurd hp2 (by omega))) (by simp only [zp_dec]) (by rw [nI_clamp (by omega), zp_succ])
          · by_cases hjy : j = y
            · subst hjy; exact ⟨k, by rw [fw_up_at, zo_some (by omega)]⟩
            · rw [fw_up_k hjy]; exact hz j hj
          · rw [fw_up_k (by omega)]; exact hlt j hj
          · rw [fw_up_at, zo_some (by omega)]
          · have : (k == w) = false := by simpa using fun z => g z.symm
            simp [this, g2]
  have outer := zl_down (N := 36) (G := fun y => ∀ I' v3, zf_fr [d + 2] I I' → (∀ j, j < 36 → ∃ m, I' (d + 2) j = zo_I (L 9 0) m) → (∀ j, j < y → I' (d + 2) j = zo_I (L 9 0) (zl_ow L w j)) → fw_Go X l mX1_settleWithout (fun r σ => r = none ∧ ∃ I', σ = (fw_sh, I') ∧ zl_at d L (zl_ow L w) I' ∧ zf_fr [d + 2] I I') 2 0 0 [some (.ref d), some (.int (zo_I (L 9 0) w)), some (.int (nI y)), v3] [] (fw_sh, I')) (by
    intro I' v3 hf hz hlt
    refine fw_from [2, 22] 100 2 ok_X1_settleWithout ⟨_, wc_X1_settleWithout⟩ rfl ?_
    refine zq_le 36 36 rfl rfl (fun _ => ?_) (fun h => absurd h (by omega))
    exact ⟨rfl, I', rfl, h.own2 hf hlt, hf⟩) (fun y hy ih => by
    intro I' v3 hf hz hlt
    have h3' : I' d 9 = nI (L 9 0) := by rw [hf d (by simp)]; exact h3
    have key := inner y hy ih (L 9 0) (Nat.le_refl _) (fw_up I' (d + 2) y (-1)) (L 9 0) (hf.up List.mem_cons_self) (fun j hj => by
      by_cases hjy : j = y
      · subst hjy; exact ⟨6, by rw [fw_up_at, ← zo_m1 hP]⟩
      · rw [fw_up_k hjy]; exact hz j hj) (fun j hj => by rw [fw_up_k (by omega)]; exact hlt j hj) (by rw [fw_up_at, zo_none (Nat.lt_irrefl _)]) (Nat.le_refl _) (fun z => absurd z (Nat.lt_irrefl _)) (fun p hp1 hp2 => absurd hp2 (by omega))
    have e5 : fw_up I' (d + 2) (nI y).toNatClampNeg (-1) d 9 - 1 = zp_I (L 9 0) := by rw [fw_up_ne d (by omega), h3', zp_sub]
    refine fw_from [2, 22] 100 2 ok_X1_settleWithout ⟨_, wc_X1_settleWithout⟩ rfl ?_
    refine zq_le 36 y rfl rfl (fun h => absurd h (by omega)) (fun _ => ?_)
    rcases hd with rfl | rfl | rfl <;>
    · refine And.intro (fw_in1 y 36 hy) ?_
      refine fw_sub key ?_ (by rw [nI_clamp (by omega)])
      rw [← e5])
  refine fw_enter [2] 100 ok_X1_settleWithout ⟨_, wc_X1_settleWithout⟩ rfl rfl rfl ?_
  exact outer 0 (by omega) I _ zf_fr.rf (fun j hj => ⟨_, h1 j hj⟩) (fun j hj => absurd hj (by omega))
end zH
