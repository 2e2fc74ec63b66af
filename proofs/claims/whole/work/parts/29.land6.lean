/-- in how many days a thistle comes: one more than 99 if none -/
def zl_dt (gr : Nat → Nat) : Nat → Nat → Nat → Nat
  | 0, a, _ => a
  | j + 1, a, acc => if 9 ≤ acc then a else zl_dt gr j (a + 1) (acc + gr (a + 1))
def zl_days (L : Nat → Nat → Nat) (ow : Nat → Nat) (p : Nat) : Nat := if zl_mx (fun y => ow y = p) (fun y => L 0 y) 36 = 0 then 100 else zl_dt (fun a => zl_on L p (L 10 0 + a)) 100 0 (zl_mx (fun y => ow y = p) (fun y => L 0 y) 36 - 1)
theorem zq_min9 {a t : Nat} (ha : a ≤ 1000) (ht : t ≤ 1000) : (if nI a + nI t < 9 then nI a + nI t else 9) = nI (if a + t < 9 then a + t else 9) := by
  rw [nI_add, show (9 : Int32) = nI 9 from rfl]
  by_cases hl : a + t < 9
  · rw [if_pos ((nI_ltI (by omega) (by omega)).mpr hl), if_pos hl]
  · rw [if_neg (fun z => hl ((nI_ltI (by omega) (by omega)).mp z)), if_neg hl]
section zG
variable {X : Nat × (Nat → Int32)} {l : Launch} {I : Nat → Nat → Int32} {d : Nat} {L : Nat → Nat → Nat} {ow : Nat → Nat}
theorem ct_grownBehind (h : zl_at d L ow I) {y N : Nat} (hy : y < 36) (hN : N ≤ 1000) : zs_p X l mX1_grownBehind [.ref d, .int (nI y), .int (nI N)] I (nI (zl_pd L ow N 0 y)) := by
  obtain ⟨hd, hw, h0, h1, h2, h3, h4, h5⟩ := id h
  have hP := hw.1
  have hg := hw.2.2.1 y hy
  have r0 := zq_rd (h0 y hy)
  have fin : ∀ t, t ≤ 12 → (if nI (L 0 y) + nI t < 9 then nI (L 0 y) + nI t else 9) = nI (if L 0 y + t < 9 then L 0 y + t else 9) := by
    intro t ht
    rw [nI_add, show (9 : Int32) = nI 9 from rfl]
    by_cases hl : L 0 y + t < 9
    · rw [if_pos ((nI_ltI (by omega) (by omega)).mpr hl), if_pos hl]
    · rw [if_neg (fun z => hl ((nI_ltI (by omega) (by omega)).mp z)), if_neg hl]
  refine fw_enter [] 100 ok_X1_grownBehind ⟨_, wc_X1_grownBehind⟩ rfl rfl rfl ?_
  rcases hd with rfl | rfl | rfl <;>
  · refine And.intro (fw_in1 y 36 hy) ?_
    refine zq_brn (c := I _ _ = -1) (d := ¬ ow y < L 9 0) ?_ (fun g => ?_) (fun g => ?_)
    · rw [zq_rd (h1 y hy), zo_eq1 hP]
    · have g : ow y < L 9 0 := Decidable.not_not.mp g
      have o1 := (zq_rd (h1 y hy)).trans (zo_some g)
      refine And.intro (fw_in1 y 36 hy) ?_
      have c1 := ct_growthOver (X := X) (l := l) h g hN
      rw [← o1] at c1
      refine ⟨_, c1, ?_⟩
      rintro v σ' ⟨rfl, rfl⟩
      refine And.intro (fw_in1 y 36 hy) ?_
      refine ⟨zr_e ?_, rfl⟩
      show (if I _ _ + nI _ < 9 then I _ _ + nI _ else 9) = _
      rw [r0, fin _ (zl_ov_le h g N)]
      simp [zl_pd, g]
    · refine And.intro (fw_in1 y 36 hy) ?_
      refine ⟨zr_e ?_, rfl⟩
      show (if I _ _ + 0 < 9 then I _ _ + 0 else 9) = _
      rw [r0]
      have := fin 0 (by omega)
      rw [show nI 0 = 0 from rfl] at this
      rw [this]
      simp only [zl_pd, g, if_true, if_false, Nat.add_zero]
      congr 1
      split <;> omega
theorem ct_daysToThistle (h : zl_at d L ow I) {p : Nat} (hp : p < L 9 0) : zs_p X l mX1_daysToThistle [.ref d, .int (nI p)] I (nI (zl_days L ow p)) := by
  obtain ⟨hd, hw, h0, h1, h2, h3, h4, h5⟩ := id h
  have hday := hw.2.1
  have hP := hw.1
  have hm := zl_mx_le (fun y => ow y = p) (g := fun y => L 0 y) (b := 9) 36 (fun k hk => hw.2.2.1 k hk)
  have loop := zl_down (N := 100) (G := fun a => ∀ acc, acc ≤ 12 → fw_Go X l mX1_daysToThistle (fun r σ => r = some (.int (nI (zl_dt (fun a => zl_on L p (L 10 0 + a)) (100 - a) a acc))) ∧ σ = (fw_sh, I)) 8 0 0 [some (.ref d), some (.int (nI p)), some (.int (nI acc)), some (.int (nI a))] [] (fw_sh, I)) (by
    intro acc hacc
    refine fw_from [8] 100 6 ok_X1_daysToThistle ⟨_, wc_X1_daysToThistle⟩ rfl ?_
    refine zq_lt 99 100 rfl rfl (fun _ => ?_) (fun h => absurd h (by omega))
    exact ⟨by simp [zl_dt]; rfl, rfl⟩) (fun a ha ih => by
    intro acc hacc
    have hs : 100 - a = (99 - a) + 1 := by omega
    refine fw_from [8] 100 6 ok_X1_daysToThistle ⟨_, wc_X1_daysToThistle⟩ rfl ?_
    refine zq_lt 99 a rfl rfl (fun h => absurd h (by omega)) (fun _ => ?_)
    refine And.intro (fun g => absurd g (nI_m1 (by omega))) (fun _ => ?_)
    refine zq_lt acc 9 rfl rfl (fun g => ?_) (fun g => ?_)
    · have c1 := ct_growthOn (X := X) (l := l) h hp (day := L 10 0 + a + 1) (by omega)
      rw [← nI_1, ← nI_add, ← h4] at c1
      have hon := zl_on_le h hp (L 10 0 + (a + 1))
      rcases hd with rfl | rfl | rfl <;>
      · refine ⟨_, c1, ?_⟩
        rintro v σ' ⟨rfl, rfl⟩
        have e := ih (acc + zl_on L p (L 10 0 + (a + 1))) (by omega)
        rw [hs]
        simp only [zl_dt, show ¬ 9 ≤ acc by omega, if_false]
        rw [show 99 - a = 100 - (a + 1) by omega]
        exact fw_sub e (by simp only [nI_1, nI_add, Nat.add_assoc]) rfl
    · exact ⟨by rw [hs]; simp [zl_dt, g], rfl⟩)
  refine fw_enter [8] 100 ok_X1_daysToThistle ⟨_, wc_X1_daysToThistle⟩ rfl rfl rfl ?_
  have c1 := ct_mostGrownOn (X := X) (l := l) h hp
  rcases hd with rfl | rfl | rfl <;>
  · refine ⟨_, c1, ?_⟩
    rintro v σ' ⟨rfl, rfl⟩
    by_cases hz : zl_mx (fun y => ow y = p) (fun y => L 0 y) 36 = 0
    · rw [hz]
      refine fw_from [] 100 6 ok_X1_daysToThistle ⟨_, wc_X1_daysToThistle⟩ rfl ?_
      refine zq_lt 99 0 rfl rfl (fun h => absurd h (by omega)) (fun _ => ?_)
      refine And.intro (fun _ => ?_) (fun g => absurd rfl g)
      exact ⟨by simp [zl_days, hz]; rfl, rfl⟩
    · have e := loop 0 (by omega) (zl_mx (fun y => ow y = p) (fun y => L 0 y) 36 - 1) (by omega)
      have e2 : zp_I (zl_mx (fun y => ow y = p) (fun y => L 0 y) 36) = nI (zl_mx (fun y => ow y = p) (fun y => L 0 y) 36 - 1) := by simp [zp_I, hz]
      rw [e2]
      simp only [zl_days, hz, if_false]
      exact fw_sub e rfl rfl
theorem ct_passDays (h : zl_at d L ow I) {N : Nat} (hN : N ≤ 1000) (hND : L 10 0 + N ≤ 5000) : fw_Sem X l mX1_passDays [.ref d, .int (nI N)] (fw_sh, I) (fun r σ => r = none ∧ ∃ I', σ = (fw_sh, I') ∧ zl_at d (zl_pd L ow N) ow I' ∧ zf_fr [d, d + 1, d + 9] I I') := by
  obtain ⟨hd, hw, h0, h1, h2, h3, h4, h5⟩ := id h
  have hP := hw.1
  obtain ⟨d9, e9⟩ : ∃ x, x = d + 9 := ⟨_, rfl⟩
  obtain ⟨d1, e1⟩ : ∃ x, x = d + 1 := ⟨_, rfl⟩
  have loop2 := zl_down (N := 36) (G := fun y => ∀ I', zf_fr [d + 1, d + 9] I I' → (∀ p, p < L 9 0 → I' (d + 9) p = nI (zl_ov L p N)) → (∀ j, j < 36 → I' (d + 1) j = nI (if j < y then zl_pd L ow N 0 j else L 0 j)) → fw_Go X l mX1_passDays (fun r σ => r = none ∧ ∃ I', σ = (fw_sh, I') ∧ zl_at d (zl_pd L ow N) ow I' ∧ zf_fr [d, d + 1, d + 9] I I') 30 0 0 [some (.ref d), some (.int (nI N)), some (.int (nI y))] [] (fw_sh, I')) (by
    intro I' hf hga hg
    have h3' : I' d 9 = nI (L 9 0) := by rw [hf d (by simp)]; exact h3
    have h4' : I' d 10 = nI (L 10 0) := by rw [hf d (by simp)]; exact h4
    refine fw_from [30] 100 18 ok_X1_passDays ⟨_, wc_X1_passDays⟩ rfl ?_
    refine zq_le 36 36 rfl rfl (fun _ => ?_) (fun h => absurd h (by omega))
    have hF : zf_fr [d, d + 1, d + 9] I (fw_up I' d 10 (nI (L 10 0 + N))) := (hf.mono (by simp +contextual)).up (by simp)
    have res : zl_at d (zl_pd L ow N) ow (fw_up I' d 10 (nI (L 10 0 + N))) := by
      refine ⟨hd, ⟨hw.1, ?_, fun y hy => ?_, hw.2.2.2⟩, fun y hy => ?_, fun y hy => ?_, fun k hk1 hk2 q hq => ?_, ?_, ?_, fun q hq => ?_⟩
      · simpa [zl_pd] using hND
      · have := hw.2.2.1 y hy
        simp only [zl_pd, if_true]
        repeat' split
        all_goals omega
      · rw [fw_up_ne (d + 1) (by omega), hg y hy]; simp [hy]
      · rw [hF (d + 2) (by simp)]; exact h1 y hy
      · rw [hF (d + 1 + k) (by simp; omega), h2 k hk1 hk2 q hq]; simp [zl_pd, show ¬ k = 0 by omega, show ¬ k = 10 by omega]
      · rw [fw_up_k (by omega)]; exact h3'
      · rw [fw_up_at]; simp [zl_pd]
      · rw [hF (d + 8) (by simp)]; exact h5 q hq
    rcases hd with rfl | rfl | rfl <;>
    · refine ⟨rfl, _, ?_, res, hF⟩
      show (fw_sh, fw_up I' _ 10 (I' _ 10 + nI N)) = _
      rw [h4', nI_add]) (fun y hy ih => by
    intro I' hf hga hg
    have hgy := hw.2.2.1 y hy
    have o1 : I' (d + 2) (nI y).toNatClampNeg = zo_I (L 9 0) (ow y) := by rw [hf (d + 2) (by simp)]; exact zq_rd (h1 y hy)
    have g1 : I' (d + 1) (nI y).toNatClampNeg = nI (L 0 y) := by rw [nI_clamp (by omega), hg y hy]; simp
    refine fw_from [30] 100 18 ok_X1_passDays ⟨_, wc_X1_passDays⟩ rfl ?_
    refine zq_le 36 y rfl rfl (fun h => absurd h (by omega)) (fun _ => ?_)
    rcases hd with rfl | rfl | rfl <;>
    · refine And.intro (fw_in1 y 36 hy) ?_
      refine zq_br (c := I' _ _ = -1) (d := ¬ ow y < L 9 0) ?_ (fun g => ?_) (fun g => ?_)
      · rw [o1, zo_eq1 hP]
      · refine fw_sub (ih I' hf hga (fun j hj => ?_)) (by simp only [nI_1]) rfl
        rw [hg j hj]
        by_cases hjy : j = y
        · subst hjy; simp [zl_pd, g]
        · simp [show j < y + 1 ↔ j < y by omega]
      have g : ow y < L 9 0 := Decidable.not_not.mp g
      have o2 := o1.trans (zo_some g)
      have hov := zl_ov_le h g N
      refine And.intro (fw_in1 y 36 hy) ?_
      refine And.intro (fw_in1 y 36 hy) ?_
      refine And.intro (fw_in1 (ow y) 6 (by omega) o2) ?_
      refine And.intro (fw_in1 y 36 hy) ?_
      subst e1
      refine fw_sub (ih (fw_up I' (_ + 1) y (nI (zl_pd L ow N 0 y))) (hf.up List.mem_cons_self) (fun p hp => ?_) (fun j hj => ?_)) (by simp only [nI_1]) ?_
      · rw [fw_up_ne _ (by omega)]; exact hga p hp
      · by_cases hjy : j = y
        · subst hjy; rw [fw_up_at]; simp
        · rw [fw_up_k hjy, hg j hj]; simp [show j < y + 1 ↔ j < y by omega]
      · show (fw_sh, fw_up I' _ (nI y).toNatClampNeg (if I' _ _ + I' _ (I' _ _).toNatClampNeg < 9 then I' _ _ + I' _ (I' _ _).toNatClampNeg else 9)) = _
        rw [g1, o2, zq_rd (hga _ g), zq_min9 (by omega) (by omega), nI_clamp (by omega)]
        simp [zl_pd, g])
  have loop1 := zl_down (N := L 9 0) (G := fun p => ∀ I', zf_fr [d + 9] I I' → (∀ q, q < p → I' (d + 9) q = nI (zl_ov L q N)) → fw_Go X l mX1_passDays (fun r σ => r = none ∧ ∃ I', σ = (fw_sh, I') ∧ zl_at d (zl_pd L ow N) ow I' ∧ zf_fr [d, d + 1, d + 9] I I') 2 0 0 [some (.ref d), some (.int (nI N)), some (.int (nI p))] [] (fw_sh, I')) (by
    intro I' hf hga
    have h3' : I' d 9 = nI (L 9 0) := by rw [hf d (by simp)]; exact h3
    refine fw_from [2, 30] 100 2 ok_X1_passDays ⟨_, wc_X1_passDays⟩ rfl ?_
    have e := loop2 0 (by omega) I' (hf.mono (by simp +contextual)) hga (fun j hj => by rw [hf (d + 1) (by simp), h0 j hj]; simp)
    rcases hd with rfl | rfl | rfl <;>
    · refine zq_le (L 9 0) (L 9 0) h3' rfl (fun _ => ?_) (fun h => absurd h (by omega))
      exact e) (fun p hp ih => by
    intro I' hf hga
    have h3' : I' d 9 = nI (L 9 0) := by rw [hf d (by simp)]; exact h3
    have hk : zl_at d L ow I' := h.keep (fun c hc1 hc2 => hf c (by simp; omega))
    have c1 := ct_growthOver (X := X) (l := l) hk hp hN
    refine fw_from [2, 30] 100 2 ok_X1_passDays ⟨_, wc_X1_passDays⟩ rfl ?_
    rcases hd with rfl | rfl | rfl <;>
    · refine zq_le (L 9 0) p h3' rfl (fun h => absurd h (by omega)) (fun _ => ?_)
      refine ⟨_, c1, ?_⟩
      rintro v σ' ⟨rfl, rfl⟩
      refine And.intro (fw_in1 p 6 (by omega)) ?_
      subst e9
      refine fw_sub (ih (fw_up I' (_ + 9) p (nI (zl_ov L p N))) (hf.up List.mem_cons_self) (fun q hq => ?_)) (by simp only [nI_1]) (by rw [nI_clamp (by omega)])
      by_cases hqp : q = p
      · subst hqp; rw [fw_up_at]
      · rw [fw_up_k hqp]; exact hga q (by omega))
  refine fw_enter [2] 100 ok_X1_passDays ⟨_, wc_X1_passDays⟩ rfl rfl rfl ?_
  exact loop1 0 (by omega) I zf_fr.rf (fun q hq => absurd hq (by omega))
end zG
