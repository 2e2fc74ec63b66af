section zK
variable {X : Nat × (Nat → Int32)} {l : Launch} {I : Nat → Nat → Int32} {d s : Nat} {L : Nat → Nat → Nat} {ow : Nat → Nat}
theorem zq_cpy {f g : Nat → Int32} {j : Nat} (hj : j < 36) : va_cpy f g (0 : Int32).toNatClampNeg (0 : Int32).toNatClampNeg (36 : Int32).toNatClampNeg j = f j := by
  have e0 : (0 : Int32).toNatClampNeg = 0 := rfl
  have e36 : (36 : Int32).toNatClampNeg = 36 := rfl
  rw [e0, e36, pk_cpy_in (by omega) (by omega)]
  simp
/-- what copyFrom leaves -/
theorem ct_copyFrom (hd : d = 1 ∨ d = 11 ∨ d = 21) (hds : d ≠ s) (h : zl_at s L ow I) : fw_Sem X l mX1_copyFrom [.ref d, .ref s] (fw_sh, I) (fun r σ => r = none ∧ ∃ I', σ = (fw_sh, I') ∧ zl_at d L ow I' ∧ zf_fr [d, d + 1, d + 2, d + 3, d + 4, d + 5, d + 6, d + 7, d + 8] I I') := by
  obtain ⟨hs, hw, h0, h1, h2, h3, h4, h5⟩ := id h
  have hP := hw.1
  have loop := zl_down (N := 6) (G := fun p => ∀ I', zf_fr [d, d + 1, d + 2, d + 3, d + 4, d + 5, d + 6, d + 7, d + 8] I I' → I' (d + 1) = va_cpy (I (s + 1)) (I (d + 1)) (0 : Int32).toNatClampNeg (0 : Int32).toNatClampNeg (36 : Int32).toNatClampNeg → I' (d + 2) = va_cpy (I (s + 2)) (I (d + 2)) (0 : Int32).toNatClampNeg (0 : Int32).toNatClampNeg (36 : Int32).toNatClampNeg → (∀ k, 2 ≤ k → k ≤ 7 → ∀ q, q < p → I' (d + 1 + k) q = I (s + 1 + k) q) → fw_Go X l mX1_copyFrom (fun r σ => r = none ∧ ∃ I', σ = (fw_sh, I') ∧ zl_at d L ow I' ∧ zf_fr [d, d + 1, d + 2, d + 3, d + 4, d + 5, d + 6, d + 7, d + 8] I I') 32 0 0 [some (.ref d), some (.ref s), some (.int (nI p))] [] (fw_sh, I')) (by
    intro I' hf hg ho hr
    have s3 : I' s 9 = nI (L 9 0) := by rw [hf s (by simp; omega)]; exact h3
    have s4 : I' s 10 = nI (L 10 0) := by rw [hf s (by simp; omega)]; exact h4
    have s5 : ∀ v, fw_up I' d 9 v s 10 = nI (L 10 0) := fun v => by rw [fw_up_ne s (fun z => hds z.symm)]; exact s4
    refine fw_from [32] 100 18 ok_X1_copyFrom ⟨_, wc_X1_copyFrom⟩ rfl ?_
    refine zq_le 6 6 rfl rfl (fun _ => ?_) (fun h => absurd h (by omega))
    have hF : zf_fr [d, d + 1, d + 2, d + 3, d + 4, d + 5, d + 6, d + 7, d + 8] I (fw_up (fw_up I' d 9 (nI (L 9 0))) d 10 (nI (L 10 0))) := (hf.up (by simp)).up (by simp)
    have row : ∀ c, c ≠ d → fw_up (fw_up I' d 9 (nI (L 9 0))) d 10 (nI (L 10 0)) c = I' c := fun c hc => by rw [fw_up_ne c hc, fw_up_ne c hc]
    have res : zl_at d L ow (fw_up (fw_up I' d 9 (nI (L 9 0))) d 10 (nI (L 10 0))) := by
      refine ⟨hd, hw, fun y hy => ?_, fun y hy => ?_, fun k hk1 hk2 q hq => ?_, ?_, ?_, fun q hq => ?_⟩
      · rw [row _ (by omega), hg, zq_cpy hy]; exact h0 y hy
      · rw [row _ (by omega), ho, zq_cpy hy]; exact h1 y hy
      · rw [row _ (by omega), hr k hk1 hk2 q (by omega)]; exact h2 k hk1 hk2 q hq
      · rw [fw_up_k (by omega), fw_up_at]
      · rw [fw_up_at]
      · rw [row _ (by omega), show d + 8 = d + 1 + 7 by omega, hr 7 (by omega) (by omega) q hq]; exact h5 q hq
    rcases hd with rfl | rfl | rfl <;> rcases hs with rfl | rfl | rfl <;> first | exact absurd rfl hds | (
      refine ⟨rfl, _, ?_, res, hF⟩
      dsimp only
      rw [s3, s5])) (fun p hp ih => by
    intro I' hf hg ho hr
    have rd : ∀ k, 2 ≤ k → k ≤ 7 → I' (s + 1 + k) = I (s + 1 + k) := fun k hk1 hk2 => hf _ (by simp; omega)
    have b7 : fw_bool (I' (s + 8) (nI p).toNatClampNeg) := by rw [nI_clamp (by omega), show s + 8 = s + 1 + 7 by omega, rd 7 (by omega) (by omega)]; exact h5 p hp
    obtain ⟨J, hJ⟩ : ∃ J, J = fw_up (fw_up (fw_up (fw_up (fw_up (fw_up I' (d + 3) p (I' (s + 3) p)) (d + 4) p (I' (s + 4) p)) (d + 5) p (I' (s + 5) p)) (d + 6) p (I' (s + 6) p)) (d + 7) p (I' (s + 7) p)) (d + 8) p (I' (s + 8) p) := ⟨_, rfl⟩
    have e := ih J (by subst hJ; exact (((((hf.up (by simp)).up (by simp)).up (by simp)).up (by simp)).up (by simp)).up (by simp)) (by subst hJ; rw [fw_up_ne _ (by omega), fw_up_ne _ (by omega), fw_up_ne _ (by omega), fw_up_ne _ (by omega), fw_up_ne _ (by omega), fw_up_ne _ (by omega)]; exact hg) (by subst hJ; rw [fw_up_ne _ (by omega), fw_up_ne _ (by omega), fw_up_ne _ (by omega), fw_up_ne _ (by omega), fw_up_ne _ (by omega), fw_up_ne _ (by omega)]; exact ho) (fun k hk1 hk2 q hq => by
      subst hJ
      have r7 := rd k hk1 hk2
      rcases (show k = 2 ∨ k = 3 ∨ k = 4 ∨ k = 5 ∨ k = 6 ∨ k = 7 by omega) with rfl | rfl | rfl | rfl | rfl | rfl <;>
      · simp only [fw_up]
        by_cases hqp : q = p
        · subst hqp; rw [← r7]; simp
        · have := hr _ hk1 hk2 q (by omega)
          simp [hqp, this])
    refine fw_from [32] 100 18 ok_X1_copyFrom ⟨_, wc_X1_copyFrom⟩ rfl ?_
    refine zq_le 6 p rfl rfl (fun h => absurd h (by omega)) (fun _ => ?_)
    rcases hd with rfl | rfl | rfl <;> rcases hs with rfl | rfl | rfl <;> first | exact absurd rfl hds | (
      refine And.intro (fw_in1 p 6 hp) ?_
      refine And.intro (fw_in1 p 6 hp) ?_
      refine And.intro (fw_in1 p 6 hp) ?_
      refine And.intro (fw_in1 p 6 hp) ?_
      refine And.intro (fw_in1 p 6 hp) ?_
      refine And.intro (fw_in1 p 6 hp) ?_
      refine And.intro (fw_in1 p 6 hp) ?_
      refine And.intro (fw_in1 p 6 hp) ?_
      refine And.intro (fw_in1 p 6 hp) ?_
      refine And.intro (fw_in1 p 6 hp) ?_
      refine And.intro (fw_in1 p 6 hp) ?_
      refine And.intro ?_ (And.intro (fw_in1 p 6 hp) ?_)
      · exact b7
      · refine fw_sub e (by simp only [nI_1]) ?_
        rw [hJ, nI_clamp (by omega)]
        rfl))
  refine fw_enter [32] 100 ok_X1_copyFrom ⟨_, wc_X1_copyFrom⟩ rfl rfl rfl ?_
  obtain ⟨J, hJ⟩ : ∃ J : Nat → Nat → Int32, J = fun o => if o = d + 2 then va_cpy (I (s + 2)) (I (d + 2)) (0 : Int32).toNatClampNeg (0 : Int32).toNatClampNeg (36 : Int32).toNatClampNeg else if o = d + 1 then va_cpy (I (s + 1)) (I (d + 1)) (0 : Int32).toNatClampNeg (0 : Int32).toNatClampNeg (36 : Int32).toNatClampNeg else I o := ⟨_, rfl⟩
  have e := loop 0 (by omega) J (fun c hc => by subst hJ; simp at hc; simp [hc]) (by subst hJ; simp) (by subst hJ; simp) (fun k _ _ q hq => absurd hq (by omega))
  rcases hd with rfl | rfl | rfl <;> rcases hs with rfl | rfl | rfl <;> first | exact absurd rfl hds | (
    refine And.intro (by decide) ?_
    refine And.intro (by decide) ?_
    refine fw_sub e (by rfl) ?_
    rw [hJ]
    rfl)
end zK
