theorem zl_down {G : Nat → Prop} {N : Nat} (hN : G N) (step : ∀ y, y < N → G (y + 1) → G y) : ∀ y, y ≤ N → G y := by
  have : ∀ j y, y + j = N → G y := by
    intro j
    induction j with
    | zero => intro y hy; have : y = N := by omega
              subst this; exact hN
    | succ j ih => intro y hy; exact step y (by omega) (ih (y + 1) (by omega))
  exact fun y hy => this (N - y) y (by omega)
section zD
variable {X : Nat × (Nat → Int32)} {l : Launch} {I : Nat → Nat → Int32} {d : Nat} {L : Nat → Nat → Nat} {ow : Nat → Nat}
theorem ct_countThistles (h : zl_at d L ow I) : zs_p X l mX1_countThistles [.ref d] I (nI (zm_s (fun y => if L 0 y = 9 then 1 else 0) 36)) := by
  obtain ⟨hd, hw, h0, h1, h2, h3, h4, h5⟩ := h
  have loop := zl_down (N := 36) (G := fun y => fw_Go X l mX1_countThistles (fun r σ => r = some (.int (nI (zm_s (fun y => if L 0 y = 9 then 1 else 0) 36))) ∧ σ = (fw_sh, I)) 4 0 0 [some (.ref d), some (.int (nI (zm_s (fun y => if L 0 y = 9 then 1 else 0) y))), some (.int (nI y))] [] (fw_sh, I)) (by
    refine fw_from [4] 100 4 ok_X1_countThistles ⟨_, wc_X1_countThistles⟩ rfl ?_
    refine zq_le 36 36 rfl rfl (fun _ => ?_) (fun h => absurd h (by omega))
    exact ⟨rfl, rfl⟩) (fun y hy ih => by
    refine fw_from [4] 100 4 ok_X1_countThistles ⟨_, wc_X1_countThistles⟩ rfl ?_
    refine zq_le 36 y rfl rfl (fun h => absurd h (by omega)) (fun _ => ?_)
    have hg := hw.2.2.1 y hy
    rcases hd with rfl | rfl | rfl <;>
    · refine And.intro (fw_in1 y 36 hy) ?_
      refine zq_ne (L 0 y) 9 (zq_rd (h0 y hy)) rfl (fun h => ?_) (fun h => ?_)
      · exact fw_sub ih (by simp [zm_s, h, nI_1, ← nI_add]) rfl
      · exact fw_sub ih (by simp [zm_s, h, nI_1, ← nI_add]) rfl)
  refine fw_enter [4] 100 ok_X1_countThistles ⟨_, wc_X1_countThistles⟩ rfl rfl rfl ?_
  exact loop 0 (by omega)
theorem ct_allGrown (h : zl_at d L ow I) : zs_p X l mX1_allGrown [.ref d] I (nI (zm_s (fun y => L 0 y) 36)) := by
  obtain ⟨hd, hw, h0, h1, h2, h3, h4, h5⟩ := h
  have loop := zl_down (N := 36) (G := fun y => fw_Go X l mX1_allGrown (fun r σ => r = some (.int (nI (zm_s (fun y => L 0 y) 36))) ∧ σ = (fw_sh, I)) 4 0 0 [some (.ref d), some (.int (nI (zm_s (fun y => L 0 y) y))), some (.int (nI y))] [] (fw_sh, I)) (by
    refine fw_from [4] 100 4 ok_X1_allGrown ⟨_, wc_X1_allGrown⟩ rfl ?_
    refine zq_le 36 36 rfl rfl (fun _ => ?_) (fun h => absurd h (by omega))
    exact ⟨rfl, rfl⟩) (fun y hy ih => by
    refine fw_from [4] 100 4 ok_X1_allGrown ⟨_, wc_X1_allGrown⟩ rfl ?_
    refine zq_le 36 y rfl rfl (fun h => absurd h (by omega)) (fun _ => ?_)
    rcases hd with rfl | rfl | rfl <;>
    · refine And.intro (fw_in1 y 36 hy) ?_
      exact fw_sub ih (by simp only [zq_rd (h0 y hy), zm_s, nI_1, nI_add]) rfl)
  refine fw_enter [4] 100 ok_X1_allGrown ⟨_, wc_X1_allGrown⟩ rfl rfl rfl ?_
  exact loop 0 (by omega)
theorem ct_grownOn (h : zl_at d L ow I) {p : Nat} (hp : p < L 9 0) : zs_p X l mX1_grownOn [.ref d, .int (nI p)] I (nI (zm_s (fun y => if ow y = p then L 0 y else 0) 36)) := by
  obtain ⟨hd, hw, h0, h1, h2, h3, h4, h5⟩ := h
  have hP := hw.1
  have loop := zl_down (N := 36) (G := fun y => fw_Go X l mX1_grownOn (fun r σ => r = some (.int (nI (zm_s (fun y => if ow y = p then L 0 y else 0) 36))) ∧ σ = (fw_sh, I)) 4 0 0 [some (.ref d), some (.int (nI p)), some (.int (nI (zm_s (fun y => if ow y = p then L 0 y else 0) y))), some (.int (nI y))] [] (fw_sh, I)) (by
    refine fw_from [4] 100 4 ok_X1_grownOn ⟨_, wc_X1_grownOn⟩ rfl ?_
    refine zq_le 36 36 rfl rfl (fun _ => ?_) (fun h => absurd h (by omega))
    exact ⟨rfl, rfl⟩) (fun y hy ih => by
    refine fw_from [4] 100 4 ok_X1_grownOn ⟨_, wc_X1_grownOn⟩ rfl ?_
    refine zq_le 36 y rfl rfl (fun h => absurd h (by omega)) (fun _ => ?_)
    rcases hd with rfl | rfl | rfl <;>
    · refine And.intro (fw_in1 y 36 hy) ?_
      refine zq_brn (c := I _ _ = nI p) (d := ow y = p) ?_ (fun g => ?_) (fun g => ?_)
      · rw [zq_rd (h1 y hy), zo_eqn hP hp]
      · exact fw_sub ih (by simp [zm_s, g, nI_1]) rfl
      · refine And.intro (fw_in1 y 36 hy) ?_
        exact fw_sub ih (by simp only [zq_rd (h0 y hy), zm_s, g, nI_1, nI_add, if_true]) rfl)
  refine fw_enter [4] 100 ok_X1_grownOn ⟨_, wc_X1_grownOn⟩ rfl rfl rfl ?_
  exact loop 0 (by omega)
theorem ct_yardsOf (h : zl_at d L ow I) {p : Nat} (hp : p < L 9 0) : zs_p X l mX1_yardsOf [.ref d, .int (nI p)] I (nI (zm_s (fun y => if ow y = p then 1 else 0) 36)) := by
  obtain ⟨hd, hw, h0, h1, h2, h3, h4, h5⟩ := h
  have hP := hw.1
  have loop := zl_down (N := 36) (G := fun y => fw_Go X l mX1_yardsOf (fun r σ => r = some (.int (nI (zm_s (fun y => if ow y = p then 1 else 0) 36))) ∧ σ = (fw_sh, I)) 4 0 0 [some (.ref d), some (.int (nI p)), some (.int (nI (zm_s (fun y => if ow y = p then 1 else 0) y))), some (.int (nI y))] [] (fw_sh, I)) (by
    refine fw_from [4] 100 4 ok_X1_yardsOf ⟨_, wc_X1_yardsOf⟩ rfl ?_
    refine zq_le 36 36 rfl rfl (fun _ => ?_) (fun h => absurd h (by omega))
    exact ⟨rfl, rfl⟩) (fun y hy ih => by
    refine fw_from [4] 100 4 ok_X1_yardsOf ⟨_, wc_X1_yardsOf⟩ rfl ?_
    refine zq_le 36 y rfl rfl (fun h => absurd h (by omega)) (fun _ => ?_)
    rcases hd with rfl | rfl | rfl <;>
    · refine And.intro (fw_in1 y 36 hy) ?_
      refine zq_brn (c := I _ _ = nI p) (d := ow y = p) ?_ (fun g => ?_) (fun g => ?_)
      · rw [zq_rd (h1 y hy), zo_eqn hP hp]
      · exact fw_sub ih (by simp [zm_s, g, nI_1]) rfl
      · exact fw_sub ih (by simp [zm_s, g, nI_1]) rfl)
  refine fw_enter [4] 100 ok_X1_yardsOf ⟨_, wc_X1_yardsOf⟩ rfl rfl rfl ?_
  exact loop 0 (by omega)
theorem ct_countOpen (h : zl_at d L ow I) : zs_p X l mX1_countOpen [.ref d] I (nI (zm_s (fun y => if zl_op L ow y then 1 else 0) 36)) := by
  have loop := zl_down (N := 36) (G := fun y => fw_Go X l mX1_countOpen (fun r σ => r = some (.int (nI (zm_s (fun y => if zl_op L ow y then 1 else 0) 36))) ∧ σ = (fw_sh, I)) 4 0 0 [some (.ref d), some (.int (nI (zm_s (fun y => if zl_op L ow y then 1 else 0) y))), some (.int (nI y))] [] (fw_sh, I)) (by
    refine fw_from [4] 100 4 ok_X1_countOpen ⟨_, wc_X1_countOpen⟩ rfl ?_
    refine zq_le 36 36 rfl rfl (fun _ => ?_) (fun h => absurd h (by omega))
    exact ⟨rfl, rfl⟩) (fun y hy ih => by
    refine fw_from [4] 100 4 ok_X1_countOpen ⟨_, wc_X1_countOpen⟩ rfl ?_
    refine zq_le 36 y rfl rfl (fun h => absurd h (by omega)) (fun _ => ?_)
    have c1 := ct_isOpen (X := X) (l := l) h hy
    rcases h.1 with rfl | rfl | rfl <;>
    · refine ⟨_, c1, ?_⟩
      rintro v σ' ⟨rfl, rfl⟩
      refine zq_br (zi_eq0 _) (fun g => ?_) (fun g => ?_)
      · exact fw_sub ih (by simp [zm_s, g, nI_1]) rfl
      · exact fw_sub ih (by simp [zm_s, Bool.not_eq_false _ ▸ g, nI_1]) rfl)
  refine fw_enter [4] 100 ok_X1_countOpen ⟨_, wc_X1_countOpen⟩ rfl rfl rfl ?_
  exact loop 0 (by omega)
end zD
