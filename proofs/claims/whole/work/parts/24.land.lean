/-- how many of 36 rows' numbers are 9 -/
theorem ct_countThistles {X : Nat × (Nat → Int32)} {l : Launch} {d : Nat} (hd : d = 1 ∨ d = 11 ∨ d = 21) {I : Nat → Nat → Int32} {g : Nat → Nat} (hg : ∀ y, y < 36 → I (d + 1) y = nI (g y) ∧ g y ≤ 9) : fw_Sem X l mX1_countThistles [.ref d] (fw_sh, I) (fun r σ => r = some (.int (nI (zm_s (fun y => if g y = 9 then 1 else 0) 36))) ∧ σ = (fw_sh, I)) := by
  have loop : ∀ j y, y + j = 36 → fw_Go X l mX1_countThistles (fun r σ => r = some (.int (nI (zm_s (fun y => if g y = 9 then 1 else 0) 36))) ∧ σ = (fw_sh, I)) 4 0 0 [some (.ref d), some (.int (nI (zm_s (fun y => if g y = 9 then 1 else 0) y))), some (.int (nI y))] [] (fw_sh, I) := by
    intro j
    induction j with
    | zero =>
      intro y hy
      have hy : y = 36 := by omega
      subst hy
      refine fw_from [4] 100 4 ok_X1_countThistles ⟨_, wc_X1_countThistles⟩ rfl ?_
      refine pk_le 36 36 (fun _ => ?_) (fun h => absurd h (by omega))
      exact ⟨rfl, rfl⟩
    | succ j ih =>
      intro y hy
      have hgy := hg y (by omega)
      refine fw_from [4] 100 4 ok_X1_countThistles ⟨_, wc_X1_countThistles⟩ rfl ?_
      refine pk_le 36 y (fun h => absurd h (by omega)) (fun _ => ?_)
      rcases hd with rfl | rfl | rfl <;>
      · refine And.intro (fw_in1 y 36 (by omega)) ?_
        refine pk_eq (g y) 9 (fun h => ?_) (fun h => ?_) (by rw [pk_cl y]; exact hgy.1)
        · exact fw_sub (ih (y + 1) (by omega)) (by simp [zm_s, h, nI_1, ← nI_add]) rfl
        · exact fw_sub (ih (y + 1) (by omega)) (by simp [zm_s, h, nI_1, ← nI_add]) rfl
  refine fw_enter [4] 100 ok_X1_countThistles ⟨_, wc_X1_countThistles⟩ rfl rfl rfl ?_
  exact loop 36 0 (by omega)
