/-- one more than the most, 0 if there is none -/
def zl_mx (f : Nat → Prop) [DecidablePred f] (g : Nat → Nat) : Nat → Nat
  | 0 => 0
  | n + 1 => if f n then (if zl_mx f g n < g n + 1 then g n + 1 else zl_mx f g n) else zl_mx f g n
def zp_I (m : Nat) : Int32 := if m = 0 then -1 else nI (m - 1)
theorem zp_lt {m g : Nat} (hm : m < 1000) (hg : g < 1000) : zp_I m < nI g ↔ m < g + 1 := by
  unfold zp_I
  split
  · rename_i h
    rw [zt_lt, nI_toInt (by omega)]
    have e : (-1 : Int32).toInt = -1 := rfl
    omega
  · rw [nI_ltI (by omega) (by omega)]; omega
theorem zl_mx_le (f : Nat → Prop) [DecidablePred f] {g : Nat → Nat} {b : Nat} : ∀ n, (∀ k, k < n → g k ≤ b) → zl_mx f g n ≤ b + 1
  | 0, _ => by simp [zl_mx]
  | n + 1, h => by
    have h1 := zl_mx_le f n (fun k hk => h k (by omega))
    have h2 := h n (by omega)
    simp only [zl_mx]
    repeat' split
    all_goals omega
def zl_rb (L : Nat → Nat → Nat) (n : Nat) : Nat := zm_s (fun p => if L 7 p = 0 then 0 else 2 ^ p) n
theorem zl_rb_lt (L : Nat → Nat → Nat) : ∀ n, zl_rb L n < 2 ^ n
  | 0 => by simp [zl_rb, zm_s]
  | n + 1 => by
    have h := zl_rb_lt L n
    unfold zl_rb at h ⊢
    simp only [zm_s, Nat.pow_succ]
    split <;> omega
theorem zb_or : ∀ p, p < 6 → ∀ a, a < 2 ^ p → nI a ||| ((1 : Int32) <<< (nI p &&& 31)) = nI (a + 2 ^ p) := by decide +kernel
def zl_tr (L : Nat → Nat → Nat) (ow : Nat → Nat) (p : Nat) : Nat → Nat → Nat := fun k j => if k = 0 then (if ow j = p then 0 else L 0 j) else L k j
def zl_to (L : Nat → Nat → Nat) (p : Nat) : Nat → Nat → Nat := fun k j => if k = 7 ∧ j = p then 1 - L 7 p else L k j
section zE
variable {X : Nat × (Nat → Int32)} {l : Launch} {I : Nat → Nat → Int32} {d : Nat} {L : Nat → Nat → Nat} {ow : Nat → Nat}
theorem ct_mostGrownOn (h : zl_at d L ow I) {p : Nat} (hp : p < L 9 0) : zs_p X l mX1_mostGrownOn [.ref d, .int (nI p)] I (zp_I (zl_mx (fun y => ow y = p) (fun y => L 0 y) 36)) := by
  obtain ⟨hd, hw, h0, h1, h2, h3, h4, h5⟩ := h
  have hP := hw.1
  have loop := zl_down (N := 36) (G := fun y => fw_Go X l mX1_mostGrownOn (fun r σ => r = some (.int (zp_I (zl_mx (fun y => ow y = p) (fun y => L 0 y) 36))) ∧ σ = (fw_sh, I)) 4 0 0 [some (.ref d), some (.int (nI p)), some (.int (zp_I (zl_mx (fun y => ow y = p) (fun y => L 0 y) y))), some (.int (nI y))] [] (fw_sh, I)) (by
    refine fw_from [4] 100 4 ok_X1_mostGrownOn ⟨_, wc_X1_mostGrownOn⟩ rfl ?_
    refine zq_le 36 36 rfl rfl (fun _ => ?_) (fun h => absurd h (by omega))
    exact ⟨rfl, rfl⟩) (fun y hy ih => by
    have hb := zl_mx_le (fun y => ow y = p) (g := fun y => L 0 y) (b := 9) y (fun k hk => hw.2.2.1 k (by omega))
    have hg := hw.2.2.1 y hy
    refine fw_from [4] 100 4 ok_X1_mostGrownOn ⟨_, wc_X1_mostGrownOn⟩ rfl ?_
    refine zq_le 36 y rfl rfl (fun h => absurd h (by omega)) (fun _ => ?_)
    rcases hd with rfl | rfl | rfl <;>
    · refine And.intro (fw_in1 y 36 hy) ?_
      refine zq_brn (c := I _ _ = nI p) (d := ow y = p) ?_ (fun g => ?_) (fun g => ?_)
      · rw [zq_rd (h1 y hy), zo_eqn hP hp]
      · exact fw_sub ih (by simp [zl_mx, g, nI_1]) rfl
      · refine And.intro (fw_in1 y 36 hy) ?_
        refine fw_sub ih ?_ rfl
        have e1 : (if zp_I (zl_mx (fun y => ow y = p) (fun y => L 0 y) y) < nI (L 0 y) then nI (L 0 y) else zp_I (zl_mx (fun y => ow y = p) (fun y => L 0 y) y)) = zp_I (zl_mx (fun y => ow y = p) (fun y => L 0 y) (y + 1)) := by
          simp only [zl_mx, g, if_true]
          rw [show (if zp_I (zl_mx (fun y => ow y = p) (fun y => L 0 y) y) < nI (L 0 y) then nI (L 0 y) else zp_I (zl_mx (fun y => ow y = p) (fun y => L 0 y) y)) = (if zl_mx (fun y => ow y = p) (fun y => L 0 y) y < L 0 y + 1 then nI (L 0 y) else zp_I (zl_mx (fun y => ow y = p) (fun y => L 0 y) y)) from by simp only [zp_lt (show zl_mx (fun y => ow y = p) (fun y => L 0 y) y < 1000 by omega) (show L 0 y < 1000 by omega)]]
          split
          · simp [zp_I]
          · rfl
        rw [← e1]
        simp only [zq_rd (h0 y hy), nI_1])
  refine fw_enter [4] 100 ok_X1_mostGrownOn ⟨_, wc_X1_mostGrownOn⟩ rfl rfl rfl ?_
  exact loop 0 (by omega)
theorem ct_rolledBits (h : zl_at d L ow I) : zs_p X l mX1_rolledBits [.ref d] I (nI (zl_rb L (L 9 0))) := by
  obtain ⟨hd, hw, h0, h1, h2, h3, h4, h5⟩ := h
  have hP := hw.1
  have loop := zl_down (N := L 9 0) (G := fun y => fw_Go X l mX1_rolledBits (fun r σ => r = some (.int (nI (zl_rb L (L 9 0)))) ∧ σ = (fw_sh, I)) 4 0 0 [some (.ref d), some (.int (nI (zl_rb L y))), some (.int (nI y))] [] (fw_sh, I)) (by
    refine fw_from [4] 100 4 ok_X1_rolledBits ⟨_, wc_X1_rolledBits⟩ rfl ?_
    rcases hd with rfl | rfl | rfl <;>
    · refine zq_le (L 9 0) (L 9 0) h3 rfl (fun _ => ?_) (fun h => absurd h (by omega))
      exact ⟨rfl, rfl⟩) (fun y hy ih => by
    have w := hw.2.2.2 y hy
    refine fw_from [4] 100 4 ok_X1_rolledBits ⟨_, wc_X1_rolledBits⟩ rfl ?_
    rcases hd with rfl | rfl | rfl <;>
    · refine zq_le (L 9 0) y h3 rfl (fun h => absurd h (by omega)) (fun _ => ?_)
      refine And.intro (fw_in1 y 6 (by omega)) ?_
      refine zq_eq (L 7 y) 0 (zq_rd (h2 7 (by omega) (by omega) y hy)) rfl (fun g => ?_) (fun g => ?_)
      · exact fw_sub ih (by simp [zl_rb, zm_s, g, nI_1]) rfl
      · exact fw_sub ih (by rw [zb_or y (by omega) _ (zl_rb_lt L y), nI_1]; simp [zl_rb, zm_s, g]) rfl)
  refine fw_enter [4] 100 ok_X1_rolledBits ⟨_, wc_X1_rolledBits⟩ rfl rfl rfl ?_
  exact loop 0 (by omega)
theorem ct_treadDown (h : zl_at d L ow I) {p : Nat} (hp : p < L 9 0) : fw_Sem X l mX1_treadDown [.ref d, .int (nI p)] (fw_sh, I) (fun r σ => r = none ∧ ∃ I', σ = (fw_sh, I') ∧ zl_at d (zl_tr L ow p) ow I' ∧ zf_fr [d + 1] I I') := by
  obtain ⟨hd, hw, h0, h1, h2, h3, h4, h5⟩ := id h
  have hP := hw.1
  have loop := zl_down (N := 36) (G := fun y => ∀ I', zf_fr [d + 1] I I' → (∀ j, j < 36 → I' (d + 1) j = nI (if j < y ∧ ow j = p then 0 else L 0 j)) → fw_Go X l mX1_treadDown (fun r σ => r = none ∧ ∃ I', σ = (fw_sh, I') ∧ zl_at d (zl_tr L ow p) ow I' ∧ zf_fr [d + 1] I I') 2 0 0 [some (.ref d), some (.int (nI p)), some (.int (nI y))] [] (fw_sh, I')) (by
    intro I' hf hg
    refine fw_from [2] 100 2 ok_X1_treadDown ⟨_, wc_X1_treadDown⟩ rfl ?_
    refine zq_le 36 36 rfl rfl (fun _ => ?_) (fun h => absurd h (by omega))
    refine ⟨rfl, I', rfl, ⟨hd, ⟨hw.1, hw.2.1, fun y hy => ?_, hw.2.2.2⟩, fun y hy => ?_, fun y hy => ?_, fun k hk1 hk2 q hq => ?_, ?_, ?_, fun q hq => ?_⟩, hf⟩
    · have := hw.2.2.1 y hy
      simp only [zl_tr, if_true]; split <;> omega
    · rw [hg y hy]; simp [zl_tr, hy]
    · rw [hf (d + 2) (by simp)]; exact h1 y hy
    · rw [hf (d + 1 + k) (by simp; omega), h2 k hk1 hk2 q hq]; simp [zl_tr, show ¬ k = 0 by omega]
    · rw [hf d (by simp)]; exact h3
    · rw [hf d (by simp)]; exact h4
    · rw [hf (d + 8) (by simp)]; exact h5 q hq) (fun y hy ih => by
    intro I' hf hg
    have o1 : I' (d + 2) (nI y).toNatClampNeg = zo_I (L 9 0) (ow y) := by rw [hf (d + 2) (by simp)]; exact zq_rd (h1 y hy)
    obtain ⟨rw9, hrw⟩ : ∃ r, r = d + 1 := ⟨_, rfl⟩
    refine fw_from [2] 100 2 ok_X1_treadDown ⟨_, wc_X1_treadDown⟩ rfl ?_
    refine zq_le 36 y rfl rfl (fun h => absurd h (by omega)) (fun _ => ?_)
    rcases hd with rfl | rfl | rfl <;>
    · refine And.intro (fw_in1 y 36 hy) ?_
      refine zq_brn (c := I' _ _ = nI p) (d := ow y = p) ?_ (fun g => ?_) (fun g => ?_)
      · rw [o1, zo_eqn hP hp]
      · refine fw_sub (ih I' hf (fun j hj => ?_)) (by simp only [nI_1]) rfl
        rw [hg j hj]
        by_cases hjy : j = y
        · subst hjy; simp [g]
        · simp [show j < y + 1 ↔ j < y by omega]
      · refine And.intro (fw_in1 y 36 hy) ?_
        subst hrw
        refine fw_sub (ih (fw_up I' (_ + 1) y 0) (hf.up (List.mem_cons_self)) (fun j hj => ?_)) (by simp only [nI_1]) (by rw [nI_clamp (by omega)])
        by_cases hjy : j = y
        · subst hjy; rw [fw_up_at]; simp [g]; rfl
        · rw [fw_up_k hjy, hg j hj]; simp [show j < y + 1 ↔ j < y by omega])
  refine fw_enter [2] 100 ok_X1_treadDown ⟨_, wc_X1_treadDown⟩ rfl rfl rfl ?_
  exact loop 0 (by omega) I zf_fr.rf (fun j hj => by rw [h0 j hj]; simp)
theorem ct_turnOver (h : zl_at d L ow I) {p : Nat} (hp : p < L 9 0) : fw_Sem X l mX1_turnOver [.ref d, .int (nI p)] (fw_sh, I) (fun r σ => r = none ∧ ∃ I', σ = (fw_sh, I') ∧ zl_at d (zl_to L p) ow I' ∧ zf_fr [d + 8] I I') := by
  obtain ⟨hd, hw, h0, h1, h2, h3, h4, h5⟩ := id h
  have hP := hw.1
  have w := hw.2.2.2 p hp
  have key : ∀ v : Int32, v = nI (1 - L 7 p) → (fw_sh, fw_up I (d + 8) p v) = (fw_sh, fw_up I (d + 8) p v) ∧ zl_at d (zl_to L p) ow (fw_up I (d + 8) p v) ∧ zf_fr [d + 8] I (fw_up I (d + 8) p v) := by
    intro v hv
    have hf : zf_fr [d + 8] I (fw_up I (d + 8) p v) := zf_fr.rf.up (by simp)
    refine ⟨rfl, ⟨hd, ⟨hw.1, hw.2.1, hw.2.2.1, fun q hq => ?_⟩, fun y hy => ?_, fun y hy => ?_, fun k hk1 hk2 q hq => ?_, ?_, ?_, fun q hq => ?_⟩, hf⟩
    · have w2 := hw.2.2.2 q hq
      refine ⟨w2.1, w2.2.1, w2.2.2.1, w2.2.2.2.1, w2.2.2.2.2.1, w2.2.2.2.2.2.1, w2.2.2.2.2.2.2.1, ?_⟩
      simp only [zl_to]; split <;> omega
    · rw [hf (d + 1) (by simp)]; exact h0 y hy
    · rw [hf (d + 2) (by simp)]; exact h1 y hy
    · by_cases hk : k = 7
      · subst hk
        by_cases hqp : q = p
        · subst hqp; rw [show d + 1 + 7 = d + 8 by omega, fw_up_at, hv]; simp [zl_to]
        · rw [show d + 1 + 7 = d + 8 by omega, fw_up_k hqp, show d + 8 = d + 1 + 7 by omega, h2 7 (by omega) (by omega) q hq]; simp [zl_to, hqp]
      · rw [hf (d + 1 + k) (by simp; omega), h2 k hk1 hk2 q hq]; simp [zl_to, hk]
    · rw [hf d (by simp)]; exact h3
    · rw [hf d (by simp)]; exact h4
    · by_cases hqp : q = p
      · subst hqp; rw [fw_up_at, hv]
        rcases (show L 7 q = 0 ∨ L 7 q = 1 by omega) with e | e <;> rw [e] <;> simp [fw_bool] <;> decide
      · rw [fw_up_k hqp]; exact h5 q hq
  have r7 := zq_rd (h2 7 (by omega) (by omega) p hp)
  refine fw_enter [] 100 ok_X1_turnOver ⟨_, wc_X1_turnOver⟩ rfl rfl rfl ?_
  rcases hd with rfl | rfl | rfl <;>
  · refine And.intro (fw_in1 p 6 (by omega)) ?_
    refine zq_ne (L 7 p) 0 r7 rfl (fun g => ?_) (fun g => ?_)
    · refine And.intro (Or.inl rfl) (And.intro (fw_in1 p 6 (by omega)) ?_)
      have k1 := key 0 (by rw [show 1 - L 7 p = 0 by omega]; rfl)
      refine ⟨rfl, _, ?_, k1.2⟩
      rw [nI_clamp (by omega)]
    · refine And.intro (Or.inr rfl) (And.intro (fw_in1 p 6 (by omega)) ?_)
      have k1 := key 1 (by rw [show 1 - L 7 p = 1 by omega]; rfl)
      refine ⟨rfl, _, ?_, k1.2⟩
      rw [nI_clamp (by omega)]
end zE
