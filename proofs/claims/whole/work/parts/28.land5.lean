theorem zl_at.keep {d : Nat} {L : Nat → Nat → Nat} {ow : Nat → Nat} {I I' : Nat → Nat → Int32} (h : zl_at d L ow I) (hf : ∀ c, d ≤ c → c ≤ d + 8 → I' c = I c) : zl_at d L ow I' := by
  obtain ⟨hd, hw, h0, h1, h2, h3, h4, h5⟩ := h
  refine ⟨hd, hw, fun y hy => ?_, fun y hy => ?_, fun k hk1 hk2 q hq => ?_, ?_, ?_, fun q hq => ?_⟩
  · rw [hf _ (by omega) (by omega)]; exact h0 y hy
  · rw [hf _ (by omega) (by omega)]; exact h1 y hy
  · rw [hf _ (by omega) (by omega)]; exact h2 k hk1 hk2 q hq
  · rw [hf _ (by omega) (by omega)]; exact h3
  · rw [hf _ (by omega) (by omega)]; exact h4
  · rw [hf _ (by omega) (by omega)]; exact h5 q hq
def zl_pd (L : Nat → Nat → Nat) (ow : Nat → Nat) (N : Nat) : Nat → Nat → Nat := fun k j => if k = 0 then (if ow j < L 9 0 then (if L 0 j + zl_ov L (ow j) N < 9 then L 0 j + zl_ov L (ow j) N else 9) else L 0 j) else if k = 10 then L 10 j + N else L k j
section zF
variable {X : Nat × (Nat → Int32)} {l : Launch} {I : Nat → Nat → Int32} {d : Nat} {L : Nat → Nat → Nat} {ow : Nat → Nat}
theorem zl_ov_le (h : zl_at d L ow I) {p : Nat} (hp : p < L 9 0) (N : Nat) : zl_ov L p N ≤ 12 := by
  unfold zl_ov
  split
  · exact zl_go_le (fun a => zl_gr_le (h.2.1.2.2.2 p hp).2.1) _ _ _ (by omega)
  · omega
theorem ct_growthOver (h : zl_at d L ow I) {p N : Nat} (hp : p < L 9 0) (hN : N ≤ 1000) : zs_p X l mX1_growthOver [.ref d, .int (nI p), .int (nI N)] I (nI (zl_ov L p N)) := by
  obtain ⟨hd, hw, h0, h1, h2, h3, h4, h5⟩ := id h
  have hP := hw.1
  have w := hw.2.2.2 p hp
  have hday := hw.2.1
  have loop := zl_down (N := N + 1) (G := fun a => ∀ acc, acc ≤ 12 → 1 ≤ a → fw_Go X l mX1_growthOver (fun r σ => r = some (.int (nI (if L 7 p = 0 then zl_go (fun a => zl_gr (L 2 p) (L 3 p) (L 10 0 + a)) (N + 1 - a) a acc else acc))) ∧ σ = (fw_sh, I)) 5 0 0 [some (.ref d), some (.int (nI p)), some (.int (nI N)), some (.int (nI acc)), some (.int (nI a))] [] (fw_sh, I)) (by
    intro acc hacc _
    refine fw_from [5] 100 4 ok_X1_growthOver ⟨_, wc_X1_growthOver⟩ rfl ?_
    refine zq_lt N (N + 1) rfl rfl (fun _ => ?_) (fun h => absurd h (by omega))
    exact ⟨by simp [zl_go], rfl⟩) (fun a ha ih => by
    intro acc hacc ha1
    have hs : N + 1 - a = (N - a) + 1 := by omega
    refine fw_from [5] 100 4 ok_X1_growthOver ⟨_, wc_X1_growthOver⟩ rfl ?_
    refine zq_lt N a rfl rfl (fun h => absurd h (by omega)) (fun _ => ?_)
    refine zq_le 9 acc rfl rfl (fun g => ?_) (fun g => ?_)
    · exact ⟨by rw [hs]; simp [zl_go, g], rfl⟩
    have k7 := zq_rd (h2 7 (by omega) (by omega) p hp)
    have k2 := zq_rd (h2 2 (by omega) (by omega) p hp)
    have k3 := zq_rd (h2 3 (by omega) (by omega) p hp)
    have c1 := ct_ofKind (X := X) (l := l) (I := I) (L 2 p) (L 3 p) (L 10 0 + a) w.1 w.2.1 (by omega)
    rw [← k2, ← k3, ← nI_add, ← h4] at c1
    rcases hd with rfl | rfl | rfl <;>
    · refine And.intro (fw_in1 p 6 (by omega)) ?_
      refine zq_ne (L 7 p) 0 k7 rfl (fun g7 => ?_) (fun g7 => ?_)
      · exact ⟨by simp [g7], rfl⟩
      refine And.intro (fw_in1 p 6 (by omega)) ?_
      refine And.intro (fw_in1 p 6 (by omega)) ?_
      refine ⟨_, c1, ?_⟩
      rintro v σ' ⟨rfl, rfl⟩
      have hgl := zl_gr_le (k := L 2 p) (d := L 10 0 + a) w.2.1
      have e := ih (acc + zl_gr (L 2 p) (L 3 p) (L 10 0 + a)) (by omega) (by omega)
      rw [hs]
      have e2 : zl_go (fun a => zl_gr (L 2 p) (L 3 p) (L 10 0 + a)) (N - a + 1) a acc = zl_go (fun a => zl_gr (L 2 p) (L 3 p) (L 10 0 + a)) (N + 1 - (a + 1)) (a + 1) (acc + zl_gr (L 2 p) (L 3 p) (L 10 0 + a)) := by
        rw [show N + 1 - (a + 1) = N - a by omega]
        simp only [zl_go, show ¬ 9 ≤ acc by omega, if_false]
      rw [e2]
      simp only [g7, if_true] at e ⊢
      exact fw_sub e (by simp only [nI_1, nI_add]) rfl)
  refine fw_enter [5] 100 ok_X1_growthOver ⟨_, wc_X1_growthOver⟩ rfl rfl rfl ?_
  exact fw_sub (loop 1 (by omega) 0 (by omega) (by omega)) rfl rfl
end zF
