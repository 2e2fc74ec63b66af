def z_s0 : zS := (fun _ _ => 0, fun _ _ => 0, fun _ _ => 0, fun _ => 0)
theorem z_L0 : zl_wf (fun _ _ => 0) := ⟨Nat.zero_le _, Nat.zero_le _, fun _ _ => Nat.zero_le _, fun p hp => absurd hp (Nat.not_lt_zero p)⟩
theorem z_w0 : zs_wf z_s0 := ⟨Nat.zero_le _, Nat.zero_le _, Nat.zero_le _, fun _ => Nat.zero_le _, Nat.zero_le _, fun _ => Nat.zero_le _, fun _ => Nat.zero_le _⟩
section zSt
variable {X : Nat × (Nat → Int32)} {l : Launch} {I : Nat → Nat → Int32}
theorem lz_s0c (h : zk_M 16 (-9) I) : zc_at z_s0 I := by
  have hz := h.1.1
  have z0 : nI 0 = 0 := rfl
  refine ⟨z_w0, ⟨Or.inl rfl, z_L0, fun y hy => ?_, fun y hy => ?_, fun k _ _ p hp => absurd hp (Nat.not_lt_zero p), ?_, ?_, fun p hp => Or.inl ?_⟩, ?_, fun z => absurd (show (0 : Nat) = 1 from z) (by decide), ?_, fun j hj => absurd hj (Nat.not_lt_zero j), ?_, fun j hj => absurd hj (Nat.not_lt_zero j), fun k hk => ?_⟩
  · exact hz 2 y (by omega) (by omega) (by omega) (by omega) (fun _ => hy)
  · rw [zo_none (show ¬ zl_ow z_s0.1 6 y < z_s0.1 9 0 from Nat.not_lt_zero _)]; exact h.1.2 3 (by omega) (Or.inl rfl) y hy
  · exact hz 1 9 (by omega) (by omega) (by omega) (by omega) (fun z => by omega)
  · exact hz 1 10 (by omega) (by omega) (by omega) (by omega) (fun z => by omega)
  · exact hz 9 p (by omega) (by omega) (by omega) (by omega) (fun z => by omega)
  · exact hz 0 3 (by omega) (by omega) (by omega) (by omega) (fun z => by omega)
  · exact hz 34 1 (by omega) (by omega) (by omega) (by omega) (fun z => by omega)
  · exact hz 0 7 (by omega) (by omega) (by omega) (by omega) (fun z => by omega)
  · exact hz 37 k (by omega) (by omega) (by omega) (by omega) (fun z => by omega)
theorem lz_s0m (h : zk_M 16 (-9) I) : zm_at z_s0 I := by
  have hr := h.2.1
  have hz := h.2.2
  refine ⟨z_w0, ⟨z_L0, fun y hy => ?_, fun k _ _ p hp => absurd hp (Nat.not_lt_zero p), ?_, ?_, ?_, ?_⟩, ?_, fun z => absurd (show (0 : Nat) = 1 from z) (by decide), ?_, fun j hj => absurd hj (Nat.not_lt_zero j), ?_, fun j hj => absurd hj (Nat.not_lt_zero j), fun k hk => ?_⟩
  · exact hz 40 y (by omega) (by omega)
  · rw [hr]; rfl
  · rw [hr]; rfl
  · rw [hr]; rfl
  · rw [hr]; rfl
  · rw [hr]; rfl
  · rw [hr]; rfl
  · rw [hr]; rfl
  · exact hz 39 k (by omega) (by omega)
theorem lz_M0 (h : zk_Z 38 I) : zk_M 0 0 (fw_I1 I 38) := by
  refine ⟨⟨fun c j h1 h2 h3 h4 h5 => ?_, fun c h1 h2 y hy => ?_⟩, fun i => ?_, fun c i h1 h2 => absurd h2 (by omega)⟩
  · simp only [fw_I1]; rw [if_neg (by omega)]; exact h.1 c j h1 h2 h3 h4 h5
  · simp only [fw_I1]; rw [if_neg (by omega)]; exact h.2 c h1 h2 y hy
  · simp only [fw_I1, if_true]; split <;> rfl
set_option maxRecDepth 30000 in
theorem lz_go (hL : X.1 ≤ 2560) : fw_Go X l mL_law lz_Q 0 0 0 [some (.ref 2000), none, none, none] [] ([], I) := by
  have g2 : ∀ I', zk_Z 38 I' → fw_Go X l mL_law lz_Q 8 38 580 [some (.ref 2000), some (.ref 0), none, none] [] (zk_P8, I') := by
    intro I' h
    refine fw_fromL [18] 100 4 rfl ?_
    refine ⟨_, ct_initM (X := X) (l := l) (lz_M0 h), ?_⟩
    rintro v σ' ⟨rfl, I2, rfl, h2⟩
    exact fw_sub (lz_loop (X := X) (l := l) hL (X.1 + 1) 0 (by omega) (by omega) z_s0 I2 (lz_s0c h2) (lz_s0m h2)) (by rfl) (by rfl)
  refine fw_fromL [8] 100 0 rfl ?_
  refine ⟨_, ct_init (X := X) (l := l) (I := fw_I1 I 0) (zk_Z_new (m := 0) ⟨fun c j h => absurd h (by omega), fun c h => absurd h (by omega)⟩ (by omega)), ?_⟩
  rintro v σ' ⟨rfl, I1, rfl, h1⟩
  exact fw_sub (g2 I1 h1) (by rfl) (by rfl)
end zSt
