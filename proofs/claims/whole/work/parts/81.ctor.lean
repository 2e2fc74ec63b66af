/-! The constructors: the shape grows; shapes written out, a piece at a time. -/
/-- a Land's memory as it is made -/
def zn_at (o : Nat) (I I' : Nat → Nat → Int32) : Prop := (∀ c, c ≤ o → I' c = I c) ∧ (∀ y, y < 36 → I' (o + 1) y = 0) ∧ (∀ y, y < 36 → I' (o + 2) y = -1) ∧ ∀ c, o + 3 ≤ c → c ≤ o + 9 → ∀ j, I' c j = 0
def zk_I (I : Nat → Nat → Int32) (o : Nat) : Nat → Nat → Nat → Int32
  | 0 => I
  | j + 1 => fw_I1 (zk_I I o j) (o + 1 + j)
theorem zk_I_lo {I : Nat → Nat → Int32} {o c : Nat} (h : c ≤ o) : ∀ j, zk_I I o j c = I c
  | 0 => rfl
  | j + 1 => by simp only [zk_I, fw_I1]; rw [if_neg (by omega)]; exact zk_I_lo h j
theorem zk_I_hi {I : Nat → Nat → Int32} {o c i : Nat} (h : o + 1 ≤ c) : ∀ j, c < o + 1 + j → zk_I I o j c i = 0
  | 0, h2 => absurd h2 (by omega)
  | j + 1, h2 => by
    simp only [zk_I, fw_I1]
    split
    · rfl
    · exact zk_I_hi h j (by omega)
section zK
variable {X : Nat × (Nat → Int32)} {l : Launch} {I : Nat → Nat → Int32}
def zk_1_0 : fw_Sh := [(3, 0, [some none, some none, some none, none, some none, some none, some none, none, some none]), (0, 0, [some none, some none, some none, some none, some none, some none, some none, some none, some none, none, none])]
def zk_1_1 : fw_Sh := [(3, 0, [some none, some none, some none, none, some none, some none, some none, none, some none]), (0, 0, [some (some 2), some none, some none, some none, some none, some none, some none, some none, some none, none, none]), (10, 36, [])]
def zk_1_2 : fw_Sh := [(3, 0, [some none, some none, some none, none, some none, some none, some none, none, some none]), (0, 0, [some (some 2), some (some 3), some none, some none, some none, some none, some none, some none, some none, none, none]), (10, 36, []), (10, 36, [])]
def zk_1_3 : fw_Sh := [(3, 0, [some none, some none, some none, none, some none, some none, some none, none, some none]), (0, 0, [some (some 2), some (some 3), some (some 4), some none, some none, some none, some none, some none, some none, none, none]), (10, 36, []), (10, 36, []), (10, 6, [])]
def zk_1_4 : fw_Sh := [(3, 0, [some none, some none, some none, none, some none, some none, some none, none, some none]), (0, 0, [some (some 2), some (some 3), some (some 4), some (some 5), some none, some none, some none, some none, some none, none, none]), (10, 36, []), (10, 36, []), (10, 6, []), (10, 6, [])]
def zk_1_5 : fw_Sh := [(3, 0, [some none, some none, some none, none, some none, some none, some none, none, some none]), (0, 0, [some (some 2), some (some 3), some (some 4), some (some 5), some (some 6), some none, some none, some none, some none, none, none]), (10, 36, []), (10, 36, []), (10, 6, []), (10, 6, []), (10, 6, [])]
def zk_1_6 : fw_Sh := [(3, 0, [some none, some none, some none, none, some none, some none, some none, none, some none]), (0, 0, [some (some 2), some (some 3), some (some 4), some (some 5), some (some 6), some (some 7), some none, some none, some none, none, none]), (10, 36, []), (10, 36, []), (10, 6, []), (10, 6, []), (10, 6, []), (10, 6, [])]
def zk_1_7 : fw_Sh := [(3, 0, [some none, some none, some none, none, some none, some none, some none, none, some none]), (0, 0, [some (some 2), some (some 3), some (some 4), some (some 5), some (some 6), some (some 7), some (some 8), some none, some none, none, none]), (10, 36, []), (10, 36, []), (10, 6, []), (10, 6, []), (10, 6, []), (10, 6, []), (10, 6, [])]
def zk_1_8 : fw_Sh := [(3, 0, [some none, some none, some none, none, some none, some none, some none, none, some none]), (0, 0, [some (some 2), some (some 3), some (some 4), some (some 5), some (some 6), some (some 7), some (some 8), some (some 9), some none, none, none]), (10, 36, []), (10, 36, []), (10, 6, []), (10, 6, []), (10, 6, []), (10, 6, []), (10, 6, []), (11, 6, [])]
def zk_1_9 : fw_Sh := [(3, 0, [some none, some none, some none, none, some none, some none, some none, none, some none]), (0, 0, [some (some 2), some (some 3), some (some 4), some (some 5), some (some 6), some (some 7), some (some 8), some (some 9), some (some 10), none, none]), (10, 36, []), (10, 36, []), (10, 6, []), (10, 6, []), (10, 6, []), (10, 6, []), (10, 6, []), (11, 6, []), (10, 6, [])]
theorem ct_init1 : fw_Sem X l mX1_init [.ref 1] (zk_1_0, I) (fun r σ => r = none ∧ ∃ I', σ = (zk_1_9, I') ∧ zn_at 1 I I') := by
  have loop := zl_down (N := 36) (G := fun y => ∀ I', (∀ c, c ≤ 1 → I' c = I c) → (∀ y, y < 36 → I' (1 + 1) y = 0) → (∀ j, j < y → I' (1 + 2) j = -1) → (∀ c, 1 + 3 ≤ c → c ≤ 1 + 9 → ∀ j, I' c j = 0) → fw_Go X l mX1_init (fun r σ => r = none ∧ ∃ I', σ = (zk_1_9, I') ∧ zn_at 1 I I') 78 9 114 [some (.ref 1), some (.int (nI y))] [] (zk_1_9, I')) (by
    intro I' h1 h2 h3 h4
    refine fw_from [78] 100 40 ok_X1_init ⟨_, wc_X1_init⟩ rfl ?_
    refine zq_le 36 36 rfl rfl (fun _ => ?_) (fun h => absurd h (by omega))
    exact ⟨rfl, I', rfl, h1, h2, h3, h4⟩) (fun y hy ih => by
    intro I' h1 h2 h3 h4
    refine fw_from [78] 100 40 ok_X1_init ⟨_, wc_X1_init⟩ rfl ?_
    refine zq_le 36 y rfl rfl (fun h => absurd h (by omega)) (fun _ => ?_)
    refine And.intro (fw_in1 y 36 hy) ?_
    refine fw_sub (ih (fw_up I' (1 + 2) y (-1)) (fun c hc => by rw [fw_up_ne c (by omega)]; exact h1 c hc) (fun z hz => by rw [fw_up_ne _ (by omega)]; exact h2 z hz) (fun j hj => ?_) (fun c c1 c2 j => by rw [fw_up_ne c (by omega)]; exact h4 c c1 c2 j)) (by simp only [nI_1]) (by rw [nI_clamp (by omega)])
    by_cases e : j = y
    · subst e; rw [fw_up_at]
    · rw [fw_up_k e]; exact h3 j (by omega))
  have g9 : fw_Go X l mX1_init (fun r σ => r = none ∧ ∃ I', σ = (zk_1_9, I') ∧ zn_at 1 I I') 76 9 114 [some (.ref 1), none] [] (zk_1_9, zk_I I 1 9) := by
    refine fw_from [78] 100 38 ok_X1_init ⟨_, wc_X1_init⟩ rfl ?_
    exact fw_sub (loop 0 (by omega) (zk_I I 1 9) (fun c hc => zk_I_lo hc 9) (fun y _ => zk_I_hi (by omega) 9 (by omega)) (fun j hj => absurd hj (by omega)) (fun c c1 c2 j => zk_I_hi (by omega) 9 (by omega))) (by rfl) rfl
  have g8 : fw_Go X l mX1_init (fun r σ => r = none ∧ ∃ I', σ = (zk_1_9, I') ∧ zn_at 1 I I') 68 8 108 [some (.ref 1), none] [] (zk_1_8, zk_I I 1 8) := by
    refine fw_from [] 4 34 ok_X1_init ⟨_, wc_X1_init⟩ rfl ?_
    refine And.intro (by decide) ?_
    exact fw_sub g9 (by rfl) (by rfl)
  have g7 : fw_Go X l mX1_init (fun r σ => r = none ∧ ∃ I', σ = (zk_1_9, I') ∧ zn_at 1 I I') 60 7 102 [some (.ref 1), none] [] (zk_1_7, zk_I I 1 7) := by
    refine fw_from [] 4 30 ok_X1_init ⟨_, wc_X1_init⟩ rfl ?_
    refine And.intro (by decide) ?_
    exact fw_sub g8 (by rfl) (by rfl)
  have g6 : fw_Go X l mX1_init (fun r σ => r = none ∧ ∃ I', σ = (zk_1_9, I') ∧ zn_at 1 I I') 52 6 96 [some (.ref 1), none] [] (zk_1_6, zk_I I 1 6) := by
    refine fw_from [] 4 26 ok_X1_init ⟨_, wc_X1_init⟩ rfl ?_
    refine And.intro (by decide) ?_
    exact fw_sub g7 (by rfl) (by rfl)
  have g5 : fw_Go X l mX1_init (fun r σ => r = none ∧ ∃ I', σ = (zk_1_9, I') ∧ zn_at 1 I I') 44 5 90 [some (.ref 1), none] [] (zk_1_5, zk_I I 1 5) := by
    refine fw_from [] 4 22 ok_X1_init ⟨_, wc_X1_init⟩ rfl ?_
    refine And.intro (by decide) ?_
    exact fw_sub g6 (by rfl) (by rfl)
  have g4 : fw_Go X l mX1_init (fun r σ => r = none ∧ ∃ I', σ = (zk_1_9, I') ∧ zn_at 1 I I') 36 4 84 [some (.ref 1), none] [] (zk_1_4, zk_I I 1 4) := by
    refine fw_from [] 4 18 ok_X1_init ⟨_, wc_X1_init⟩ rfl ?_
    refine And.intro (by decide) ?_
    exact fw_sub g5 (by rfl) (by rfl)
  have g3 : fw_Go X l mX1_init (fun r σ => r = none ∧ ∃ I', σ = (zk_1_9, I') ∧ zn_at 1 I I') 28 3 78 [some (.ref 1), none] [] (zk_1_3, zk_I I 1 3) := by
    refine fw_from [] 4 14 ok_X1_init ⟨_, wc_X1_init⟩ rfl ?_
    refine And.intro (by decide) ?_
    exact fw_sub g4 (by rfl) (by rfl)
  have g2 : fw_Go X l mX1_init (fun r σ => r = none ∧ ∃ I', σ = (zk_1_9, I') ∧ zn_at 1 I I') 20 2 72 [some (.ref 1), none] [] (zk_1_2, zk_I I 1 2) := by
    refine fw_from [] 4 10 ok_X1_init ⟨_, wc_X1_init⟩ rfl ?_
    refine And.intro (by decide) ?_
    exact fw_sub g3 (by rfl) (by rfl)
  have g1 : fw_Go X l mX1_init (fun r σ => r = none ∧ ∃ I', σ = (zk_1_9, I') ∧ zn_at 1 I I') 12 1 36 [some (.ref 1), none] [] (zk_1_1, zk_I I 1 1) := by
    refine fw_from [] 4 6 ok_X1_init ⟨_, wc_X1_init⟩ rfl ?_
    refine And.intro (by decide) ?_
    exact fw_sub g2 (by rfl) (by rfl)
  have g0 : fw_Go X l mX1_init (fun r σ => r = none ∧ ∃ I', σ = (zk_1_9, I') ∧ zn_at 1 I I') 4 0 0 [some (.ref 1), none] [] (zk_1_0, zk_I I 1 0) := by
    refine fw_from [] 4 2 ok_X1_init ⟨_, wc_X1_init⟩ rfl ?_
    refine And.intro (by decide) ?_
    exact fw_sub g1 (by rfl) (by rfl)
  refine fw_enter [4] 100 ok_X1_init ⟨_, wc_X1_init⟩ rfl rfl rfl ?_
  exact fw_sub g0 (by rfl) rfl
def zk_11_0 : fw_Sh := [(3, 0, [some (some 1), some none, some none, none, some none, some none, some none, none, some none]), (0, 0, [some (some 2), some (some 3), some (some 4), some (some 5), some (some 6), some (some 7), some (some 8), some (some 9), some (some 10), none, none]), (10, 36, []), (10, 36, []), (10, 6, []), (10, 6, []), (10, 6, []), (10, 6, []), (10, 6, []), (11, 6, []), (10, 6, []), (0, 0, [some none, some none, some none, some none, some none, some none, some none, some none, some none, none, none])]
def zk_11_1 : fw_Sh := [(3, 0, [some (some 1), some none, some none, none, some none, some none, some none, none, some none]), (0, 0, [some (some 2), some (some 3), some (some 4), some (some 5), some (some 6), some (some 7), some (some 8), some (some 9), some (some 10), none, none]), (10, 36, []), (10, 36, []), (10, 6, []), (10, 6, []), (10, 6, []), (10, 6, []), (10, 6, []), (11, 6, []), (10, 6, []), (0, 0, [some (some 12), some none, some none, some none, some none, some none, some none, some none, some none, none, none]), (10, 36, [])]
def zk_11_2 : fw_Sh := [(3, 0, [some (some 1), some none, some none, none, some none, some none, some none, none, some none]), (0, 0, [some (some 2), some (some 3), some (some 4), some (some 5), some (some 6), some (some 7), some (some 8), some (some 9), some (some 10), none, none]), (10, 36, []), (10, 36, []), (10, 6, []), (10, 6, []), (10, 6, []), (10, 6, []), (10, 6, []), (11, 6, []), (10, 6, []), (0, 0, [some (some 12), some (some 13), some none, some none, some none, some none, some none, some none, some none, none, none]), (10, 36, []), (10, 36, [])]
def zk_11_3 : fw_Sh := [(3, 0, [some (some 1), some none, some none, none, some none, some none, some none, none, some none]), (0, 0, [some (some 2), some (some 3), some (some 4), some (some 5), some (some 6), some (some 7), some (some 8), some (some 9), some (some 10), none, none]), (10, 36, []), (10, 36, []), (10, 6, []), (10, 6, []), (10, 6, []), (10, 6, []), (10, 6, []), (11, 6, []), (10, 6, []), (0, 0, [some (some 12), some (some 13), some (some 14), some none, some none, some none, some none, some none, some none, none, none]), (10, 36, []), (10, 36, []), (10, 6, [])]
def zk_11_4 : fw_Sh := [(3, 0, [some (some 1), some none, some none, none, some none, some none, some none, none, some none]), (0, 0, [some (some 2), some (some 3), some (some 4), some (some 5), some (some 6), some (some 7), some (some 8), some (some 9), some (some 10), none, none]), (10, 36, []), (10, 36, []), (10, 6, []), (10, 6, []), (10, 6, []), (10, 6, []), (10, 6, []), (11, 6, []), (10, 6, []), (0, 0, [some (some 12), some (some 13), some (some 14), some (some 15), some none, some none, some none, some none, some none, none, none]), (10, 36, []), (10, 36, []), (10, 6, []), (10, 6, [])]
def zk_11_5 : fw_Sh := [(3, 0, [some (some 1), some none, some none, none, some none, some none, some none, none, some none]), (0, 0, [some (some 2), some (some 3), some (some 4), some (some 5), some (some 6), some (some 7), some (some 8), some (some 9), some (some 10), none, none]), (10, 36, []), (10, 36, []), (10, 6, []), (10, 6, []), (10, 6, []), (10, 6, []), (10, 6, []), (11, 6, []), (10, 6, []), (0, 0, [some (some 12), some (some 13), some (some 14), some (some 15), some (some 16), some none, some none, some none, some none, none, none]), (10, 36, []), (10, 36, []), (10, 6, []), (10, 6, []), (10, 6, [])]
def zk_11_6 : fw_Sh := [(3, 0, [some (some 1), some none, some none, none, some none, some none, some none, none, some none]), (0, 0, [some (some 2), some (some 3), some (some 4), some (some 5), some (some 6), some (some 7), some (some 8), some (some 9), some (some 10), none, none]), (10, 36, []), (10, 36, []), (10, 6, []), (10, 6, []), (10, 6, []), (10, 6, []), (10, 6, []), (11, 6, []), (10, 6, []), (0, 0, [some (some 12), some (some 13), some (some 14), some (some 15), some (some 16), some (some 17), some none, some none, some none, none, none]), (10, 36, []), (10, 36, []), (10, 6, []), (10, 6, []), (10, 6, []), (10, 6, [])]
def zk_11_7 : fw_Sh := [(3, 0, [some (some 1), some none, some none, none, some none, some none, some none, none, some none]), (0, 0, [some (some 2), some (some 3), some (some 4), some (some 5), some (some 6), some (some 7), some (some 8), some (some 9), some (some 10), none, none]), (10, 36, []), (10, 36, []), (10, 6, []), (10, 6, []), (10, 6, []), (10, 6, []), (10, 6, []), (11, 6, []), (10, 6, []), (0, 0, [some (some 12), some (some 13), some (some 14), some (some 15), some (some 16), some (some 17), some (some 18), some none, some none, none, none]), (10, 36, []), (10, 36, []), (10, 6, []), (10, 6, []), (10, 6, []), (10, 6, []), (10, 6, [])]
def zk_11_8 : fw_Sh := [(3, 0, [some (some 1), some none, some none, none, some none, some none, some none, none, some none]), (0, 0, [some (some 2), some (some 3), some (some 4), some (some 5), some (some 6), some (some 7), some (some 8), some (some 9), some (some 10), none, none]), (10, 36, []), (10, 36, []), (10, 6, []), (10, 6, []), (10, 6, []), (10, 6, []), (10, 6, []), (11, 6, []), (10, 6, []), (0, 0, [some (some 12), some (some 13), some (some 14), some (some 15), some (some 16), some (some 17), some (some 18), some (some 19), some none, none, none]), (10, 36, []), (10, 36, []), (10, 6, []), (10, 6, []), (10, 6, []), (10, 6, []), (10, 6, []), (11, 6, [])]
def zk_11_9 : fw_Sh := [(3, 0, [some (some 1), some none, some none, none, some none, some none, some none, none, some none]), (0, 0, [some (some 2), some (some 3), some (some 4), some (some 5), some (some 6), some (some 7), some (some 8), some (some 9), some (some 10), none, none]), (10, 36, []), (10, 36, []), (10, 6, []), (10, 6, []), (10, 6, []), (10, 6, []), (10, 6, []), (11, 6, []), (10, 6, []), (0, 0, [some (some 12), some (some 13), some (some 14), some (some 15), some (some 16), some (some 17), some (some 18), some (some 19), some (some 20), none, none]), (10, 36, []), (10, 36, []), (10, 6, []), (10, 6, []), (10, 6, []), (10, 6, []), (10, 6, []), (11, 6, []), (10, 6, [])]
theorem ct_init11 : fw_Sem X l mX1_init [.ref 11] (zk_11_0, I) (fun r σ => r = none ∧ ∃ I', σ = (zk_11_9, I') ∧ zn_at 11 I I') := by
  have loop := zl_down (N := 36) (G := fun y => ∀ I', (∀ c, c ≤ 11 → I' c = I c) → (∀ y, y < 36 → I' (11 + 1) y = 0) → (∀ j, j < y → I' (11 + 2) j = -1) → (∀ c, 11 + 3 ≤ c → c ≤ 11 + 9 → ∀ j, I' c j = 0) → fw_Go X l mX1_init (fun r σ => r = none ∧ ∃ I', σ = (zk_11_9, I') ∧ zn_at 11 I I') 78 9 114 [some (.ref 11), some (.int (nI y))] [] (zk_11_9, I')) (by
    intro I' h1 h2 h3 h4
    refine fw_from [78] 100 40 ok_X1_init ⟨_, wc_X1_init⟩ rfl ?_
    refine zq_le 36 36 rfl rfl (fun _ => ?_) (fun h => absurd h (by omega))
    exact ⟨rfl, I', rfl, h1, h2, h3, h4⟩) (fun y hy ih => by
    intro I' h1 h2 h3 h4
    refine fw_from [78] 100 40 ok_X1_init ⟨_, wc_X1_init⟩ rfl ?_
    refine zq_le 36 y rfl rfl (fun h => absurd h (by omega)) (fun _ => ?_)
    refine And.intro (fw_in1 y 36 hy) ?_
    refine fw_sub (ih (fw_up I' (11 + 2) y (-1)) (fun c hc => by rw [fw_up_ne c (by omega)]; exact h1 c hc) (fun z hz => by rw [fw_up_ne _ (by omega)]; exact h2 z hz) (fun j hj => ?_) (fun c c1 c2 j => by rw [fw_up_ne c (by omega)]; exact h4 c c1 c2 j)) (by simp only [nI_1]) (by rw [nI_clamp (by omega)])
    by_cases e : j = y
    · subst e; rw [fw_up_at]
    · rw [fw_up_k e]; exact h3 j (by omega))
  have g9 : fw_Go X l mX1_init (fun r σ => r = none ∧ ∃ I', σ = (zk_11_9, I') ∧ zn_at 11 I I') 76 9 114 [some (.ref 11), none] [] (zk_11_9, zk_I I 11 9) := by
    refine fw_from [78] 100 38 ok_X1_init ⟨_, wc_X1_init⟩ rfl ?_
    exact fw_sub (loop 0 (by omega) (zk_I I 11 9) (fun c hc => zk_I_lo hc 9) (fun y _ => zk_I_hi (by omega) 9 (by omega)) (fun j hj => absurd hj (by omega)) (fun c c1 c2 j => zk_I_hi (by omega) 9 (by omega))) (by rfl) rfl
  have g8 : fw_Go X l mX1_init (fun r σ => r = none ∧ ∃ I', σ = (zk_11_9, I') ∧ zn_at 11 I I') 68 8 108 [some (.ref 11), none] [] (zk_11_8, zk_I I 11 8) := by
    refine fw_from [] 4 34 ok_X1_init ⟨_, wc_X1_init⟩ rfl ?_
    refine And.intro (by decide) ?_
    exact fw_sub g9 (by rfl) (by rfl)
  have g7 : fw_Go X l mX1_init (fun r σ => r = none ∧ ∃ I', σ = (zk_11_9, I') ∧ zn_at 11 I I') 60 7 102 [some (.ref 11), none] [] (zk_11_7, zk_I I 11 7) := by
    refine fw_from [] 4 30 ok_X1_init ⟨_, wc_X1_init⟩ rfl ?_
    refine And.intro (by decide) ?_
    exact fw_sub g8 (by rfl) (by rfl)
  have g6 : fw_Go X l mX1_init (fun r σ => r = none ∧ ∃ I', σ = (zk_11_9, I') ∧ zn_at 11 I I') 52 6 96 [some (.ref 11), none] [] (zk_11_6, zk_I I 11 6) := by
    refine fw_from [] 4 26 ok_X1_init ⟨_, wc_X1_init⟩ rfl ?_
    refine And.intro (by decide) ?_
    exact fw_sub g7 (by rfl) (by rfl)
  have g5 : fw_Go X l mX1_init (fun r σ => r = none ∧ ∃ I', σ = (zk_11_9, I') ∧ zn_at 11 I I') 44 5 90 [some (.ref 11), none] [] (zk_11_5, zk_I I 11 5) := by
    refine fw_from [] 4 22 ok_X1_init ⟨_, wc_X1_init⟩ rfl ?_
    refine And.intro (by decide) ?_
    exact fw_sub g6 (by rfl) (by rfl)
  have g4 : fw_Go X l mX1_init (fun r σ => r = none ∧ ∃ I', σ = (zk_11_9, I') ∧ zn_at 11 I I') 36 4 84 [some (.ref 11), none] [] (zk_11_4, zk_I I 11 4) := by
    refine fw_from [] 4 18 ok_X1_init ⟨_, wc_X1_init⟩ rfl ?_
    refine And.intro (by decide) ?_
    exact fw_sub g5 (by rfl) (by rfl)
  have g3 : fw_Go X l mX1_init (fun r σ => r = none ∧ ∃ I', σ = (zk_11_9, I') ∧ zn_at 11 I I') 28 3 78 [some (.ref 11), none] [] (zk_11_3, zk_I I 11 3) := by
    refine fw_from [] 4 14 ok_X1_init ⟨_, wc_X1_init⟩ rfl ?_
    refine And.intro (by decide) ?_
    exact fw_sub g4 (by rfl) (by rfl)
  have g2 : fw_Go X l mX1_init (fun r σ => r = none ∧ ∃ I', σ = (zk_11_9, I') ∧ zn_at 11 I I') 20 2 72 [some (.ref 11), none] [] (zk_11_2, zk_I I 11 2) := by
    refine fw_from [] 4 10 ok_X1_init ⟨_, wc_X1_init⟩ rfl ?_
    refine And.intro (by decide) ?_
    exact fw_sub g3 (by rfl) (by rfl)
  have g1 : fw_Go X l mX1_init (fun r σ => r = none ∧ ∃ I', σ = (zk_11_9, I') ∧ zn_at 11 I I') 12 1 36 [some (.ref 11), none] [] (zk_11_1, zk_I I 11 1) := by
    refine fw_from [] 4 6 ok_X1_init ⟨_, wc_X1_init⟩ rfl ?_
    refine And.intro (by decide) ?_
    exact fw_sub g2 (by rfl) (by rfl)
  have g0 : fw_Go X l mX1_init (fun r σ => r = none ∧ ∃ I', σ = (zk_11_9, I') ∧ zn_at 11 I I') 4 0 0 [some (.ref 11), none] [] (zk_11_0, zk_I I 11 0) := by
    refine fw_from [] 4 2 ok_X1_init ⟨_, wc_X1_init⟩ rfl ?_
    refine And.intro (by decide) ?_
    exact fw_sub g1 (by rfl) (by rfl)
  refine fw_enter [4] 100 ok_X1_init ⟨_, wc_X1_init⟩ rfl rfl rfl ?_
  exact fw_sub g0 (by rfl) rfl
def zk_21_0 : fw_Sh := [(3, 0, [some (some 1), some (some 11), some none, none, some none, some none, some none, none, some none]), (0, 0, [some (some 2), some (some 3), some (some 4), some (some 5), some (some 6), some (some 7), some (some 8), some (some 9), some (some 10), none, none]), (10, 36, []), (10, 36, []), (10, 6, []), (10, 6, []), (10, 6, []), (10, 6, []), (10, 6, []), (11, 6, []), (10, 6, []), (0, 0, [some (some 12), some (some 13), some (some 14), some (some 15), some (some 16), some (some 17), some (some 18), some (some 19), some (some 20), none, none]), (10, 36, []), (10, 36, []), (10, 6, []), (10, 6, []), (10, 6, []), (10, 6, []), (10, 6, []), (11, 6, []), (10, 6, []), (0, 0, [some none, some none, some none, some none, some none, some none, some none, some none, some none, none, none])]
def zk_21_1 : fw_Sh := [(3, 0, [some (some 1), some (some 11), some none, none, some none, some none, some none, none, some none]), (0, 0, [some (some 2), some (some 3), some (some 4), some (some 5), some (some 6), some (some 7), some (some 8), some (some 9), some (some 10), none, none]), (10, 36, []), (10, 36, []), (10, 6, []), (10, 6, []), (10, 6, []), (10, 6, []), (10, 6, []), (11, 6, []), (10, 6, []), (0, 0, [some (some 12), some (some 13), some (some 14), some (some 15), some (some 16), some (some 17), some (some 18), some (some 19), some (some 20), none, none]), (10, 36, []), (10, 36, []), (10, 6, []), (10, 6, []), (10, 6, []), (10, 6, []), (10, 6, []), (11, 6, []), (10, 6, []), (0, 0, [some (some 22), some none, some none, some none, some none, some none, some none, some none, some none, none, none]), (10, 36, [])]
def zk_21_2 : fw_Sh := [(3, 0, [some (some 1), some (some 11), some none, none, some none, some none, some none, none, some none]), (0, 0, [some (some 2), some (some 3), some (some 4), some (some 5), some (some 6), some (some 7), some (some 8), some (some 9), some (some 10), none, none]), (10, 36, []), (10, 36, []), (10, 6, []), (10, 6, []), (10, 6, []), (10, 6, []), (10, 6, []), (11, 6, []), (10, 6, []), (0, 0, [some (some 12), some (some 13), some (some 14), some (some 15), some (some 16), some (some 17), some (some 18), some (some 19), some (some 20), none, none]), (10, 36, []), (10, 36, []), (10, 6, []), (10, 6, []), (10, 6, []), (10, 6, []), (10, 6, []), (11, 6, []), (10, 6, []), (0, 0, [some (some 22), some (some 23), some none, some none, some none, some none, some none, some none, some none, none, none]), (10, 36, []), (10, 36, [])]
def zk_21_3 : fw_Sh := [(3, 0, [some (some 1), some (some 11), some none, none, some none, some none, some none, none, some none]), (0, 0, [some (some 2), some (some 3), some (some 4), some (some 5), some (some 6), some (some 7), some (some 8), some (some 9), some (some 10), none, none]), (10, 36, []), (10, 36, []), (10, 6, []), (10, 6, []), (10, 6, []), (10, 6, []), (10, 6, []), (11, 6, []), (10, 6, []), (0, 0, [some (some 12), some (some 13), some (some 14), some (some 15), some (some 16), some (some 17), some (some 18), some (some 19), some (some 20), none, none]), (10, 36, []), (10, 36, []), (10, 6, []), (10, 6, []), (10, 6, []), (10, 6, []), (10, 6, []), (11, 6, []), (10, 6, []), (0, 0, [some (some 22), some (some 23), some (some 24), some none, some none, some none, some none, some none, some none, none, none]), (10, 36, []), (10, 36, []), (10, 6, [])]
def zk_21_4 : fw_Sh := [(3, 0, [some (some 1), some (some 11), some none, none, some none, some none, some none, none, some none]), (0, 0, [some (some 2), some (some 3), some (some 4), some (some 5), some (some 6), some (some 7), some (some 8), some (some 9), some (some 10), none, none]), (10, 36, []), (10, 36, []), (10, 6, []), (10, 6, []), (10, 6, []), (10, 6, []), (10, 6, []), (11, 6, []), (10, 6, []), (0, 0, [some (some 12), some (some 13), some (some 14), some (some 15), some (some 16), some (some 17), some (some 18), some (some 19), some (some 20), none, none]), (10, 36, []), (10, 36, []), (10, 6, []), (10, 6, []), (10, 6, []), (10, 6, []), (10, 6, []), (11, 6, []), (10, 6, []), (0, 0, [some (some 22), some (some 23), some (some 24), some (some 25), some none, some none, some none, some none, some none, none, none]), (10, 36, []), (10, 36, []), (10, 6, []), (10, 6, [])]
def zk_21_5 : fw_Sh := [(3, 0, [some (some 1), some (some 11), some none, none, some none, some none, some none, none, some none]), (0, 0, [some (some 2), some (some 3), some (some 4), some (some 5), some (some 6), some (some 7), some (some 8), some (some 9), some (some 10), none, none]), (10, 36, []), (10, 36, []), (10, 6, []), (10, 6, []), (10, 6, []), (10, 6, []), (10, 6, []), (11, 6, []), (10, 6, []), (0, 0, [some (some 12), some (some 13), some (some 14), some (some 15), some (some 16), some (some 17), some (some 18), some (some 19), some (some 20), none, none]), (10, 36, []), (10, 36, []), (10, 6, []), (10, 6, []), (10, 6, []), (10, 6, []), (10, 6, []), (11, 6, []), (10, 6, []), (0, 0, [some (some 22), some (some 23), some (some 24), some (some 25), some (some 26), some none, some none, some none, some none, none, none]), (10, 36, []), (10, 36, []), (10, 6, []), (10, 6, []), (10, 6, [])]
def zk_21_6 : fw_Sh := [(3, 0, [some (some 1), some (some 11), some none, none, some none, some none, some none, none, some none]), (0, 0, [some (some 2), some (some 3), some (some 4), some (some 5), some (some 6), some (some 7), some (some 8), some (some 9), some (some 10), none, none]), (10, 36, []), (10, 36, []), (10, 6, []), (10, 6, []), (10, 6, []), (10, 6, []), (10, 6, []), (11, 6, []), (10, 6, []), (0, 0, [some (some 12), some (some 13), some (some 14), some (some 15), some (some 16), some (some 17), some (some 18), some (some 19), some (some 20), none, none]), (10, 36, []), (10, 36, []), (10, 6, []), (10, 6, []), (10, 6, []), (10, 6, []), (10, 6, []), (11, 6, []), (10, 6, []), (0, 0, [some (some 22), some (some 23), some (some 24), some (some 25), some (some 26), some (some 27), some none, some none, some none, none, none]), (10, 36, []), (10, 36, []), (10, 6, []), (10, 6, []), (10, 6, []), (10, 6, [])]
def zk_21_7 : fw_Sh := [(3, 0, [some (some 1), some (some 11), some none, none, some none, some none, some none, none, some none]), (0, 0, [some (some 2), some (some 3), some (some 4), some (some 5), some (some 6), some (some 7), some (some 8), some (some 9), some (some 10), none, none]), (10, 36, []), (10, 36, []), (10, 6, []), (10, 6, []), (10, 6, []), (10, 6, []), (10, 6, []), (11, 6, []), (10, 6, []), (0, 0, [some (some 12), some (some 13), some (some 14), some (some 15), some (some 16), some (some 17), some (some 18), some (some 19), some (some 20), none, none]), (10, 36, []), (10, 36, []), (10, 6, []), (10, 6, []), (10, 6, []), (10, 6, []), (10, 6, []), (11, 6, []), (10, 6, []), (0, 0, [some (some 22), some (some 23), some (some 24), some (some 25), some (some 26), some (some 27), some (some 28), some none, some none, none, none]), (10, 36, []), (10, 36, []), (10, 6, []), (10, 6, []), (10, 6, []), (10, 6, []), (10, 6, [])]
def zk_21_8 : fw_Sh := [(3, 0, [some (some 1), some (some 11), some none, none, some none, some none, some none, none, some none]), (0, 0, [some (some 2), some (some 3), some (some 4), some (some 5), some (some 6), some (some 7), some (some 8), some (some 9), some (some 10), none, none]), (10, 36, []), (10, 36, []), (10, 6, []), (10, 6, []), (10, 6, []), (10, 6, []), (10, 6, []), (11, 6, []), (10, 6, []), (0, 0, [some (some 12), some (some 13), some (some 14), some (some 15), some (some 16), some (some 17), some (some 18), some (some 19), some (some 20), none, none]), (10, 36, []), (10, 36, []), (10, 6, []), (10, 6, []), (10, 6, []), (10, 6, []), (10, 6, []), (11, 6, []), (10, 6, []), (0, 0, [some (some 22), some (some 23), some (some 24), some (some 25), some (some 26), some (some 27), some (some 28), some (some 29), some none, none, none]), (10, 36, []), (10, 36, []), (10, 6, []), (10, 6, []), (10, 6, []), (10, 6, []), (10, 6, []), (11, 6, [])]
def zk_21_9 : fw_Sh := [(3, 0, [some (some 1), some (some 11), some none, none, some none, some none, some none, none, some none]), (0, 0, [some (some 2), some (some 3), some (some 4), some (some 5), some (some 6), some (some 7), some (some 8), some (some 9), some (some 10), none, none]), (10, 36, []), (10, 36, []), (10, 6, []), (10, 6, []), (10, 6, []), (10, 6, []), (10, 6, []), (11, 6, []), (10, 6, []), (0, 0, [some (some 12), some (some 13), some (some 14), some (some 15), some (some 16), some (some 17), some (some 18), some (some 19), some (some 20), none, none]), (10, 36, []), (10, 36, []), (10, 6, []), (10, 6, []), (10, 6, []), (10, 6, []), (10, 6, []), (11, 6, []), (10, 6, []), (0, 0, [some (some 22), some (some 23), some (some 24), some (some 25), some (some 26), some (some 27), some (some 28), some (some 29), some (some 30), none, none]), (10, 36, []), (10, 36, []), (10, 6, []), (10, 6, []), (10, 6, []), (10, 6, []), (10, 6, []), (11, 6, []), (10, 6, [])]
theorem ct_init21 : fw_Sem X l mX1_init [.ref 21] (zk_21_0, I) (fun r σ => r = none ∧ ∃ I', σ = (zk_21_9, I') ∧ zn_at 21 I I') := by
  have loop := zl_down (N := 36) (G := fun y => ∀ I', (∀ c, c ≤ 21 → I' c = I c) → (∀ y, y < 36 → I' (21 + 1) y = 0) → (∀ j, j < y → I' (21 + 2) j = -1) → (∀ c, 21 + 3 ≤ c → c ≤ 21 + 9 → ∀ j, I' c j = 0) → fw_Go X l mX1_init (fun r σ => r = none ∧ ∃ I', σ = (zk_21_9, I') ∧ zn_at 21 I I') 78 9 114 [some (.ref 21), some (.int (nI y))] [] (zk_21_9, I')) (by
    intro I' h1 h2 h3 h4
    refine fw_from [78] 100 40 ok_X1_init ⟨_, wc_X1_init⟩ rfl ?_
    refine zq_le 36 36 rfl rfl (fun _ => ?_) (fun h => absurd h (by omega))
    exact ⟨rfl, I', rfl, h1, h2, h3, h4⟩) (fun y hy ih => by
    intro I' h1 h2 h3 h4
    refine fw_from [78] 100 40 ok_X1_init ⟨_, wc_X1_init⟩ rfl ?_
    refine zq_le 36 y rfl rfl (fun h => absurd h (by omega)) (fun _ => ?_)
    refine And.intro (fw_in1 y 36 hy) ?_
    refine fw_sub (ih (fw_up I' (21 + 2) y (-1)) (fun c hc => by rw [fw_up_ne c (by omega)]; exact h1 c hc) (fun z hz => by rw [fw_up_ne _ (by omega)]; exact h2 z hz) (fun j hj => ?_) (fun c c1 c2 j => by rw [fw_up_ne c (by omega)]; exact h4 c c1 c2 j)) (by simp only [nI_1]) (by rw [nI_clamp (by omega)])
    by_cases e : j = y
    · subst e; rw [fw_up_at]
    · rw [fw_up_k e]; exact h3 j (by omega))
  have g9 : fw_Go X l mX1_init (fun r σ => r = none ∧ ∃ I', σ = (zk_21_9, I') ∧ zn_at 21 I I') 76 9 114 [some (.ref 21), none] [] (zk_21_9, zk_I I 21 9) := by
    refine fw_from [78] 100 38 ok_X1_init ⟨_, wc_X1_init⟩ rfl ?_
    exact fw_sub (loop 0 (by omega) (zk_I I 21 9) (fun c hc => zk_I_lo hc 9) (fun y _ => zk_I_hi (by omega) 9 (by omega)) (fun j hj => absurd hj (by omega)) (fun c c1 c2 j => zk_I_hi (by omega) 9 (by omega))) (by rfl) rfl
  have g8 : fw_Go X l mX1_init (fun r σ => r = none ∧ ∃ I', σ = (zk_21_9, I') ∧ zn_at 21 I I') 68 8 108 [some (.ref 21), none] [] (zk_21_8, zk_I I 21 8) := by
    refine fw_from [] 4 34 ok_X1_init ⟨_, wc_X1_init⟩ rfl ?_
    refine And.intro (by decide) ?_
    exact fw_sub g9 (by rfl) (by rfl)
  have g7 : fw_Go X l mX1_init (fun r σ => r = none ∧ ∃ I', σ = (zk_21_9, I') ∧ zn_at 21 I I') 60 7 102 [some (.ref 21), none] [] (zk_21_7, zk_I I 21 7) := by
    refine fw_from [] 4 30 ok_X1_init ⟨_, wc_X1_init⟩ rfl ?_
    refine And.intro (by decide) ?_
    exact fw_sub g8 (by rfl) (by rfl)
  have g6 : fw_Go X l mX1_init (fun r σ => r = none ∧ ∃ I', σ = (zk_21_9, I') ∧ zn_at 21 I I') 52 6 96 [some (.ref 21), none] [] (zk_21_6, zk_I I 21 6) := by
    refine fw_from [] 4 26 ok_X1_init ⟨_, wc_X1_init⟩ rfl ?_
    refine And.intro (by decide) ?_
    exact fw_sub g7 (by rfl) (by rfl)
  have g5 : fw_Go X l mX1_init (fun r σ => r = none ∧ ∃ I', σ = (zk_21_9, I') ∧ zn_at 21 I I') 44 5 90 [some (.ref 21), none] [] (zk_21_5, zk_I I 21 5) := by
    refine fw_from [] 4 22 ok_X1_init ⟨_, wc_X1_init⟩ rfl ?_
    refine And.intro (by decide) ?_
    exact fw_sub g6 (by rfl) (by rfl)
  have g4 : fw_Go X l mX1_init (fun r σ => r = none ∧ ∃ I', σ = (zk_21_9, I') ∧ zn_at 21 I I') 36 4 84 [some (.ref 21), none] [] (zk_21_4, zk_I I 21 4) := by
    refine fw_from [] 4 18 ok_X1_init ⟨_, wc_X1_init⟩ rfl ?_
    refine And.intro (by decide) ?_
    exact fw_sub g5 (by rfl) (by rfl)
  have g3 : fw_Go X l mX1_init (fun r σ => r = none ∧ ∃ I', σ = (zk_21_9, I') ∧ zn_at 21 I I') 28 3 78 [some (.ref 21), none] [] (zk_21_3, zk_I I 21 3) := by
    refine fw_from [] 4 14 ok_X1_init ⟨_, wc_X1_init⟩ rfl ?_
    refine And.intro (by decide) ?_
    exact fw_sub g4 (by rfl) (by rfl)
  have g2 : fw_Go X l mX1_init (fun r σ => r = none ∧ ∃ I', σ = (zk_21_9, I') ∧ zn_at 21 I I') 20 2 72 [some (.ref 21), none] [] (zk_21_2, zk_I I 21 2) := by
    refine fw_from [] 4 10 ok_X1_init ⟨_, wc_X1_init⟩ rfl ?_
    refine And.intro (by decide) ?_
    exact fw_sub g3 (by rfl) (by rfl)
  have g1 : fw_Go X l mX1_init (fun r σ => r = none ∧ ∃ I', σ = (zk_21_9, I') ∧ zn_at 21 I I') 12 1 36 [some (.ref 21), none] [] (zk_21_1, zk_I I 21 1) := by
    refine fw_from [] 4 6 ok_X1_init ⟨_, wc_X1_init⟩ rfl ?_
    refine And.intro (by decide) ?_
    exact fw_sub g2 (by rfl) (by rfl)
  have g0 : fw_Go X l mX1_init (fun r σ => r = none ∧ ∃ I', σ = (zk_21_9, I') ∧ zn_at 21 I I') 4 0 0 [some (.ref 21), none] [] (zk_21_0, zk_I I 21 0) := by
    refine fw_from [] 4 2 ok_X1_init ⟨_, wc_X1_init⟩ rfl ?_
    refine And.intro (by decide) ?_
    exact fw_sub g1 (by rfl) (by rfl)
  refine fw_enter [4] 100 ok_X1_init ⟨_, wc_X1_init⟩ rfl rfl rfl ?_
  exact fw_sub g0 (by rfl) rfl
end zK
