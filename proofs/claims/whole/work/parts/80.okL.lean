/-! The law's code against the tables, a stretch at a time. -/
def fw_oki (mi : fw_MI) (i : Nat) : Bool := match fw_nth (fw_cd mi) i with
  | some e => fw_ok1 mi (fw_pc (fw_cd mi) (i + 1)) e
  | none => true
def fw_okr (mi : fw_MI) (a : Nat) : Nat → Bool
  | 0 => true
  | n + 1 => fw_okr mi a n && fw_oki mi (a + n)
theorem fw_okr_at {mi : fw_MI} {a : Nat} : ∀ n, fw_okr mi a n = true → ∀ i, a ≤ i → i < a + n → fw_oki mi i = true
  | 0, _, i, h1, h2 => absurd h2 (by omega)
  | n + 1, h, i, h1, h2 => by
    simp only [fw_okr, Bool.and_eq_true] at h
    by_cases e : i = a + n
    · rw [e]; exact h.2
    · exact fw_okr_at n h.1 i h1 (by omega)
theorem fw_okc_of {mi : fw_MI} : ∀ cd : List fw_En, (∀ i e, fw_nth cd i = some e → fw_ok1 mi (fw_pc cd (i + 1)) e = true) → fw_okc mi cd = true
  | [], _ => rfl
  | e :: r, h => by
    have h0 := h 0 e rfl
    have h1 := fw_okc_of (mi := mi) r (fun i e' he => h (i + 1) e' he)
    simp only [fw_okc, Bool.and_eq_true]
    refine ⟨?_, h1⟩
    cases r with
    | nil => exact h0
    | cons e' r' => exact h0
theorem okL_0 : fw_okr mL_law 0 20 = true := by decide +kernel
theorem okL_1 : fw_okr mL_law 20 30 = true := by decide +kernel
theorem okL_2 : fw_okr mL_law 50 48 = true := by decide +kernel
theorem okL_3 : fw_okr mL_law 98 48 = true := by decide +kernel
