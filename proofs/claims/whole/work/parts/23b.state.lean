def zi (b : Bool) : Int32 := match b with
  | true => 1
  | false => 0
theorem zi_bool (b : Bool) : fw_bool (zi b) := by cases b <;> simp [zi, fw_bool]
theorem zi_nar (b : Bool) : narrow .boolean (.int (zi b)) = .int (zi b) := by cases b <;> decide +kernel
theorem zi_eq0 (b : Bool) : zi b = 0 ↔ b = false := by cases b <;> decide
theorem zi_of (c : Prop) [Decidable c] : zi (decide c) = if c then 1 else 0 := by by_cases h : c <;> simp [zi, h]
def zb_in (x : Int32) (n : Nat) : Bool := decide (0 ≤ x.toInt) && decide (x.toInt < (n : Int))
theorem zb_in_iff {x : Int32} {n : Nat} : zb_in x n = true ↔ fw_in x n := by simp [zb_in, fw_in]
theorem zb_in_of {x : Int32} {n : Nat} (h : zb_in x n = true) (hn : n < 2 ^ 31 := by omega) : ∃ j : Nat, j < n ∧ x = nI j := fw_in_of (zb_in_iff.mp h) hn
theorem zb_in_nI {j n : Nat} (hj : j < 2 ^ 31) : zb_in (nI j) n = decide (j < n) := by
  unfold zb_in
  rw [nI_toInt hj]
  by_cases h : j < n <;> simp [h] <;> omega
theorem zt_lt (x y : Int32) : x < y ↔ x.toInt < y.toInt := Int32.lt_iff_toInt_lt
theorem zt_le (x y : Int32) : x ≤ y ↔ x.toInt ≤ y.toInt := Int32.le_iff_toInt_le
theorem zt_eq (x y : Int32) : x = y ↔ x.toInt = y.toInt := Int32.toInt_inj.symm
theorem zt_lt0 (x : Int32) : x < 0 ↔ x.toInt < 0 := Int32.lt_iff_toInt_lt
theorem zt_ge0 (x : Int32) : 0 ≤ x ↔ 0 ≤ x.toInt := Int32.le_iff_toInt_le
theorem zt_nI {n : Nat} (h : n < 2 ^ 31) : (nI n).toInt = (n : Int) := nI_toInt h
/-- a method that leaves the memory as it is, and its answer -/
abbrev zs_p (X : Nat × (Nat → Int32)) (l : Launch) (m : fw_MI) (av : List Value) (I : Nat → Nat → Int32) (v : Int32) : Prop := fw_Sem X l m av (fw_sh, I) (fun r σ => r = some (.int v) ∧ σ = (fw_sh, I))
-- the first of n
def zl_f (f : Nat → Bool) : Nat → Nat
  | 0 => 0
  | n + 1 => if zl_f f n < n then zl_f f n else if f n then n else n + 1
theorem zl_f_sp (f : Nat → Bool) : ∀ n, zl_f f n ≤ n ∧ (∀ k, k < zl_f f n → f k = false) ∧ (zl_f f n < n → f (zl_f f n) = true)
  | 0 => ⟨Nat.le_refl _, fun k h => absurd h (Nat.not_lt_zero k), fun h => absurd h (Nat.lt_irrefl _)⟩
  | n + 1 => by
    obtain ⟨h1, h2, h3⟩ := zl_f_sp f n
    simp only [zl_f]
    split
    · rename_i h
      exact ⟨by omega, h2, fun _ => h3 h⟩
    · rename_i h
      have e : zl_f f n = n := by omega
      split
      · rename_i hn
        exact ⟨by omega, fun k hk => h2 k (by omega), fun _ => hn⟩
      · rename_i hn
        refine ⟨by omega, fun k hk => ?_, fun h => by omega⟩
        by_cases hk2 : k = n
        · subst hk2; simpa using hn
        · exact h2 k (by omega)
theorem zl_f_eq {f : Nat → Bool} {n k : Nat} (hk : k ≤ n) (h1 : ∀ j, j < k → f j = false) (h2 : k < n → f k = true) : zl_f f n = k := by
  obtain ⟨g1, g2, g3⟩ := zl_f_sp f n
  rcases Nat.lt_trichotomy (zl_f f n) k with h | h | h
  · have := h1 _ h
    rw [g3 (by omega)] at this
    cases this
  · exact h
  · have := g2 k h
    rw [h2 (by omega)] at this
    cases this
-- the land: 0 grown by yard, 2 kind, 3 figure, 4 first, 5 high, 6 wide, 7 rolled by piece, 9 how many pieces, 10 the day
def zl_cov (L : Nat → Nat → Nat) (p y : Nat) : Bool := decide (L 4 p / 6 ≤ y / 6 ∧ y / 6 < L 4 p / 6 + L 5 p ∧ L 4 p % 6 ≤ y % 6 ∧ y % 6 < L 4 p % 6 + L 6 p)
/-- which piece a yard is of, one left out; the count of pieces if none -/
def zl_ow (L : Nat → Nat → Nat) (w y : Nat) : Nat := zl_f (fun p => !(p == w) && zl_cov L p y) (L 9 0)
def zo_I (P v : Nat) : Int32 := if v < P then nI v else -1
def zl_gr (k f d : Nat) : Nat :=
  if k = 1 then (if d % 3 = 0 then 1 else 0) + (if d % 2 = 0 then 1 else 0)
  else if k = 2 then (if d % 3 = 0 then 1 else 0) + (if d % 2 = 0 then 1 else 0) + f / 4
  else if k = 3 then ((if d % 3 = 0 then 1 else 0) + (if d % 2 = 0 then 1 else 0) + f / 4 + 1) / 2
  else if k = 4 then (if d % 3 = 0 then 1 else 0) + (if d % 7 = 0 then f / 3 else 0)
  else if k = 5 then 0
  else if d % 3 = 0 then 1 else 0
def zl_wf (L : Nat → Nat → Nat) : Prop := L 9 0 ≤ 6 ∧ L 10 0 ≤ 5000 ∧ (∀ y, y < 36 → L 0 y ≤ 9) ∧ ∀ p, p < L 9 0 → L 2 p ≤ 5 ∧ L 3 p ≤ 9 ∧ L 4 p < 36 ∧ 1 ≤ L 5 p ∧ 1 ≤ L 6 p ∧ L 4 p / 6 + L 5 p ≤ 6 ∧ L 4 p % 6 + L 6 p ≤ 6 ∧ L 7 p ≤ 1
/-- Land d holds L, its yards' owners are ow -/
def zl_at (d : Nat) (L : Nat → Nat → Nat) (ow : Nat → Nat) (I : Nat → Nat → Int32) : Prop :=
  (d = 1 ∨ d = 11 ∨ d = 21) ∧ zl_wf L ∧ (∀ y, y < 36 → I (d + 1) y = nI (L 0 y)) ∧ (∀ y, y < 36 → I (d + 2) y = zo_I (L 9 0) (ow y)) ∧ (∀ k, 2 ≤ k → k ≤ 7 → ∀ p, p < L 9 0 → I (d + 1 + k) p = nI (L k p)) ∧ I d 9 = nI (L 9 0) ∧ I d 10 = nI (L 10 0) ∧ ∀ p, p < 6 → fw_bool (I (d + 8) p)
theorem zo_none {P v : Nat} (h : ¬ v < P) : zo_I P v = -1 := by simp [zo_I, h]
theorem zo_some {P v : Nat} (h : v < P) : zo_I P v = nI v := by simp [zo_I, h]
theorem nI_m1 {n : Nat} (h : n < 2 ^ 31) : ¬ nI n = -1 := fun z => by
  have := congrArg Int32.toInt z
  rw [nI_toInt h] at this
  have e : (-1 : Int32).toInt = -1 := rfl
  omega
theorem zo_eq1 {P v : Nat} (hP : P ≤ 6) : zo_I P v = -1 ↔ ¬ v < P := by
  by_cases h : v < P
  · simp only [zo_some h, h, not_true, iff_false]; exact nI_m1 (by omega)
  · simp [zo_none h, h]
theorem zo_eqn {P v p : Nat} (hP : P ≤ 6) (hp : p < P) : zo_I P v = nI p ↔ v = p := by
  by_cases h : v < P
  · rw [zo_some h, nI_eq (by omega) (by omega)]
  · rw [zo_none h]
    constructor
    · intro z; exact absurd z.symm (nI_m1 (by omega))
    · intro z; omega
theorem zl_gr_le {k f d : Nat} (hf : f ≤ 9) : zl_gr k f d ≤ 4 := by
  unfold zl_gr
  repeat' split
  all_goals omega
theorem zi_pos {c : Prop} [Decidable c] (h : c) : zi (decide c) = 1 := by simp [zi, h]
theorem zi_neg {c : Prop} [Decidable c] (h : ¬ c) : zi (decide c) = 0 := by simp [zi, h]
theorem zr_1 {c : Prop} [Decidable c] (h : c) : some (Value.int 1) = some (Value.int (zi (decide c))) := by rw [zi_pos h]
theorem zr_0 {c : Prop} [Decidable c] (h : ¬ c) : some (Value.int 0) = some (Value.int (zi (decide c))) := by rw [zi_neg h]
theorem zr_e {v w : Int32} (h : v = w) : some (Value.int v) = some (Value.int w) := by rw [h]
/-- rows that stay -/
def zf_fr (cs : List Nat) (I I' : Nat → Nat → Int32) : Prop := ∀ c, c ∉ cs → I' c = I c
theorem zf_fr.rf {cs : List Nat} {I : Nat → Nat → Int32} : zf_fr cs I I := fun _ _ => rfl
theorem zf_fr.up {cs : List Nat} {I I' : Nat → Nat → Int32} {o k : Nat} {x : Int32} (h : zf_fr cs I I') (ho : o ∈ cs) : zf_fr cs I (fw_up I' o k x) := fun c hc => by
  rw [fw_up_ne c (fun z => hc (z ▸ ho))]; exact h c hc
theorem zf_fr.tr {cs : List Nat} {I I' I'' : Nat → Nat → Int32} (h : zf_fr cs I I') (h2 : zf_fr cs I' I'') : zf_fr cs I I'' := fun c hc => (h2 c hc).trans (h c hc)
theorem zf_fr.mono {cs cs' : List Nat} {I I' : Nat → Nat → Int32} (h : zf_fr cs I I') (hs : ∀ c, c ∈ cs → c ∈ cs') : zf_fr cs' I I' := fun c hc => h c (fun z => hc (hs c z))
theorem fw_up_at {I : Nat → Nat → Int32} {o k : Nat} {x : Int32} : fw_up I o k x o k = x := by simp [fw_up]
theorem fw_up_k {I : Nat → Nat → Int32} {o k j : Nat} {x : Int32} (h : j ≠ k) : fw_up I o k x o j = I o j := by simp [fw_up, h]
