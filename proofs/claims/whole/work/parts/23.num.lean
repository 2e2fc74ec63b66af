theorem fw_sub {X : Nat × (Nat → Int32)} {l : Launch} {mi : fw_MI} {Q : Option Value → fw_St → Prop} {k n pc : Nat} {lo lo' : fw_Lo} {st : List Value} {σ σ' : fw_St} (h : fw_Go X l mi Q pc k n lo st σ) (e1 : lo' = lo) (e2 : σ' = σ) : fw_Go X l mi Q pc k n lo' st σ' := by
  subst e1; subst e2; exact h
theorem fw_sub2 {X : Nat × (Nat → Int32)} {l : Launch} {mi : fw_MI} {Q : Option Value → fw_St → Prop} {k n pc : Nat} {lo lo' : fw_Lo} {st st' : List Value} {σ σ' : fw_St} (h : fw_Go X l mi Q pc k n lo st σ) (e1 : lo' = lo) (e0 : st' = st) (e2 : σ' = σ) : fw_Go X l mi Q pc k n lo' st' σ' := by
  subst e1; subst e2; subst e0; exact h
theorem fw_in1 {x : Int32} (n N : Nat) (h : n < N) (hx : x = nI n := by rfl) (hN : N < 2 ^ 31 := by omega) : fw_in x N := by
  subst hx
  refine ⟨?_, ?_⟩ <;> rw [nI_toInt (by omega)] <;> omega
theorem fw_in_of {x : Int32} {N : Nat} (h : fw_in x N) (hN : N < 2 ^ 31) : ∃ j : Nat, j < N ∧ x = nI j := by
  obtain ⟨h1, h2⟩ := h
  refine ⟨x.toInt.toNat, by omega, Int32.toInt_inj.mp ?_⟩
  rw [nI_toInt (by omega)]
  omega
/-- a sum of the first n -/
def zm_s (f : Nat → Nat) : Nat → Nat
  | 0 => 0
  | n + 1 => zm_s f n + f n
theorem zm_s_le {f : Nat → Nat} {b : Nat} (h : ∀ k, f k ≤ b) : ∀ n, zm_s f n ≤ n * b
  | 0 => by simp [zm_s]
  | n + 1 => by
    have h1 := zm_s_le h n
    have h2 := h n
    simp only [zm_s, Nat.succ_mul]
    omega
theorem zm_s_le' {f : Nat → Nat} {b : Nat} : ∀ n, (∀ k, k < n → f k ≤ b) → zm_s f n ≤ n * b
  | 0, _ => by simp [zm_s]
  | n + 1, h => by
    have h1 := zm_s_le' n (fun k hk => h k (by omega))
    have h2 := h n (by omega)
    simp only [zm_s, Nat.succ_mul]
    omega
theorem zm_s_cong {f g : Nat → Nat} : ∀ n, (∀ k, k < n → f k = g k) → zm_s f n = zm_s g n
  | 0, _ => rfl
  | n + 1, h => by simp only [zm_s]; rw [zm_s_cong n (fun k hk => h k (by omega)), h n (by omega)]
theorem zq_rd {I : Nat → Nat → Int32} {a j : Nat} {v : Int32} (h : I a j = v) (hj : j < 2 ^ 31 := by omega) : I a (nI j).toNatClampNeg = v := by rw [nI_clamp hj]; exact h
theorem zq_le {x y : Int32} {A B : Prop} (a b : Nat) (hx : x = nI a) (hy : y = nI b) (f : a ≤ b → A) (g : b < a → B) (ha : a < 2 ^ 31 := by omega) (hb : b < 2 ^ 31 := by omega) : (x ≤ y → A) ∧ (¬ x ≤ y → B) := pk_le a b f g hx hy ha hb
theorem zq_lt {x y : Int32} {A B : Prop} (a b : Nat) (hx : x = nI a) (hy : y = nI b) (f : a < b → A) (g : b ≤ a → B) (ha : a < 2 ^ 31 := by omega) (hb : b < 2 ^ 31 := by omega) : (x < y → A) ∧ (¬ x < y → B) := pk_lt a b f g hx hy ha hb
theorem zq_eq {x y : Int32} {A B : Prop} (a b : Nat) (hx : x = nI a) (hy : y = nI b) (f : a = b → A) (g : a ≠ b → B) (ha : a < 2 ^ 31 := by omega) (hb : b < 2 ^ 31 := by omega) : (x = y → A) ∧ (¬ x = y → B) := pk_eq a b f g hx hy ha hb
theorem zq_ne {x y : Int32} {A B : Prop} (a b : Nat) (hx : x = nI a) (hy : y = nI b) (f : a ≠ b → A) (g : a = b → B) (ha : a < 2 ^ 31 := by omega) (hb : b < 2 ^ 31 := by omega) : (¬ x = y → A) ∧ (x = y → B) := (pk_eq a b g f hx hy ha hb).symm
/-- a branch whose sides are known as a proposition -/
theorem zq_br {c d : Prop} {A B : Prop} (h : c ↔ d) (f : d → A) (g : ¬ d → B) : (c → A) ∧ (¬ c → B) := ⟨fun q => f (h.mp q), fun q => g (fun z => q (h.mpr z))⟩
theorem zq_brn {c d : Prop} {A B : Prop} (h : c ↔ d) (f : ¬ d → A) (g : d → B) : (¬ c → A) ∧ (c → B) := ⟨fun q => f (fun z => q (h.mpr z)), fun q => g (h.mp q)⟩
