/-! The reference: its memory, and its small methods. -/
def z9_o (P v : Nat) : Int32 := if v < P then nI v else -9
theorem z9_none {P v : Nat} (h : ¬ v < P) : z9_o P v = -9 := by simp [z9_o, h]
theorem z9_some {P v : Nat} (h : v < P) : z9_o P v = nI v := by simp [z9_o, h]
theorem nI_m9 {n : Nat} (h : n < 2 ^ 31) : ¬ nI n = -9 := fun z => by
  have := congrArg Int32.toInt z
  rw [nI_toInt h] at this
  have e : (-9 : Int32).toInt = -9 := rfl
  omega
theorem z9_eqn {P v p : Nat} (hP : P ≤ 6) (hp : p < P) : z9_o P v = nI p ↔ v = p := by
  by_cases h : v < P
  · rw [z9_some h, nI_eq (by omega) (by omega)]
  · rw [z9_none h]
    constructor
    · intro z; exact absurd z.symm (nI_m9 (by omega))
    · intro z; omega
theorem z9_neg {P v : Nat} (hP : P < 2 ^ 31) : z9_o P v < 0 ↔ ¬ v < P := by
  by_cases h : v < P
  · rw [z9_some h, zt_lt0, nI_toInt (by omega)]; omega
  · rw [z9_none h]; exact ⟨fun _ => h, fun _ => by decide⟩
/-- the reference's land holds L; w is not there in thought -/
def zm_l (w : Nat) (L : Nat → Nat → Nat) (I : Nat → Nat → Int32) : Prop :=
  zl_wf L ∧ (∀ y, y < 36 → I 40 y = nI (L 0 y)) ∧ (∀ k, 2 ≤ k → k ≤ 6 → ∀ p, p < L 9 0 → I (39 + k) p = nI (L k p)) ∧ I 38 7 = nI (L 9 0) ∧ I 38 8 = nI (zl_rb L (L 9 0)) ∧ I 38 9 = nI (L 10 0) ∧ I 38 10 = z9_o 6 w
theorem zb_shr : ∀ m, m < 256 → ∀ k, k < 31 → ((nI m >>> (nI k &&& 31)) &&& 1 = nI (m / 2 ^ k % 2)) := by decide +kernel
theorem zb_rb1 {L : Nat → Nat → Nat} {p : Nat} (hP : L 9 0 ≤ 6) (hp : p < L 9 0) (h7 : L 7 p ≤ 1) : zl_rb L (L 9 0) / 2 ^ p % 2 = L 7 p := by
  have h := zb_rb_bt L (L 9 0) p hP (by omega)
  unfold zb_bt at h
  rw [h]
  by_cases e : L 7 p = 0
  · rw [if_neg (fun z => z.2 e), e]
  · rw [if_pos ⟨hp, e⟩]; omega
theorem zl_rb64 {L : Nat → Nat → Nat} (hP : L 9 0 ≤ 6) : zl_rb L (L 9 0) < 64 := by
  have h1 := zl_rb_lt L (L 9 0)
  have h2 : 2 ^ L 9 0 ≤ 2 ^ 6 := Nat.pow_le_pow_right (by omega) hP
  omega
section zR
variable {X : Nat × (Nat → Int32)} {l : Launch} {I : Nat → Nat → Int32} {w : Nat} {L : Nat → Nat → Nat}
theorem rt_isYard (y : Int32) : zs_p X l mX6_isYard [.int y] I (zi (zb_in y 36)) := by
  refine fw_enter [] 100 ok_X6_isYard ⟨_, wc_X6_isYard⟩ rfl rfl rfl ?_
  refine zq_br (zt_lt0 y) (fun h => ?_) (fun h => ?_)
  · exact ⟨by decide, by simp [zb_in, zi, show ¬ (0 ≤ y.toInt) by omega], rfl⟩
  · refine zq_br (zt_le 36 y) (fun h2 => ?_) (fun h2 => ?_)
    · have e : (36 : Int32).toInt = 36 := rfl
      exact ⟨by decide, by simp [zb_in, zi, show ¬ (y.toInt < 36) by omega], rfl⟩
    · have e : (36 : Int32).toInt = 36 := rfl
      exact ⟨by decide, by simp [zb_in, zi, show (y.toInt < 36) by omega, show 0 ≤ y.toInt by omega], rfl⟩
theorem rt_isIn (x a b : Int32) : zs_p X l mX6_isIn [.int x, .int a, .int b] I (zi (decide (a.toInt ≤ x.toInt ∧ x.toInt ≤ b.toInt))) := by
  refine fw_enter [] 100 ok_X6_isIn ⟨_, wc_X6_isIn⟩ rfl rfl rfl ?_
  refine zq_br (zt_lt x a) (fun h => ?_) (fun h => ?_)
  · exact ⟨by decide, zr_0 (by omega), rfl⟩
  · refine zq_br (zt_lt b x) (fun h2 => ?_) (fun h2 => ?_)
    · exact ⟨by decide, zr_0 (by omega), rfl⟩
    · exact ⟨by decide, zr_1 (by omega), rfl⟩
theorem rt_bound (x : Int32) (a b : Nat) (ha : a < 2 ^ 31 := by omega) (hb : b < 2 ^ 31 := by omega) : zs_p X l mX6_bound [.int x, .int (nI a), .int (nI b)] I (zn_g (zk_out x a b)) := by
  have ea := nI_toInt ha
  have eb := nI_toInt hb
  refine fw_enter [] 100 ok_X6_bound ⟨_, wc_X6_bound⟩ rfl rfl rfl ?_
  refine zq_br (zt_le (nI a) x) (fun h => ?_) (fun h => ?_)
  · refine zq_br (zt_le x (nI b)) (fun h2 => ?_) (fun h2 => ?_)
    · exact ⟨by simp [zk_out, show ¬ x.toInt < (a : Int) by omega, show ¬ (b : Int) < x.toInt by omega]; rfl, rfl⟩
    · exact ⟨by simp [zk_out, show ¬ x.toInt < (a : Int) by omega, show (b : Int) < x.toInt by omega]; rfl, rfl⟩
  · exact ⟨by simp [zk_out, show x.toInt < (a : Int) by omega]; rfl, rfl⟩
theorem rt_oth (x : Int32) (b : Nat) (hb : b < 2 ^ 31 := by omega) : zs_p X l mX6_isIn [.int x, .int 0, .int (nI b)] I (zi (decide (zk_oth x b = 0))) := by
  have h := rt_isIn (X := X) (l := l) (I := I) x 0 (nI b)
  rw [nI_toInt hb, show (0 : Int32).toInt = 0 from rfl] at h
  have e : (decide (0 ≤ x.toInt ∧ x.toInt ≤ (b : Int))) = decide (zk_oth x b = 0) := by
    unfold zk_oth
    by_cases h1 : 0 ≤ x.toInt ∧ x.toInt ≤ (b : Int)
    · rw [if_neg (by omega)]; simp [h1]
    · rw [if_pos (by omega)]; simp; omega
  rw [e] at h
  exact h
theorem rt_has {m k : Nat} (hm : m < 256) (hk : k < 31) : zs_p X l mX6_has [.int (nI m), .int (nI k)] I (zi (decide (m / 2 ^ k % 2 = 1))) := by
  have e := zb_shr m hm k hk
  refine fw_enter [] 100 ok_X6_has ⟨_, wc_X6_has⟩ rfl rfl rfl ?_
  have hlt : m / 2 ^ k % 2 < 2 := Nat.mod_lt _ (by omega)
  refine zq_ne (m / 2 ^ k % 2) 1 e rfl (fun h => ?_) (fun h => ?_)
  · exact ⟨by decide, zr_0 h, rfl⟩
  · exact ⟨by decide, zr_1 h, rfl⟩
theorem rt_rolled (h : zm_l w L I) {p : Nat} (hp : p < L 9 0) : zs_p X l mX6_has [.int (I 38 8), .int (nI p)] I (zi (decide (L 7 p = 1))) := by
  have hP := h.1.1
  have hw := h.1.2.2.2 p hp
  have h64 := zl_rb64 hP
  have c := rt_has (X := X) (l := l) (I := I) (m := zl_rb L (L 9 0)) (k := p) (by omega) (by omega)
  rw [zb_rb1 hP hp hw.2.2.2.2.2.2.2, ← h.2.2.2.2.1] at c
  exact c
def zb_p31 (v : Nat) : Nat := zm_s (fun k => v / 2 ^ k % 2) 31
theorem rt_bits {v : Nat} (hv : v < 256) : zs_p X l mX6_bits [.int (nI v)] I (nI (zb_p31 v)) := by
  have loop := zl_down (N := 31) (G := fun k => fw_Go X l mX6_bits (fun r σ => r = some (.int (nI (zb_p31 v))) ∧ σ = (fw_sh, I)) 4 0 0 [some (.int (nI v)), some (.int (nI (zm_s (fun k => v / 2 ^ k % 2) k))), some (.int (nI k))] [] (fw_sh, I)) (by
    refine fw_from [4] 100 4 ok_X6_bits ⟨_, wc_X6_bits⟩ rfl ?_
    refine zq_le 31 31 rfl rfl (fun _ => ?_) (fun h => absurd h (by omega))
    exact ⟨rfl, rfl⟩) (fun k hk ih => by
    refine fw_from [4] 100 4 ok_X6_bits ⟨_, wc_X6_bits⟩ rfl ?_
    refine zq_le 31 k rfl rfl (fun h => absurd h (by omega)) (fun _ => ?_)
    exact fw_sub ih (by rw [zb_shr v hv k hk]; simp only [zm_s, nI_1, nI_add]) rfl)
  refine fw_enter [4] 100 ok_X6_bits ⟨_, wc_X6_bits⟩ rfl rfl rfl ?_
  exact fw_sub (loop 0 (by omega)) (by rfl) rfl
theorem rt_isPiece (h : zm_l w L I) (p : Int32) : zs_p X l mX6_isPiece [.ref 38, .int p] I (zi (zb_in p (L 9 0))) := by
  have hP : (nI (L 9 0)).toInt = (L 9 0 : Int) := nI_toInt (by have := h.1.1; omega)
  have h3 := h.2.2.2.1
  refine fw_enter [] 100 ok_X6_isPiece ⟨_, wc_X6_isPiece⟩ rfl rfl rfl ?_
  refine zq_br (zt_lt0 p) (fun g => ?_) (fun g => ?_)
  · exact ⟨by decide, by simp [zb_in, zi, show ¬ (0 ≤ p.toInt) by omega], rfl⟩
  · refine zq_br (c := I 38 7 ≤ p) (d := (L 9 0 : Int) ≤ p.toInt) ?_ (fun g2 => ?_) (fun g2 => ?_)
    · rw [h3, zt_le, hP]
    · exact ⟨by decide, by simp [zb_in, zi, show ¬ (p.toInt < (L 9 0 : Int)) by omega], rfl⟩
    · exact ⟨by decide, by simp [zb_in, zi, show (p.toInt < (L 9 0 : Int)) by omega, show 0 ≤ p.toInt by omega], rfl⟩
theorem rt_hasYard (h : zm_l w L I) {p y : Nat} (hp : p < L 9 0) (hy : y < 36) : zs_p X l mX6_hasYard [.ref 38, .int (nI p), .int (nI y)] I (zi (zl_cov L p y)) := by
  obtain ⟨hw, h0, h2, h3⟩ := h
  have hP := hw.1
  obtain ⟨w2, w3, w4, w5, w6, w7, w8, w9⟩ := hw.2.2.2 p hp
  have f4 := zq_rd (h2 4 (by omega) (by omega) p hp)
  have f5 := zq_rd (h2 5 (by omega) (by omega) p hp)
  have f6 := zq_rd (h2 6 (by omega) (by omega) p hp)
  have y6 : nI y / 6 = nI (y / 6) := pk_div (d := 6) (by omega) (by omega) (by omega)
  have a6 : nI (L 4 p) / 6 = nI (L 4 p / 6) := pk_div (d := 6) (by omega) (by omega) (by omega)
  have yr : nI y - nI y / 6 * 6 = nI (y % 6) := pk_rem (d := 6) (by omega) (by omega) (by omega)
  have ar : nI (L 4 p) - nI (L 4 p) / 6 * 6 = nI (L 4 p % 6) := pk_rem (d := 6) (by omega) (by omega) (by omega)
  have t1 : (nI (y / 6) - nI (L 4 p / 6)).toInt = ((y / 6 : Nat) : Int) - ((L 4 p / 6 : Nat) : Int) := pk_sub_toInt (by omega) (by omega)
  have t2 : (nI (y % 6) - nI (L 4 p % 6)).toInt = ((y % 6 : Nat) : Int) - ((L 4 p % 6 : Nat) : Int) := pk_sub_toInt (by omega) (by omega)
  have z5 : (nI (L 5 p) - 1).toInt = ((L 5 p : Nat) : Int) - 1 := by
    have := pk_sub_toInt (a := L 5 p) (b := 1) (by omega) (by omega)
    exact this
  have z6 : (nI (L 6 p) - 1).toInt = ((L 6 p : Nat) : Int) - 1 := by
    have := pk_sub_toInt (a := L 6 p) (b := 1) (by omega) (by omega)
    exact this
  have c1 := rt_isIn (X := X) (l := l) (I := I) (nI (y / 6) - nI (L 4 p / 6)) 0 (nI (L 5 p) - 1)
  have c2 := rt_isIn (X := X) (l := l) (I := I) (nI (y % 6) - nI (L 4 p % 6)) 0 (nI (L 6 p) - 1)
  have e0 : (0 : Int32).toInt = 0 := rfl
  rw [t1, z5, e0, ← y6, ← a6, ← f4, ← f5] at c1
  rw [t2, z6, e0, ← yr, ← ar, ← f4, ← f6] at c2
  refine fw_enter [] 100 ok_X6_hasYard ⟨_, wc_X6_hasYard⟩ rfl rfl rfl ?_
  refine And.intro (by decide) ?_
  refine And.intro (fw_in1 p 6 (by omega)) ?_
  refine And.intro (by decide) ?_
  refine And.intro (fw_in1 p 6 (by omega)) ?_
  refine ⟨_, c1, ?_⟩
  rintro v σ' ⟨rfl, rfl⟩
  refine zq_br (zi_eq0 _) (fun g => ?_) (fun g => ?_)
  · have g := of_decide_eq_false g
    exact ⟨by decide, zr_0 (by omega), rfl⟩
  have g := of_decide_eq_true (by simpa using g)
  refine And.intro (by decide) ?_
  refine And.intro (fw_in1 p 6 (by omega)) ?_
  refine And.intro (by decide) ?_
  refine And.intro (fw_in1 p 6 (by omega)) ?_
  refine ⟨_, c2, ?_⟩
  rintro v σ' ⟨rfl, rfl⟩
  refine zq_br (zi_eq0 _) (fun g2 => ?_) (fun g2 => ?_)
  · have g2 := of_decide_eq_false g2
    exact ⟨by decide, zr_0 (by omega), rfl⟩
  · have g2 := of_decide_eq_true (by simpa using g2)
    exact ⟨by decide, zr_1 (by omega), rfl⟩
theorem rt_ownerOf (h : zm_l w L I) {y : Nat} (hy : y < 36) (hw6 : w ≤ 6) : zs_p X l mX6_ownerOf [.ref 38, .int (nI y)] I (z9_o (L 9 0) (zl_ow L w y)) := by
  have hP := h.1.1
  have h3 := h.2.2.2.1
  have h10 := h.2.2.2.2.2.2
  have sp := zl_f_sp (fun p => !(p == w) && zl_cov L p y) (L 9 0)
  have loop := zl_down (N := L 9 0) (G := fun p => (∀ j, j < p → (!(j == w) && zl_cov L j y) = false) → fw_Go X l mX6_ownerOf (fun r σ => r = some (.int (z9_o (L 9 0) (zl_ow L w y))) ∧ σ = (fw_sh, I)) 2 0 0 [some (.ref 38), some (.int (nI y)), some (.int (nI p))] [] (fw_sh, I)) (by
    intro hj
    have e : zl_ow L w y = L 9 0 := zl_f_eq (Nat.le_refl _) hj (fun h => absurd h (by omega))
    refine fw_from [2] 100 2 ok_X6_ownerOf ⟨_, wc_X6_ownerOf⟩ rfl ?_
    refine zq_le (L 9 0) (L 9 0) h3 rfl (fun _ => ?_) (fun h => absurd h (by omega))
    exact ⟨zr_e (by rw [e, z9_none (by omega)]), rfl⟩) (fun p hp ih => by
    intro hj
    have step : (!(p == w) && zl_cov L p y) = false → ∀ j, j < p + 1 → (!(j == w) && zl_cov L j y) = false := fun hf j hj2 => by
      by_cases e : j = p
      · subst e; exact hf
      · exact hj j (by omega)
    refine fw_from [2] 100 2 ok_X6_ownerOf ⟨_, wc_X6_ownerOf⟩ rfl ?_
    refine zq_le (L 9 0) p h3 rfl (fun h => absurd h (by omega)) (fun _ => ?_)
    refine zq_br (c := nI p = I 38 10) (d := p = w) ?_ (fun g => ?_) (fun g => ?_)
    · rw [h10]
      by_cases hw : w < 6
      · rw [z9_some hw, nI_eq (by omega) (by omega)]
      · rw [z9_none hw]; exact ⟨fun z => absurd z (nI_m9 (by omega)), fun z => absurd z (by omega)⟩
    · exact fw_sub (ih (step (by simp [g]))) (by simp only [nI_1]) rfl
    refine ⟨_, rt_hasYard (X := X) (l := l) h hp hy, ?_⟩
    rintro v σ' ⟨rfl, rfl⟩
    refine zq_br (zi_eq0 _) (fun g2 => ?_) (fun g2 => ?_)
    · exact fw_sub (ih (step (by simp [g2]))) (by simp only [nI_1]) rfl
    · have e : zl_ow L w y = p := zl_f_eq (by omega) hj (fun _ => by simp [g]; simpa using g2)
      exact ⟨zr_e (by rw [e, z9_some hp]), rfl⟩)
  refine fw_enter [2] 100 ok_X6_ownerOf ⟨_, wc_X6_ownerOf⟩ rfl rfl rfl ?_
  exact fw_sub (loop 0 (Nat.zero_le _) (fun j hj => absurd hj (by omega))) (by rfl) rfl
theorem rt_growsBy (h : zm_l w L I) {p d : Nat} (hp : p < L 9 0) (hd : d < 100000) : zs_p X l mX6_growsBy [.ref 38, .int (nI p), .int (nI d)] I (nI (zl_gr (L 2 p) (L 3 p) d)) := by
  have hP := h.1.1
  obtain ⟨hk, hf, -⟩ := h.1.2.2.2 p hp
  have q2 : I 41 (nI p).toNatClampNeg = nI (L 2 p) := zq_rd (h.2.2.1 2 (by omega) (by omega) p hp)
  have q3 : I 42 (nI p).toNatClampNeg = nI (L 3 p) := zq_rd (h.2.2.1 3 (by omega) (by omega) p hp)
  generalize L 2 p = k at *
  generalize L 3 p = f at *
  have r3 : nI d - nI d / 3 * 3 = nI (d % 3) := pk_rem (d := 3) (by omega) (by omega) (by omega)
  have r2 : nI d - nI d / 2 * 2 = nI (d % 2) := pk_rem (d := 2) (by omega) (by omega) (by omega)
  have r7 : nI d - nI d / 7 * 7 = nI (d % 7) := pk_rem (d := 7) (by omega) (by omega) (by omega)
  have f4 : nI f / 4 = nI (f / 4) := pk_div (d := 4) (by omega) (by omega) (by omega)
  have f3 : nI f / 3 = nI (f / 3) := pk_div (d := 3) (by omega) (by omega) (by omega)
  have l0 : (0 : Int32) = nI 0 := rfl
  have l1 : (1 : Int32) = nI 1 := rfl
  have main : ∀ a b : Nat, a = (if d % 3 = 0 then 1 else 0) → b = (if d % 2 = 0 then 1 else 0) → fw_Go X l mX6_growsBy (fun r σ => r = some (.int (nI (zl_gr k f d))) ∧ σ = (fw_sh, I)) 27 0 0 [some (.ref 38), some (.int (nI p)), some (.int (nI d)), some (.int (nI a)), some (.int (nI (a + b))), none] [] (fw_sh, I) := by
    intro a b ha hb
    have d2 : nI (a + b + f / 4 + 1) / 2 = nI ((a + b + f / 4 + 1) / 2) := pk_div (d := 2) (by split at ha <;> split at hb <;> omega) (by omega) (by omega)
    have em : nI (a + b) + I 42 (nI p).toNatClampNeg / 4 = nI (a + b + f / 4) := by rw [q3, f4, nI_add]
    refine fw_from [] 100 18 ok_X6_growsBy ⟨_, wc_X6_growsBy⟩ rfl ?_
    refine And.intro (fw_in1 p 6 (by omega)) ?_
    refine And.intro (by decide) ?_
    refine And.intro (fw_in1 p 6 (by omega)) ?_
    refine zq_eq k 1 q2 rfl (fun h => ?_) (fun h1 => ?_)
    · exact ⟨by simp [zl_gr, h, ha, hb], rfl⟩
    refine zq_eq k 2 q2 rfl (fun h => ?_) (fun h2 => ?_)
    · exact ⟨zr_e (em.trans (by simp [zl_gr, h, ha, hb])), rfl⟩
    refine zq_eq k 3 q2 rfl (fun h => ?_) (fun h3 => ?_)
    · refine And.intro (by decide) ?_
      refine ⟨zr_e ?_, rfl⟩
      show (nI (a + b) + I 42 (nI p).toNatClampNeg / 4 + 1) / 2 = _
      rw [em, nI_1, d2]; simp [zl_gr, h, ha, hb]
    refine zq_eq k 4 q2 rfl (fun h => ?_) (fun h4 => ?_)
    · refine And.intro (by decide) ?_
      refine zq_ne (d % 7) 0 r7 rfl (fun h7 => ?_) (fun h7 => ?_)
      · exact ⟨by rw [l0, nI_add]; simp [zl_gr, h, ha, h7], rfl⟩
      · refine And.intro (fw_in1 p 6 (by omega)) ?_
        refine And.intro (by decide) ?_
        refine ⟨zr_e ?_, rfl⟩
        show nI a + I 42 (nI p).toNatClampNeg / 3 = _
        rw [q3, f3, nI_add]; simp [zl_gr, h, ha, h7]
    refine zq_eq k 5 q2 rfl (fun h => ?_) (fun h5 => ?_)
    · exact ⟨by simp [zl_gr, h, l0], rfl⟩
    exact ⟨by simp [zl_gr, h1, h2, h3, h4, h5, ha], rfl⟩
  refine fw_enter [27] 100 ok_X6_growsBy ⟨_, wc_X6_growsBy⟩ rfl rfl rfl ?_
  refine And.intro (by decide) ?_
  refine zq_ne (d % 3) 0 r3 rfl (fun h3 => ?_) (fun h3 => ?_)
  · refine And.intro (by decide) ?_
    refine zq_ne (d % 2) 0 r2 rfl (fun h2 => ?_) (fun h2 => ?_)
    · exact fw_sub (main 0 0 (by simp [h3]) (by simp [h2])) (by rfl) rfl
    · exact fw_sub (main 0 1 (by simp [h3]) (by simp [h2])) (by rfl) rfl
  · refine And.intro (by decide) ?_
    refine zq_ne (d % 2) 0 r2 rfl (fun h2 => ?_) (fun h2 => ?_)
    · exact fw_sub (main 1 0 (by simp [h3]) (by simp [h2])) (by rfl) rfl
    · exact fw_sub (main 1 1 (by simp [h3]) (by simp [h2])) (by rfl) rfl
end zR
