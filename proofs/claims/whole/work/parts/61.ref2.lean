theorem fw_up_p {I : Nat → Nat → Int32} {o k : Nat} {x : Int32} (c j : Nat) (h : c = o → j ≠ k) : fw_up I o k x c j = I c j := by
  by_cases e : c = o
  · subst e; exact fw_up_k (h rfl)
  · rw [fw_up_ne c e]
/-- only the reference's land and its rows of ways may change -/
def zg (I I' : Nat → Nat → Int32) : Prop := ∀ c k, ¬ (40 ≤ c ∧ c ≤ 45) → ¬ (c = 38 ∧ 7 ≤ k ∧ k ≤ 9) → ¬ (51 ≤ c ∧ c ≤ 53) → I' c k = I c k
theorem zg.rf {I : Nat → Nat → Int32} : zg I I := fun _ _ _ _ _ => rfl
theorem zg.tr {I I' I'' : Nat → Nat → Int32} (h : zg I I') (h2 : zg I' I'') : zg I I'' := fun c k a b d => (h2 c k a b d).trans (h c k a b d)
theorem zg.up {I I' : Nat → Nat → Int32} {o k : Nat} {x : Int32} (h : zg I I') (ho : (40 ≤ o ∧ o ≤ 45) ∨ (o = 38 ∧ 7 ≤ k ∧ k ≤ 9) ∨ (51 ≤ o ∧ o ≤ 53)) : zg I (fw_up I' o k x) := fun c j a b d => by
  rw [fw_up_p c j (fun e => by omega)]; exact h c j a b d
theorem zm_mk {w : Nat} {L : Nat → Nat → Nat} {I : Nat → Nat → Int32} (h : zm_l w L I) {y v : Nat} (hv : v ≤ 9) : zm_l w (zl_mk L y v) (fw_up I 40 y (nI v)) := by
  obtain ⟨hw, h0, h2, h3, h4, h5, h6⟩ := h
  have er : zl_rb (zl_mk L y v) (L 9 0) = zl_rb L (L 9 0) := zm_s_cong _ (fun k _ => by simp [zl_mk])
  refine ⟨⟨hw.1, hw.2.1, fun j hj => ?_, hw.2.2.2⟩, fun j hj => ?_, fun k hk1 hk2 p hp => ?_, ?_, ?_, ?_, ?_⟩
  · have := hw.2.2.1 j hj
    simp only [zl_mk, true_and]
    split <;> omega
  · by_cases e : j = y
    · subst e; rw [fw_up_at]; simp [zl_mk]
    · rw [fw_up_k e, h0 j hj]; simp [zl_mk, e]
  · rw [fw_up_ne _ (by omega), show zl_mk L y v k p = L k p by simp [zl_mk, show ¬ k = 0 by omega]]
    exact h2 k hk1 hk2 p hp
  · rw [fw_up_ne _ (by omega)]; exact h3
  · rw [fw_up_ne _ (by omega), h4]; show _ = nI (zl_rb (zl_mk L y v) (L 9 0)); rw [er]
  · rw [fw_up_ne _ (by omega)]; exact h5
  · rw [fw_up_ne _ (by omega)]; exact h6
def zl_dy (L : Nat → Nat → Nat) (d : Nat) : Nat → Nat → Nat := fun k j => if k = 10 then d else L k j
theorem zm_dy {w : Nat} {L : Nat → Nat → Nat} {I : Nat → Nat → Int32} (h : zm_l w L I) {d : Nat} (hd : d ≤ 5000) : zm_l w (zl_dy L d) (fw_up I 38 9 (nI d)) := by
  obtain ⟨hw, h0, h2, h3, h4, h5, h6⟩ := h
  have er : zl_rb (zl_dy L d) (L 9 0) = zl_rb L (L 9 0) := zm_s_cong _ (fun k _ => by simp [zl_dy])
  refine ⟨⟨hw.1, hd, hw.2.2.1, hw.2.2.2⟩, fun j hj => ?_, fun k hk1 hk2 p hp => ?_, ?_, ?_, ?_, ?_⟩
  · rw [fw_up_ne _ (by omega)]; exact h0 j hj
  · rw [fw_up_ne _ (by omega), show zl_dy L d k p = L k p by simp [zl_dy, show ¬ k = 10 by omega]]
    exact h2 k hk1 hk2 p hp
  · rw [fw_up_k (by omega)]; exact h3
  · rw [fw_up_k (by omega), h4]; show _ = nI (zl_rb (zl_dy L d) (L 9 0)); rw [er]
  · rw [fw_up_at]; rfl
  · rw [fw_up_k (by omega)]; exact h6
/-- the land's cells alone are looked at -/
theorem zm_l.keep {w : Nat} {L : Nat → Nat → Nat} {I I' : Nat → Nat → Int32} (h : zm_l w L I) (hf : ∀ c k, ((c = 40 ∧ k < 36) ∨ (41 ≤ c ∧ c ≤ 45 ∧ k < 6) ∨ (c = 38 ∧ 7 ≤ k ∧ k ≤ 10)) → I' c k = I c k) : zm_l w L I' := by
  obtain ⟨hw, h0, h2, h3, h4, h5, h6⟩ := h
  have hP := hw.1
  exact ⟨hw, fun y hy => by rw [hf _ _ (by omega)]; exact h0 y hy, fun k h1 h7 p hp => by rw [hf _ _ (by omega)]; exact h2 k h1 h7 p hp, by rw [hf _ _ (by omega)]; exact h3, by rw [hf _ _ (by omega)]; exact h4, by rw [hf _ _ (by omega)]; exact h5, by rw [hf _ _ (by omega)]; exact h6⟩
def zl_ht (L : Nat → Nat → Nat) (ow : Nat → Nat) (p : Nat) : Nat → Bool
  | 0 => false
  | n + 1 => zl_ht L ow p n || decide (L 0 n = 9 ∧ ow n = p)
theorem zl_ht_t {L : Nat → Nat → Nat} {ow : Nat → Nat} {p : Nat} : ∀ n, zl_ht L ow p n = true ↔ ∃ y, y < n ∧ L 0 y = 9 ∧ ow y = p
  | 0 => by simp [zl_ht]
  | n + 1 => by
    simp only [zl_ht, Bool.or_eq_true, zl_ht_t n, decide_eq_true_eq]
    constructor
    · rintro (⟨y, h1, h2⟩ | h)
      · exact ⟨y, by omega, h2⟩
      · exact ⟨n, by omega, h⟩
    · rintro ⟨y, h1, h2⟩
      by_cases e : y = n
      · subst e; exact Or.inr h2
      · exact Or.inl ⟨y, by omega, h2⟩
def zl_mv (L : Nat → Nat → Nat) (ow : Nat → Nat) (p : Nat) : Nat → Nat
  | 0 => 0
  | n + 1 => if ow n = p ∧ zl_mv L ow p n < L 0 n then L 0 n else zl_mv L ow p n
theorem zl_mv_le {L : Nat → Nat → Nat} {ow : Nat → Nat} {p : Nat} : ∀ n, (∀ k, k < n → L 0 k ≤ 9) → zl_mv L ow p n ≤ 9
  | 0, _ => by simp [zl_mv]
  | n + 1, h => by
    have h1 := zl_mv_le (ow := ow) (p := p) n (fun k hk => h k (by omega))
    have h2 := h n (by omega)
    simp only [zl_mv]
    split <;> omega
section zR2
variable {X : Nat × (Nat → Int32)} {l : Launch} {I : Nat → Nat → Int32} {w : Nat} {L : Nat → Nat → Nat}
theorem rt_thistles (h : zm_l w L I) : zs_p X l mX6_manyThistles [.ref 38] I (nI (zm_s (fun y => if L 0 y = 9 then 1 else 0) 36)) := by
  have h0 := h.2.1
  have h9 := h.1.2.2.1
  have loop := zl_down (N := 36) (G := fun y => fw_Go X l mX6_manyThistles (fun r σ => r = some (.int (nI (zm_s (fun y => if L 0 y = 9 then 1 else 0) 36))) ∧ σ = (fw_sh, I)) 4 0 0 [some (.ref 38), some (.int (nI (zm_s (fun y => if L 0 y = 9 then 1 else 0) y))), some (.int (nI y))] [] (fw_sh, I)) (by
    refine fw_from [4] 100 4 ok_X6_manyThistles ⟨_, wc_X6_manyThistles⟩ rfl ?_
    refine zq_le 36 36 rfl rfl (fun _ => ?_) (fun h => absurd h (by omega))
    exact ⟨rfl, rfl⟩) (fun y hy ih => by
    have := h9 y hy
    refine fw_from [4] 100 4 ok_X6_manyThistles ⟨_, wc_X6_manyThistles⟩ rfl ?_
    refine zq_le 36 y rfl rfl (fun h => absurd h (by omega)) (fun _ => ?_)
    refine And.intro (fw_in1 y 36 hy) ?_
    refine zq_ne (L 0 y) 9 (zq_rd (h0 y hy)) rfl (fun k => ?_) (fun k => ?_)
    · exact fw_sub ih (by simp [zm_s, k, nI_1]) rfl
    · exact fw_sub ih (by simp [zm_s, k, nI_1]) rfl)
  refine fw_enter [4] 100 ok_X6_manyThistles ⟨_, wc_X6_manyThistles⟩ rfl rfl rfl ?_
  exact fw_sub (loop 0 (by omega)) (by rfl) rfl
theorem rt_allGrown (h : zm_l w L I) : zs_p X l mX6_allGrown [.ref 38] I (nI (zm_s (fun y => L 0 y) 36)) := by
  have h0 := h.2.1
  have loop := zl_down (N := 36) (G := fun y => fw_Go X l mX6_allGrown (fun r σ => r = some (.int (nI (zm_s (fun y => L 0 y) 36))) ∧ σ = (fw_sh, I)) 4 0 0 [some (.ref 38), some (.int (nI (zm_s (fun y => L 0 y) y))), some (.int (nI y))] [] (fw_sh, I)) (by
    refine fw_from [4] 100 4 ok_X6_allGrown ⟨_, wc_X6_allGrown⟩ rfl ?_
    refine zq_le 36 36 rfl rfl (fun _ => ?_) (fun h => absurd h (by omega))
    exact ⟨rfl, rfl⟩) (fun y hy ih => by
    refine fw_from [4] 100 4 ok_X6_allGrown ⟨_, wc_X6_allGrown⟩ rfl ?_
    refine zq_le 36 y rfl rfl (fun h => absurd h (by omega)) (fun _ => ?_)
    refine And.intro (fw_in1 y 36 hy) ?_
    refine fw_sub ih ?_ rfl
    dsimp only
    rw [show I 40 (nI y).toNatClampNeg = nI (L 0 y) from zq_rd (h0 y hy), nI_add, nI_1]
    rfl)
  refine fw_enter [4] 100 ok_X6_allGrown ⟨_, wc_X6_allGrown⟩ rfl rfl rfl ?_
  exact fw_sub (loop 0 (by omega)) (by rfl) rfl
theorem rt_hayOf (h : zm_l w L I) (hw6 : w ≤ 6) {p : Nat} (hp : p < L 9 0) : zs_p X l mX6_hayOf [.ref 38, .int (nI p)] I (nI (zm_s (fun y => if zl_ow L w y = p then L 0 y else 0) 36)) := by
  have h0 := h.2.1
  have hP := h.1.1
  have loop := zl_down (N := 36) (G := fun y => fw_Go X l mX6_hayOf (fun r σ => r = some (.int (nI (zm_s (fun y => if zl_ow L w y = p then L 0 y else 0) 36))) ∧ σ = (fw_sh, I)) 4 0 0 [some (.ref 38), some (.int (nI p)), some (.int (nI (zm_s (fun y => if zl_ow L w y = p then L 0 y else 0) y))), some (.int (nI y))] [] (fw_sh, I)) (by
    refine fw_from [4] 100 4 ok_X6_hayOf ⟨_, wc_X6_hayOf⟩ rfl ?_
    refine zq_le 36 36 rfl rfl (fun _ => ?_) (fun h => absurd h (by omega))
    exact ⟨rfl, rfl⟩) (fun y hy ih => by
    refine fw_from [4] 100 4 ok_X6_hayOf ⟨_, wc_X6_hayOf⟩ rfl ?_
    refine zq_le 36 y rfl rfl (fun h => absurd h (by omega)) (fun _ => ?_)
    refine ⟨_, rt_ownerOf (X := X) (l := l) h hy hw6, ?_⟩
    rintro v σ' ⟨rfl, rfl⟩
    refine zq_brn (z9_eqn hP hp) (fun k => ?_) (fun k => ?_)
    · exact fw_sub ih (by simp [zm_s, k, nI_1]) rfl
    · refine And.intro (fw_in1 y 36 hy) ?_
      refine fw_sub ih ?_ rfl
      dsimp only
      rw [show I 40 (nI y).toNatClampNeg = nI (L 0 y) from zq_rd (h0 y hy), nI_add, nI_1]
      simp [zm_s, k])
  refine fw_enter [4] 100 ok_X6_hayOf ⟨_, wc_X6_hayOf⟩ rfl rfl rfl ?_
  exact fw_sub (loop 0 (by omega)) (by rfl) rfl
theorem rt_manyOf (h : zm_l w L I) (hw6 : w ≤ 6) {p : Nat} (hp : p < L 9 0) : zs_p X l mX6_manyOf [.ref 38, .int (nI p)] I (nI (zm_s (fun y => if zl_ow L w y = p then 1 else 0) 36)) := by
  have hP := h.1.1
  have loop := zl_down (N := 36) (G := fun y => fw_Go X l mX6_manyOf (fun r σ => r = some (.int (nI (zm_s (fun y => if zl_ow L w y = p then 1 else 0) 36))) ∧ σ = (fw_sh, I)) 4 0 0 [some (.ref 38), some (.int (nI p)), some (.int (nI (zm_s (fun y => if zl_ow L w y = p then 1 else 0) y))), some (.int (nI y))] [] (fw_sh, I)) (by
    refine fw_from [4] 100 4 ok_X6_manyOf ⟨_, wc_X6_manyOf⟩ rfl ?_
    refine zq_le 36 36 rfl rfl (fun _ => ?_) (fun h => absurd h (by omega))
    exact ⟨rfl, rfl⟩) (fun y hy ih => by
    refine fw_from [4] 100 4 ok_X6_manyOf ⟨_, wc_X6_manyOf⟩ rfl ?_
    refine zq_le 36 y rfl rfl (fun h => absurd h (by omega)) (fun _ => ?_)
    refine ⟨_, rt_ownerOf (X := X) (l := l) h hy hw6, ?_⟩
    rintro v σ' ⟨rfl, rfl⟩
    refine zq_brn (z9_eqn hP hp) (fun k => ?_) (fun k => ?_)
    · exact fw_sub ih (by simp [zm_s, k, nI_1]) rfl
    · exact fw_sub ih (by simp [zm_s, k, nI_1]) rfl)
  refine fw_enter [4] 100 ok_X6_manyOf ⟨_, wc_X6_manyOf⟩ rfl rfl rfl ?_
  exact fw_sub (loop 0 (by omega)) (by rfl) rfl
theorem rt_mostOf (h : zm_l w L I) (hw6 : w ≤ 6) {p : Nat} (hp : p < L 9 0) : zs_p X l mX6_mostOf [.ref 38, .int (nI p)] I (nI (zl_mv L (zl_ow L w) p 36)) := by
  have hP := h.1.1
  have h0 := h.2.1
  have h9 := h.1.2.2.1
  have loop := zl_down (N := 36) (G := fun y => fw_Go X l mX6_mostOf (fun r σ => r = some (.int (nI (zl_mv L (zl_ow L w) p 36))) ∧ σ = (fw_sh, I)) 4 0 0 [some (.ref 38), some (.int (nI p)), some (.int (nI (zl_mv L (zl_ow L w) p y))), some (.int (nI y))] [] (fw_sh, I)) (by
    refine fw_from [4] 100 4 ok_X6_mostOf ⟨_, wc_X6_mostOf⟩ rfl ?_
    refine zq_le 36 36 rfl rfl (fun _ => ?_) (fun h => absurd h (by omega))
    exact ⟨rfl, rfl⟩) (fun y hy ih => by
    have hm := zl_mv_le (L := L) (ow := zl_ow L w) (p := p) y (fun k hk => h9 k (by omega))
    have h9y := h9 y hy
    refine fw_from [4] 100 4 ok_X6_mostOf ⟨_, wc_X6_mostOf⟩ rfl ?_
    refine zq_le 36 y rfl rfl (fun h => absurd h (by omega)) (fun _ => ?_)
    refine ⟨_, rt_ownerOf (X := X) (l := l) h hy hw6, ?_⟩
    rintro v σ' ⟨rfl, rfl⟩
    refine zq_brn (z9_eqn hP hp) (fun k => ?_) (fun k => ?_)
    · exact fw_sub ih (by simp [zl_mv, k, nI_1]) rfl
    · refine And.intro (fw_in1 y 36 hy) ?_
      refine zq_le (L 0 y) (zl_mv L (zl_ow L w) p y) (zq_rd (h0 y hy)) rfl (fun k2 => ?_) (fun k2 => ?_)
      · exact fw_sub ih (by simp [zl_mv, k, show ¬ zl_mv L (zl_ow L w) p y < L 0 y by omega, nI_1]) rfl
      · refine And.intro (fw_in1 y 36 hy) ?_
        refine fw_sub ih ?_ rfl
        dsimp only
        rw [show I 40 (nI y).toNatClampNeg = nI (L 0 y) from zq_rd (h0 y hy), nI_1]
        simp [zl_mv, k, k2])
  refine fw_enter [4] 100 ok_X6_mostOf ⟨_, wc_X6_mostOf⟩ rfl rfl rfl ?_
  exact fw_sub (loop 0 (by omega)) (by rfl) rfl
theorem rt_hasThistle (h : zm_l w L I) (hw6 : w ≤ 6) {p : Nat} (hp : p < L 9 0) : zs_p X l mX6_hasThistle [.ref 38, .int (nI p)] I (zi (zl_ht L (zl_ow L w) p 36)) := by
  have hP := h.1.1
  have h0 := h.2.1
  have h9 := h.1.2.2.1
  have loop := zl_down (N := 36) (G := fun y => zl_ht L (zl_ow L w) p y = false → fw_Go X l mX6_hasThistle (fun r σ => r = some (.int (zi (zl_ht L (zl_ow L w) p 36))) ∧ σ = (fw_sh, I)) 2 0 0 [some (.ref 38), some (.int (nI p)), some (.int (nI y))] [] (fw_sh, I)) (by
    intro hn
    refine fw_from [2] 100 2 ok_X6_hasThistle ⟨_, wc_X6_hasThistle⟩ rfl ?_
    refine zq_le 36 36 rfl rfl (fun _ => ?_) (fun h => absurd h (by omega))
    exact ⟨by decide, by rw [hn]; rfl, rfl⟩) (fun y hy ih => by
    intro hn
    have h9y := h9 y hy
    refine fw_from [2] 100 2 ok_X6_hasThistle ⟨_, wc_X6_hasThistle⟩ rfl ?_
    refine zq_le 36 y rfl rfl (fun h => absurd h (by omega)) (fun _ => ?_)
    refine And.intro (fw_in1 y 36 hy) ?_
    refine zq_ne (L 0 y) 9 (zq_rd (h0 y hy)) rfl (fun k => ?_) (fun k => ?_)
    · exact fw_sub (ih (by simp [zl_ht, hn, k])) (by simp only [nI_1]) rfl
    refine ⟨_, rt_ownerOf (X := X) (l := l) h hy hw6, ?_⟩
    rintro v σ' ⟨rfl, rfl⟩
    refine zq_brn (z9_eqn hP hp) (fun k2 => ?_) (fun k2 => ?_)
    · exact fw_sub (ih (by simp [zl_ht, hn, k2])) (by simp only [nI_1]) rfl
    · have e : zl_ht L (zl_ow L w) p 36 = true := (zl_ht_t 36).mpr ⟨y, hy, k, k2⟩
      exact ⟨by decide, by rw [e]; rfl, rfl⟩)
  refine fw_enter [2] 100 ok_X6_hasThistle ⟨_, wc_X6_hasThistle⟩ rfl rfl rfl ?_
  exact fw_sub (loop 0 (by omega) rfl) (by rfl) rfl
theorem rt_isOpen (h : zm_l w L I) (hw6 : w ≤ 6) {y : Nat} (hy : y < 36) : zs_p X l mX6_isOpen [.ref 38, .int (nI y)] I (zi (zl_op L (zl_ow L w) y)) := by
  have hP := h.1.1
  have h0 := h.2.1
  have h9 := h.1.2.2.1 y hy
  refine fw_enter [] 100 ok_X6_isOpen ⟨_, wc_X6_isOpen⟩ rfl rfl rfl ?_
  refine ⟨_, rt_ownerOf (X := X) (l := l) h hy hw6, ?_⟩
  rintro v σ' ⟨rfl, rfl⟩
  refine And.intro (fw_in1 y 36 hy) ?_
  refine zq_le 9 (L 0 y) rfl (zq_rd (h0 y hy)) (fun k => ?_) (fun k => ?_)
  · exact ⟨by decide, zr_0 (fun z => z.1 (by omega)), rfl⟩
  refine zq_br (z9_neg (by omega)) (fun g => ?_) (fun g => ?_)
  · exact ⟨by decide, zr_1 ⟨by omega, fun z => absurd z g⟩, rfl⟩
  have g : zl_ow L w y < L 9 0 := Decidable.not_not.mp g
  have wp := h.1.2.2.2 _ g
  have eo := z9_some g
  have c1 := rt_rolled (X := X) (l := l) h g
  rw [← eo] at c1
  refine ⟨_, c1, ?_⟩
  rintro v σ' ⟨rfl, rfl⟩
  refine zq_brn (zi_eq0 _) (fun g2 => ?_) (fun g2 => ?_)
  · have g2 : L 7 (zl_ow L w y) = 1 := by simpa using g2
    exact ⟨by decide, zr_0 (fun z => by have := (z.2 g).1; omega), rfl⟩
  have g2 : ¬ L 7 (zl_ow L w y) = 1 := by simpa using g2
  refine And.intro (fw_in1 (zl_ow L w y) 6 (by omega) eo) ?_
  refine zq_eq (L 2 (zl_ow L w y)) 5 ?_ rfl (fun k3 => ?_) (fun k3 => ?_)
  · show I 41 (z9_o (L 9 0) (zl_ow L w y)).toNatClampNeg = _
    rw [eo]; exact zq_rd (h.2.2.1 2 (by omega) (by omega) _ g)
  · exact ⟨by decide, zr_0 (fun z => (z.2 g).2 k3), rfl⟩
  · exact ⟨by decide, zr_1 ⟨by omega, fun _ => ⟨by omega, k3⟩⟩, rfl⟩
theorem rt_manyOpen (h : zm_l w L I) (hw6 : w ≤ 6) : zs_p X l mX6_manyOpen [.ref 38] I (nI (zm_s (fun y => if zl_op L (zl_ow L w) y then 1 else 0) 36)) := by
  have loop := zl_down (N := 36) (G := fun y => fw_Go X l mX6_manyOpen (fun r σ => r = some (.int (nI (zm_s (fun y => if zl_op L (zl_ow L w) y then 1 else 0) 36))) ∧ σ = (fw_sh, I)) 4 0 0 [some (.ref 38), some (.int (nI (zm_s (fun y => if zl_op L (zl_ow L w) y then 1 else 0) y))), some (.int (nI y))] [] (fw_sh, I)) (by
    refine fw_from [4] 100 4 ok_X6_manyOpen ⟨_, wc_X6_manyOpen⟩ rfl ?_
    refine zq_le 36 36 rfl rfl (fun _ => ?_) (fun h => absurd h (by omega))
    exact ⟨rfl, rfl⟩) (fun y hy ih => by
    refine fw_from [4] 100 4 ok_X6_manyOpen ⟨_, wc_X6_manyOpen⟩ rfl ?_
    refine zq_le 36 y rfl rfl (fun h => absurd h (by omega)) (fun _ => ?_)
    refine ⟨_, rt_isOpen (X := X) (l := l) h hw6 hy, ?_⟩
    rintro v σ' ⟨rfl, rfl⟩
    refine zq_br (zi_eq0 _) (fun k => ?_) (fun k => ?_)
    · exact fw_sub ih (by simp [zm_s, k, nI_1]) rfl
    · have k : zl_op L (zl_ow L w) y = true := by simpa using k
      exact fw_sub ih (by simp [zm_s, k, nI_1]) rfl)
  refine fw_enter [4] 100 ok_X6_manyOpen ⟨_, wc_X6_manyOpen⟩ rfl rfl rfl ?_
  exact fw_sub (loop 0 (by omega)) (by rfl) rfl
theorem rt_beside {y d : Nat} (hy : y < 36) (hd : d < 4) : zs_p X l mX6_beside [.int (nI y), .int (nI d)] I (z9_o 36 (zl_be y d)) := by
  have yr : nI y - nI y / 6 * 6 = nI (y % 6) := pk_rem (d := 6) (by omega) (by omega) (by omega)
  refine fw_enter [] 100 ok_X6_beside ⟨_, wc_X6_beside⟩ rfl rfl rfl ?_
  refine zq_eq d 0 rfl rfl (fun h => ?_) (fun h0 => ?_)
  · subst h
    refine zq_le 6 y rfl rfl (fun g => ?_) (fun g => ?_)
    · refine ⟨zr_e ?_, rfl⟩
      rw [show (6 : Int32) = nI 6 from rfl, zn_sub g]
      simp only [zl_be, g, if_true, z9_o, show y - 6 < 36 by omega]
    · exact ⟨zr_e (by simp only [zl_be, show ¬ 6 ≤ y by omega, if_true, if_false, z9_o, show ¬ (36 : Nat) < 36 by omega]), rfl⟩
  refine zq_eq d 1 rfl rfl (fun h => ?_) (fun h1 => ?_)
  · subst h
    refine And.intro (by decide) ?_
    refine zq_ne (y % 6) 0 yr rfl (fun g => ?_) (fun g => ?_)
    · refine ⟨zr_e ?_, rfl⟩
      rw [show (1 : Int32) = nI 1 from rfl, zn_sub (by omega)]
      simp only [zl_be, show 0 < y % 6 by omega, show ¬ (1 : Nat) = 0 by omega, if_true, if_false, z9_o, show y - 1 < 36 by omega]
    · exact ⟨zr_e (by simp only [zl_be, show ¬ 0 < y % 6 by omega, show ¬ (1 : Nat) = 0 by omega, if_true, if_false, z9_o, show ¬ (36 : Nat) < 36 by omega]), rfl⟩
  refine zq_eq d 2 rfl rfl (fun h => ?_) (fun h2 => ?_)
  · subst h
    refine And.intro (by decide) ?_
    refine zq_ne (y % 6) 5 yr rfl (fun g => ?_) (fun g => ?_)
    · refine ⟨zr_e ?_, rfl⟩
      rw [nI_1]
      simp only [zl_be, show y % 6 < 5 by omega, show ¬ (2 : Nat) = 0 by omega, show ¬ (2 : Nat) = 1 by omega, if_true, if_false, z9_o, show y + 1 < 36 by omega]
    · exact ⟨zr_e (by simp only [zl_be, show ¬ y % 6 < 5 by omega, show ¬ (2 : Nat) = 0 by omega, show ¬ (2 : Nat) = 1 by omega, if_true, if_false, z9_o, show ¬ (36 : Nat) < 36 by omega]), rfl⟩
  · have h3 : d = 3 := by omega
    subst h3
    refine zq_le y 29 rfl rfl (fun g => ?_) (fun g => ?_)
    · refine ⟨zr_e ?_, rfl⟩
      rw [show (6 : Int32) = nI 6 from rfl, nI_add]
      simp only [zl_be, show y + 6 < 36 by omega, show ¬ (3 : Nat) = 0 by omega, show ¬ (3 : Nat) = 1 by omega, show ¬ (3 : Nat) = 2 by omega, if_true, if_false, z9_o]
    · exact ⟨zr_e (by simp only [zl_be, show ¬ y + 6 < 36 by omega, show ¬ (3 : Nat) = 0 by omega, show ¬ (3 : Nat) = 1 by omega, show ¬ (3 : Nat) = 2 by omega, if_false, z9_o, show ¬ (36 : Nat) < 36 by omega]), rfl⟩
theorem rt_share (h : zm_l w L I) {a b : Nat} (ha : a < L 9 0) (hb : b < L 9 0) : zs_p X l mX6_shareYard [.ref 38, .int (nI a), .int (nI b)] I (zi (zl_ovl L a b 36)) := by
  have yes : ∀ n y, y < n → zl_cov L a y = true → zl_cov L b y = true → zl_ovl L a b n = true := by
    intro n
    induction n with
    | zero => intro y hy; omega
    | succ n ih =>
      intro y hy h1 h2
      by_cases e : y = n
      · subst e; simp [zl_ovl, h1, h2]
      · simp [zl_ovl, ih y (by omega) h1 h2]
  have loop := zl_down (N := 36) (G := fun y => zl_ovl L a b y = false → fw_Go X l mX6_shareYard (fun r σ => r = some (.int (zi (zl_ovl L a b 36))) ∧ σ = (fw_sh, I)) 2 0 0 [some (.ref 38), some (.int (nI a)), some (.int (nI b)), some (.int (nI y))] [] (fw_sh, I)) (by
    intro hn
    refine fw_from [2] 100 2 ok_X6_shareYard ⟨_, wc_X6_shareYard⟩ rfl ?_
    refine zq_le 36 36 rfl rfl (fun _ => ?_) (fun h => absurd h (by omega))
    exact ⟨by decide, by rw [hn]; rfl, rfl⟩) (fun y hy ih => by
    intro hn
    refine fw_from [2] 100 2 ok_X6_shareYard ⟨_, wc_X6_shareYard⟩ rfl ?_
    refine zq_le 36 y rfl rfl (fun h => absurd h (by omega)) (fun _ => ?_)
    refine ⟨_, rt_hasYard (X := X) (l := l) h ha hy, ?_⟩
    rintro v σ' ⟨rfl, rfl⟩
    refine zq_br (zi_eq0 _) (fun k => ?_) (fun k => ?_)
    · exact fw_sub (ih (by simp [zl_ovl, hn, k])) (by simp only [nI_1]) rfl
    refine ⟨_, rt_hasYard (X := X) (l := l) h hb hy, ?_⟩
    rintro v σ' ⟨rfl, rfl⟩
    refine zq_br (zi_eq0 _) (fun k2 => ?_) (fun k2 => ?_)
    · exact fw_sub (ih (by simp [zl_ovl, hn, k2])) (by simp only [nI_1]) rfl
    · exact ⟨by decide, by rw [yes 36 y hy (by simpa using k) (by simpa using k2)]; rfl, rfl⟩)
  refine fw_enter [2] 100 ok_X6_shareYard ⟨_, wc_X6_shareYard⟩ rfl rfl rfl ?_
  exact fw_sub (loop 0 (by omega) rfl) (by rfl) rfl
theorem rt_trod (h : zm_l w L I) (hw6 : w ≤ 6) {p : Nat} (hp : p < L 9 0) : fw_Sem X l mX6_trod [.ref 38, .int (nI p)] (fw_sh, I) (fun r σ => r = none ∧ ∃ I', σ = (fw_sh, I') ∧ zm_l w (zl_tr L (zl_ow L w) p) I' ∧ zg I I') := by
  have hP := h.1.1
  have loop := zl_down (N := 36) (G := fun y => ∀ I', zm_l w (fun k j => if k = 0 ∧ j < y ∧ zl_ow L w j = p then 0 else L k j) I' → zg I I' → fw_Go X l mX6_trod (fun r σ => r = none ∧ ∃ I', σ = (fw_sh, I') ∧ zm_l w (zl_tr L (zl_ow L w) p) I' ∧ zg I I') 2 0 0 [some (.ref 38), some (.int (nI p)), some (.int (nI y))] [] (fw_sh, I')) (by
    intro I' hz hf
    refine fw_from [2] 100 2 ok_X6_trod ⟨_, wc_X6_trod⟩ rfl ?_
    refine zq_le 36 36 rfl rfl (fun _ => ?_) (fun h => absurd h (by omega))
    refine ⟨rfl, I', rfl, ?_, hf⟩
    obtain ⟨a1, a2, a3, a4, a5, a6, a7⟩ := hz
    refine ⟨⟨a1.1, a1.2.1, fun y hy => ?_, a1.2.2.2⟩, fun y hy => ?_, fun k k2 k6 q hq => ?_, a4, ?_, a6, a7⟩
    · have := a1.2.2.1 y hy
      simpa [zl_tr, hy] using this
    · rw [a2 y hy]; simp [zl_tr, hy]
    · rw [a3 k k2 k6 q hq]; simp [zl_tr, show ¬ k = 0 by omega]
    · rw [a5]; congr 1) (fun y hy ih => by
    intro I' hz hf
    have eow : zl_ow (fun k j => if k = 0 ∧ j < y ∧ zl_ow L w j = p then 0 else L k j) w = zl_ow L w := zl_ow_congr (by funext j; simp) (by funext j; simp) (by funext j; simp) (by funext j; simp) w
    have c1 := rt_ownerOf (X := X) (l := l) hz hy hw6
    rw [eow] at c1
    refine fw_from [2] 100 2 ok_X6_trod ⟨_, wc_X6_trod⟩ rfl ?_
    refine zq_le 36 y rfl rfl (fun h => absurd h (by omega)) (fun _ => ?_)
    refine ⟨_, c1, ?_⟩
    rintro v σ' ⟨rfl, rfl⟩
    refine zq_brn (z9_eqn hP hp) (fun k => ?_) (fun k => ?_)
    · refine fw_sub (ih I' ?_ hf) (by simp only [nI_1]) rfl
      have e : (fun k j => if k = 0 ∧ j < y + 1 ∧ zl_ow L w j = p then 0 else L k j) = (fun k j => if k = 0 ∧ j < y ∧ zl_ow L w j = p then 0 else L k j) := by
        funext k' j
        by_cases ej : j = y
        · subst ej; have k : ¬ zl_ow L w j = p := k; simp [k]
        · simp only [show (j < y + 1 ↔ j < y) by omega]
      rw [e]; exact hz
    · refine And.intro (fw_in1 y 36 hy) ?_
      refine fw_sub (ih (fw_up I' 40 y (nI 0)) ?_ (hf.up (by omega))) (by simp only [nI_1]) (by rw [nI_clamp (by omega)]; rfl)
      have e : (fun k j => if k = 0 ∧ j < y + 1 ∧ zl_ow L w j = p then 0 else L k j) = zl_mk (fun k j => if k = 0 ∧ j < y ∧ zl_ow L w j = p then 0 else L k j) y 0 := by
        funext k' j
        have k : zl_ow L w y = p := k
        by_cases ej : j = y
        · subst ej; by_cases ek : k' = 0 <;> simp [zl_mk, ek, k]
        · simp only [zl_mk, ej, and_false, if_false, show (j < y + 1 ↔ j < y) by omega]
      rw [e]; exact zm_mk hz (by omega))
  refine fw_enter [2] 100 ok_X6_trod ⟨_, wc_X6_trod⟩ rfl rfl rfl ?_
  have e0 : (fun k j => if k = 0 ∧ j < 0 ∧ zl_ow L w j = p then 0 else L k j) = L := by funext k j; simp
  exact fw_sub (loop 0 (by omega) I (by rw [e0]; exact h) zg.rf) (by rfl) rfl
theorem zl_ov1 {p : Nat} : zl_ov L p 1 = if L 7 p = 0 then zl_gr (L 2 p) (L 3 p) (L 10 0 + 1) else 0 := by
  unfold zl_ov
  split
  · simp [zl_go]
  · rfl
theorem rt_goesDay (h : zm_l w L I) (hw6 : w ≤ 6) (hday : L 10 0 + 1 ≤ 5000) : fw_Sem X l mX6_goesDay [.ref 38] (fw_sh, I) (fun r σ => r = none ∧ ∃ I', σ = (fw_sh, I') ∧ zm_l w (zl_pd L (zl_ow L w) 1) I' ∧ zg I I') := by
  have hP := h.1.1
  obtain ⟨M, hM⟩ : ∃ M : Nat → Nat → Nat → Nat, M = fun y k j => if k = 0 then (if j < y then zl_pd L (zl_ow L w) 1 0 j else L 0 j) else if k = 10 then L 10 0 + 1 else L k j := ⟨_, rfl⟩
  have mo : ∀ y, zl_ow (M y) w = zl_ow L w := fun y => by rw [hM]; exact zl_ow_congr rfl rfl rfl rfl w
  have loop := zl_down (N := 36) (G := fun y => ∀ I' v2 v3, zm_l w (M y) I' → zg I I' → fw_Go X l mX6_goesDay (fun r σ => r = none ∧ ∃ I', σ = (fw_sh, I') ∧ zm_l w (zl_pd L (zl_ow L w) 1) I' ∧ zg I I') 12 0 0 [some (.ref 38), some (.int (nI y)), v2, v3] [] (fw_sh, I')) (by
    intro I' v2 v3 hz hf
    refine fw_from [12] 100 8 ok_X6_goesDay ⟨_, wc_X6_goesDay⟩ rfl ?_
    refine zq_le 36 36 rfl rfl (fun _ => ?_) (fun h => absurd h (by omega))
    refine ⟨rfl, I', rfl, ?_, hf⟩
    rw [hM] at hz
    obtain ⟨a1, a2, a3, a4, a5, a6, a7⟩ := hz
    refine ⟨⟨a1.1, a1.2.1, fun y hy => ?_, a1.2.2.2⟩, fun y hy => ?_, fun k k2 k6 q hq => ?_, a4, a5, a6, a7⟩
    · have := a1.2.2.1 y hy
      simpa [hy] using this
    · rw [a2 y hy]; simp [hy]
    · rw [a3 k k2 k6 q hq]; simp [zl_pd, show ¬ k = 0 by omega, show ¬ k = 10 by omega]) (fun y hy ih => by
    intro I' v2 v3 hz hf
    have c1 := rt_ownerOf (X := X) (l := l) hz hy hw6
    rw [mo y] at c1
    have e9 : M y 9 0 = L 9 0 := by rw [hM]; rfl
    have e10 : M y 10 0 = L 10 0 + 1 := by rw [hM]; rfl
    have ek : ∀ k, 1 ≤ k → k ≤ 9 → ∀ j, M y k j = L k j := fun k h1 h2 j => by rw [hM]; simp [show ¬ k = 0 by omega, show ¬ k = 10 by omega]
    have e0 : M y 0 y = L 0 y := by rw [hM]; simp
    have h9 := h.1.2.2.1 y hy
    have nxt : ∀ v, v = zl_pd L (zl_ow L w) 1 0 y → M (y + 1) = zl_mk (M y) y v := fun v hv => by
      rw [hM]
      funext k' j
      by_cases ej : j = y
      · subst ej; by_cases ek : k' = 0 <;> simp [zl_mk, ek, hv]
      · simp only [zl_mk, ej, and_false, if_false, show (j < y + 1 ↔ j < y) by omega]
    have same : zl_pd L (zl_ow L w) 1 0 y = L 0 y → M (y + 1) = M y := fun hs => by
      rw [hM]
      funext k' j
      by_cases ej : j = y
      · subst ej; by_cases ek : k' = 0 <;> simp [ek, hs]
      · simp only [show (j < y + 1 ↔ j < y) by omega]
    refine fw_from [12] 100 8 ok_X6_goesDay ⟨_, wc_X6_goesDay⟩ rfl ?_
    refine zq_le 36 y rfl rfl (fun h => absurd h (by omega)) (fun _ => ?_)
    refine ⟨_, c1, ?_⟩
    rintro v σ' ⟨rfl, rfl⟩
    rw [e9]
    refine zq_br (z9_neg (by omega)) (fun g => ?_) (fun g => ?_)
    · refine fw_sub (ih I' (some (.int (z9_o (L 9 0) (zl_ow L w y)))) v3 ?_ hf) (by simp only [nI_1]) rfl
      rw [same (by simp [zl_pd, g])]; exact hz
    have g : zl_ow L w y < L 9 0 := Decidable.not_not.mp g
    have eo := z9_some g
    have wp := h.1.2.2.2 _ g
    have c2 := rt_rolled (X := X) (l := l) hz (p := zl_ow L w y) (by rw [e9]; exact g)
    rw [ek 7 (by omega) (by omega), ← eo] at c2
    refine ⟨_, c2, ?_⟩
    rintro v σ' ⟨rfl, rfl⟩
    refine zq_br (zi_eq0 _) (fun g2 => ?_) (fun g2 => ?_)
    · have g2 : ¬ L 7 (zl_ow L w y) = 1 := by simpa using g2
      have g0 : L 7 (zl_ow L w y) = 0 := by omega
      have c3 := rt_growsBy (X := X) (l := l) hz (p := zl_ow L w y) (d := L 10 0 + 1) (by rw [e9]; exact g) (by omega)
      rw [ek 2 (by omega) (by omega), ek 3 (by omega) (by omega), ← eo, ← e10, ← hz.2.2.2.2.2.1] at c3
      have hgr := zl_gr_le (k := L 2 (zl_ow L w y)) (d := L 10 0 + 1) wp.2.1
      have q0 : I' 40 (nI y).toNatClampNeg = nI (L 0 y) := by rw [← e0]; exact zq_rd (hz.2.1 y hy)
      have epd : zl_pd L (zl_ow L w) 1 0 y = if L 0 y + zl_gr (L 2 (zl_ow L w y)) (L 3 (zl_ow L w y)) (L 10 0 + 1) < 9 then L 0 y + zl_gr (L 2 (zl_ow L w y)) (L 3 (zl_ow L w y)) (L 10 0 + 1) else 9 := by
        simp only [zl_pd, g, if_true, zl_ov1, g0]
      refine And.intro (fw_in1 y 36 hy) ?_
      refine ⟨_, c3, ?_⟩
      rintro v σ' ⟨rfl, rfl⟩
      have ev : I' 40 (nI y).toNatClampNeg + nI (zl_gr (L 2 (zl_ow L w y)) (L 3 (zl_ow L w y)) (M y 10 0)) = nI (L 0 y + zl_gr (L 2 (zl_ow L w y)) (L 3 (zl_ow L w y)) (L 10 0 + 1)) := by rw [q0, e10, nI_add]
      refine zq_le (L 0 y + zl_gr (L 2 (zl_ow L w y)) (L 3 (zl_ow L w y)) (L 10 0 + 1)) 9 ev rfl (fun k => ?_) (fun k => ?_)
      · refine And.intro (fw_in1 y 36 hy) ?_
        refine fw_sub (ih (fw_up I' 40 y (nI (L 0 y + zl_gr (L 2 (zl_ow L w y)) (L 3 (zl_ow L w y)) (L 10 0 + 1)))) (some (.int (z9_o (L 9 0) (zl_ow L w y)))) (some (.int (nI (L 0 y + zl_gr (L 2 (zl_ow L w y)) (L 3 (zl_ow L w y)) (L 10 0 + 1))))) ?_ (hf.up (by omega))) ?_ ?_
        · rw [nxt (L 0 y + zl_gr (L 2 (zl_ow L w y)) (L 3 (zl_ow L w y)) (L 10 0 + 1)) (by rw [epd]; split <;> omega)]
          exact zm_mk hz (by omega)
        · dsimp only; rw [ev]; simp only [nI_1]
        · dsimp only; rw [ev, nI_clamp (by omega)]
      · refine And.intro (fw_in1 y 36 hy) ?_
        refine fw_sub (ih (fw_up I' 40 y (nI 9)) (some (.int (z9_o (L 9 0) (zl_ow L w y)))) (some (.int (nI (L 0 y + zl_gr (L 2 (zl_ow L w y)) (L 3 (zl_ow L w y)) (L 10 0 + 1))))) ?_ (hf.up (by omega))) ?_ ?_
        · rw [nxt 9 (by rw [epd]; split <;> omega)]
          exact zm_mk hz (by omega)
        · dsimp only; rw [ev]; simp only [nI_1]
        · dsimp only; rw [nI_clamp (by omega)]; rfl
    · have g2 : L 7 (zl_ow L w y) = 1 := by simpa using g2
      refine fw_sub (ih I' (some (.int (z9_o (L 9 0) (zl_ow L w y)))) v3 ?_ hf) (by simp only [nI_1]) rfl
      rw [same (by simp [zl_pd, g, zl_ov1, g2]; omega)]; exact hz)
  refine fw_enter [12] 100 ok_X6_goesDay ⟨_, wc_X6_goesDay⟩ rfl rfl rfl ?_
  have ed : I 38 9 + 1 = nI (L 10 0 + 1) := by rw [h.2.2.2.2.2.1, nI_1]
  have e0 : M 0 = zl_dy L (L 10 0 + 1) := by
    rw [hM]
    funext k j
    by_cases ek : k = 0
    · simp [zl_dy, ek]
    · simp [zl_dy, ek]
  refine fw_sub (loop 0 (by omega) (fw_up I 38 9 (nI (L 10 0 + 1))) none none (by rw [e0]; exact zm_dy h hday) (zg.rf.up (by omega))) (by rfl) ?_
  dsimp only
  rw [ed]
theorem rt_goes (hw6 : w ≤ 6) {n : Nat} (hn : n < 1000) (h : zm_l w L I) (hday : L 10 0 + n ≤ 5000) : fw_Sem X l mX6_goes [.ref 38, .int (nI n)] (fw_sh, I) (fun r σ => r = none ∧ ∃ I', σ = (fw_sh, I') ∧ zm_l w (zo_pdk L (zl_ow L w) n) I' ∧ zg I I') := by
  have geo : ∀ k, (zl_ow (zo_pdk L (zl_ow L w) k) w = zl_ow L w) ∧ zo_pdk L (zl_ow L w) k 10 0 = L 10 0 + k := by
    intro k
    have g : ∀ q, 1 ≤ q → q ≤ 9 → zo_pdk L (zl_ow L w) k q = L q := by
      intro q h1 h2
      induction k with
      | zero => rfl
      | succ k ih => funext j; simp [zo_pdk, zl_pd, show ¬ q = 0 by omega, show ¬ q = 10 by omega, ih]
    refine ⟨zl_ow_congr (g 4 (by omega) (by omega)) (g 5 (by omega) (by omega)) (g 6 (by omega) (by omega)) (g 9 (by omega) (by omega)) w, ?_⟩
    clear g
    induction k with
    | zero => rfl
    | succ k ih => simp [zo_pdk, zl_pd, ih]; omega
  have loop := zl_down (N := n) (G := fun k => ∀ I', zm_l w (zo_pdk L (zl_ow L w) k) I' → zg I I' → fw_Go X l mX6_goes (fun r σ => r = none ∧ ∃ I', σ = (fw_sh, I') ∧ zm_l w (zo_pdk L (zl_ow L w) n) I' ∧ zg I I') 2 0 0 [some (.ref 38), some (.int (nI n)), some (.int (nI k))] [] (fw_sh, I')) (by
    intro I' hz hf
    refine fw_from [2] 100 2 ok_X6_goes ⟨_, wc_X6_goes⟩ rfl ?_
    refine zq_le n n rfl rfl (fun _ => ?_) (fun h => absurd h (by omega))
    exact ⟨rfl, I', rfl, hz, hf⟩) (fun k hk ih => by
    intro I' hz hf
    obtain ⟨g1, g2⟩ := geo k
    have c1 := rt_goesDay (X := X) (l := l) hz hw6 (by omega)
    rw [g1] at c1
    refine fw_from [2] 100 2 ok_X6_goes ⟨_, wc_X6_goes⟩ rfl ?_
    refine zq_le n k rfl rfl (fun h => absurd h (by omega)) (fun _ => ?_)
    refine ⟨_, c1, ?_⟩
    rintro v σ' ⟨rfl, I2, rfl, hz2, hf2⟩
    exact fw_sub (ih I2 hz2 (hf.tr hf2)) (by simp only [nI_1]) rfl)
  refine fw_enter [2] 100 ok_X6_goes ⟨_, wc_X6_goes⟩ rfl rfl rfl ?_
  exact fw_sub (loop 0 (by omega) I h zg.rf) (by rfl) rfl
end zR2
