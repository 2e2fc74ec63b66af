def zl_op (L : Nat → Nat → Nat) (ow : Nat → Nat) (y : Nat) : Bool := decide (L 0 y ≠ 9 ∧ (ow y < L 9 0 → L 7 (ow y) = 0 ∧ L 2 (ow y) ≠ 5))
def zl_go (gr : Nat → Nat) : Nat → Nat → Nat → Nat
  | 0, _, acc => acc
  | j + 1, a, acc => if 9 ≤ acc then acc else zl_go gr j (a + 1) (acc + gr a)
/-- how a piece grows on a day -/
def zl_on (L : Nat → Nat → Nat) (p day : Nat) : Nat := if L 7 p = 0 then zl_gr (L 2 p) (L 3 p) day else 0
def zl_ov (L : Nat → Nat → Nat) (p n : Nat) : Nat := if L 7 p = 0 then zl_go (fun a => zl_gr (L 2 p) (L 3 p) (L 10 0 + a)) n 1 0 else 0
theorem zl_go_le {gr : Nat → Nat} (h : ∀ a, gr a ≤ 4) : ∀ j a acc, acc ≤ 12 → zl_go gr j a acc ≤ 12
  | 0, a, acc, ha => ha
  | j + 1, a, acc, ha => by
    simp only [zl_go]
    split
    · exact ha
    · have := h a
      exact zl_go_le h j (a + 1) _ (by omega)
section zC
variable {X : Nat × (Nat → Int32)} {l : Launch} {I : Nat → Nat → Int32} {d : Nat} {L : Nat → Nat → Nat} {ow : Nat → Nat}
theorem zl_on_le (h : zl_at d L ow I) {p : Nat} (hp : p < L 9 0) (day : Nat) : zl_on L p day ≤ 4 := by
  unfold zl_on
  split
  · exact zl_gr_le (h.2.1.2.2.2 p hp).2.1
  · omega
theorem ct_isOpen (h : zl_at d L ow I) {y : Nat} (hy : y < 36) : zs_p X l mX1_isOpen [.ref d, .int (nI y)] I (zi (zl_op L ow y)) := by
  obtain ⟨hd, hw, h0, h1, h2, h3, h4, h5⟩ := h
  have hP := hw.1
  have hg := hw.2.2.1 y hy
  refine fw_enter [] 100 ok_X1_isOpen ⟨_, wc_X1_isOpen⟩ rfl rfl rfl ?_
  rcases hd with rfl | rfl | rfl <;>
  · refine And.intro (fw_in1 y 36 hy) ?_
    refine And.intro (fw_in1 y 36 hy) ?_
    refine zq_eq (L 0 y) 9 (zq_rd (h0 y hy)) rfl (fun g => ?_) (fun g => ?_)
    · exact ⟨by decide, zr_0 (fun z => z.1 g), rfl⟩
    refine zq_br (c := I _ _ = -1) (d := ¬ ow y < L 9 0) ?_ (fun g2 => ?_) (fun g2 => ?_)
    · rw [zq_rd (h1 y hy), zo_eq1 hP]
    · exact ⟨by decide, zr_1 ⟨g, fun z => absurd z g2⟩, rfl⟩
    have g2 : ow y < L 9 0 := Decidable.not_not.mp g2
    have o1 : I _ (nI y).toNatClampNeg = nI (ow y) := (zq_rd (h1 y hy)).trans (zo_some g2)
    have w := hw.2.2.2 (ow y) g2
    refine And.intro (fw_in1 (ow y) 6 (by omega) o1) ?_
    refine zq_ne (L 7 (ow y)) 0 ?_ rfl (fun g3 => ?_) (fun g3 => ?_)
    · show I _ (I _ _).toNatClampNeg = _
      rw [o1]; exact zq_rd (h2 7 (by omega) (by omega) _ g2)
    · exact ⟨by decide, zr_0 (fun z => g3 (z.2 g2).1), rfl⟩
    refine And.intro (fw_in1 (ow y) 6 (by omega) o1) ?_
    refine zq_eq (L 2 (ow y)) 5 ?_ rfl (fun g4 => ?_) (fun g4 => ?_)
    · show I _ (I _ _).toNatClampNeg = _
      rw [o1]; exact zq_rd (h2 2 (by omega) (by omega) _ g2)
    · exact ⟨by decide, zr_0 (fun z => (z.2 g2).2 g4), rfl⟩
    · exact ⟨by decide, zr_1 ⟨g, fun _ => ⟨g3, g4⟩⟩, rfl⟩
theorem ct_growthOn (h : zl_at d L ow I) {p day : Nat} (hp : p < L 9 0) (hdy : day < 100000) : zs_p X l mX1_growthOn [.ref d, .int (nI p), .int (nI day)] I (nI (zl_on L p day)) := by
  obtain ⟨hd, hw, h0, h1, h2, h3, h4, h5⟩ := h
  have hP := hw.1
  have w := hw.2.2.2 p hp
  refine fw_enter [] 100 ok_X1_growthOn ⟨_, wc_X1_growthOn⟩ rfl rfl rfl ?_
  rcases hd with rfl | rfl | rfl <;>
  · refine And.intro (fw_in1 p 6 (by omega)) ?_
    refine zq_eq (L 7 p) 0 (zq_rd (h2 7 (by omega) (by omega) p hp)) rfl (fun g => ?_) (fun g => ?_)
    · refine And.intro (fw_in1 p 6 (by omega)) ?_
      refine And.intro (fw_in1 p 6 (by omega)) ?_
      refine ⟨(fun r σ => r = some (.int (nI (zl_gr (L 2 p) (L 3 p) day))) ∧ σ = (fw_sh, I)), ?_, ?_⟩
      · have c1 := ct_ofKind (X := X) (l := l) (I := I) (L 2 p) (L 3 p) day w.1 w.2.1 hdy
        rw [← zq_rd (h2 2 (by omega) (by omega) p hp), ← zq_rd (h2 3 (by omega) (by omega) p hp)] at c1
        exact c1
      · rintro v σ' ⟨rfl, rfl⟩
        exact ⟨by simp [zl_on, g], rfl⟩
    · exact ⟨by simp [zl_on, g]; rfl, rfl⟩
end zC
