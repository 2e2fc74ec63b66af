/-- only what is thought in has changed -/
def zk_sc (I I' : Nat → Nat → Int32) : Prop := ∀ c, c < 10 ∨ (21 ≤ c ∧ c ≤ 29) ∨ 34 ≤ c → I' c = I c
theorem zk_sc.rf {I : Nat → Nat → Int32} : zk_sc I I := fun _ _ => rfl
theorem zk_sc.tr {I I' I'' : Nat → Nat → Int32} (h : zk_sc I I') (h2 : zk_sc I' I'') : zk_sc I I'' := fun c hc => (h2 c hc).trans (h c hc)
theorem zk_sc.c {s : zS} {I I' : Nat → Nat → Int32} (h : zk_sc I I') (hc : zc_at s I) : zc_at s I' := zc_keep hc (fun c hc => h c (by omega))
theorem zk_sc.hi {I I' : Nat → Nat → Int32} (h : zk_sc I I') : zf_hi I I' := fun c hc => h c (by omega)
theorem zf_fr.sc {cs : List Nat} {I I' : Nat → Nat → Int32} (h : zf_fr cs I I') (hc : ∀ c, c ∈ cs → (10 ≤ c ∧ c ≤ 20) ∨ (30 ≤ c ∧ c ≤ 33)) : zk_sc I I' := fun c hc2 => h c (fun z => by have := hc c z; omega)
theorem zk_sc.up {I I' : Nat → Nat → Int32} {o k : Nat} {x : Int32} (h : zk_sc I I') (ho : (10 ≤ o ∧ o ≤ 20) ∨ (30 ≤ o ∧ o ≤ 33)) : zk_sc I (fw_up I' o k x) := fun c hc => by rw [fw_up_ne c (by omega)]; exact h c hc
def zq_mn (sk : Nat → Bool) (f : Nat → Nat) (m0 : Nat) : Nat → Nat × Nat
  | 0 => (0, m0)
  | p + 1 => if sk p = false ∧ f p < (zq_mn sk f m0 p).2 then (p + 1, f p) else zq_mn sk f m0 p
def zq_mxp (f : Nat → Nat) : Nat → Nat × Nat
  | 0 => (0, 0)
  | p + 1 => if (zq_mxp f p).2 < f p + 1 then (p + 1, f p + 1) else zq_mxp f p
def z9_I (b : Nat) : Int32 := if b = 0 then -9 else nI (b - 1)
theorem zq_mn_le {sk : Nat → Bool} {f : Nat → Nat} {m0 b : Nat} (h0 : m0 ≤ b) (hf : ∀ p, f p ≤ b) : ∀ n, (zq_mn sk f m0 n).2 ≤ b
  | 0 => h0
  | n + 1 => by
    simp only [zq_mn]
    split
    · exact hf n
    · exact zq_mn_le h0 hf n
theorem zq_mxp_le {f : Nat → Nat} {b : Nat} (hf : ∀ p, f p ≤ b) : ∀ n, (zq_mxp f n).2 ≤ b + 1
  | 0 => by simp [zq_mxp]
  | n + 1 => by
    simp only [zq_mxp]
    split
    · have := hf n; simp; omega
    · exact zq_mxp_le hf n
/-- thistles behind n days, if a piece was trod (none: the count of pieces) -/
def zh_tr (L : Nat → Nat → Nat) (p n : Nat) : Nat := zm_s (fun y => if zl_pd (if p < L 9 0 then zl_tr L (zl_ow L 6) p else L) (zl_ow L 6) n 0 y = 9 then 1 else 0) 36
def zh_wo (L : Nat → Nat → Nat) (p n : Nat) : Nat := zm_s (fun y => zl_pd L (zl_ow L p) n 0 y) 36
noncomputable def zh_tu (L : Nat → Nat → Nat) (p q a b : Nat) : Nat := zb_far (zl_op (if q < L 9 0 then zl_to (if p < L 9 0 then zl_to L p else L) q else (if p < L 9 0 then zl_to L p else L)) (zl_ow L 6)) a b
def zo_needy (s : zS) (n : Int32) : Int32 × zS :=
  if zk_out n 0 99 = 0 then (z9_I (zq_mn (fun p => !(s.1 7 p == 0)) (fun p => zh_tr s.1 p n.toNatClampNeg) (zh_tr s.1 6 n.toNatClampNeg) (s.1 9 0)).1, s) else zx_no s (zk_out n 0 99)
def zo_sold (s : zS) (n w : Int32) : Int32 × zS :=
  if zk_first (zk_out n 0 99) (zk_oth w 1) = 0 then ((if w.toNatClampNeg = 0 then z9_I (zq_mxp (fun p => zh_wo s.1 p n.toNatClampNeg) (s.1 9 0)).1 else z9_I (zq_mxp (fun p => zh_wo s.1 p n.toNatClampNeg) (s.1 9 0)).2), s) else zx_no s (zk_first (zk_out n 0 99) (zk_oth w 1))
def zo_longest (s : zS) : Int32 × zS := (z9_I (zq_mxp (fun p => zl_days s.1 (zl_ow s.1 6) p) (s.1 9 0)).1, s)
def zo_edge (s : zS) (p : Int32) : Int32 × zS :=
  if zb_in p (s.1 9 0) then (nI (zm_s (fun y => if zl_ow s.1 6 y = p.toNatClampNeg ∧ zl_edge (zl_ow s.1 6) y 4 = true then 1 else 0) 36), s) else zx_no s 1
theorem zl_ow_le (L : Nat → Nat → Nat) (w y : Nat) : zl_ow L w y ≤ L 9 0 := (zl_f_sp _ _).1
theorem zm_01 {f : Nat → Nat} (h : ∀ y, f y ≤ 1) : zm_s f 36 ≤ 36 := by have := zm_s_le h 36; omega
theorem zl_days_le (L : Nat → Nat → Nat) (ow : Nat → Nat) (p : Nat) : zl_days L ow p ≤ 100 := by
  have : ∀ gr j a acc, zl_dt gr j a acc ≤ a + j := by
    intro gr j
    induction j with
    | zero => intro a acc; simp [zl_dt]
    | succ j ih => intro a acc; simp only [zl_dt]; split
                   · omega
                   · have := ih (a + 1) (acc + gr (a + 1)); omega
  unfold zl_days
  split
  · omega
  · have := this (fun a => zl_on L p (L 10 0 + a)) 100 0 (zl_mx (fun y => ow y = p) (fun y => L 0 y) 36 - 1); omega
section zC6
variable {X : Nat × (Nat → Int32)} {l : Launch} {I : Nat → Nat → Int32} {s : zS}
theorem ct_ifTrod (h : zc_at s I) {p n : Nat} (hn : n ≤ 99) : fw_Sem X l mX5_thistlesIfTrod [.ref 0, .int (zo_I (s.1 9 0) p), .int (nI n)] (fw_sh, I) (fun r σ => r = some (.int (nI (zh_tr s.1 p n))) ∧ ∃ I', σ = (fw_sh, I') ∧ zk_sc I I') := by
  have hl := h.2.1
  have hP := hl.2.1.1
  have hd := h.1.1
  have fin : ∀ (L' : Nat → Nat → Nat) I1, zl_at 11 L' (zl_ow s.1 6) I1 → L' 10 0 = s.1 10 0 → zh_tr s.1 p n = zm_s (fun y => if zl_pd L' (zl_ow s.1 6) n 0 y = 9 then 1 else 0) 36 → zk_sc I I1 → fw_Go X l mX5_thistlesIfTrod (fun r σ => r = some (.int (nI (zh_tr s.1 p n))) ∧ ∃ I', σ = (fw_sh, I') ∧ zk_sc I I') 24 0 0 [some (.ref 0), some (.int (zo_I (s.1 9 0) p)), some (.int (nI n))] [] (fw_sh, I1) := by
    intro L' I1 hz hd' he hsc
    refine fw_from [] 100 12 ok_X5_thistlesIfTrod ⟨_, wc_X5_thistlesIfTrod⟩ rfl ?_
    refine ⟨_, ct_passDays (X := X) (l := l) hz (N := n) (by omega) (by omega), ?_⟩
    rintro v σ' ⟨rfl, I2, rfl, hz2, hf2⟩
    refine ⟨_, ct_countThistles (X := X) (l := l) hz2, ?_⟩
    rintro v σ' ⟨rfl, rfl⟩
    exact ⟨by rw [he], I2, rfl, hsc.tr (hf2.sc (by simp))⟩
  refine fw_enter [24] 100 ok_X5_thistlesIfTrod ⟨_, wc_X5_thistlesIfTrod⟩ rfl rfl rfl ?_
  refine ⟨_, ct_copyFrom (X := X) (l := l) (d := 11) (s := 1) (by omega) (by omega) hl, ?_⟩
  rintro v σ' ⟨rfl, I1, rfl, hz1, hf1⟩
  have s1 := hf1.sc (by simp)
  refine zq_br (c := zo_I (s.1 9 0) p = -1) (d := ¬ p < s.1 9 0) (zo_eq1 hP) (fun g => ?_) (fun g => ?_)
  · exact fw_sub (fin s.1 I1 hz1 rfl (by simp [zh_tr, g]) s1) (by rfl) rfl
  · have g : p < s.1 9 0 := Decidable.not_not.mp g
    have c1 := ct_treadDown (X := X) (l := l) hz1 g
    rw [← zo_some g] at c1
    refine ⟨_, c1, ?_⟩
    rintro v σ' ⟨rfl, I2, rfl, hz2, hf2⟩
    exact fw_sub (fin _ I2 hz2 (by simp [zl_tr]) (by simp [zh_tr, g]) (s1.tr (hf2.sc (by simp)))) (by rfl) rfl
theorem ct_without (h : zc_at s I) {p n : Nat} (hp : p < s.1 9 0) (hn : n ≤ 99) : fw_Sem X l mX5_grownWithout [.ref 0, .int (nI p), .int (nI n)] (fw_sh, I) (fun r σ => r = some (.int (nI (zh_wo s.1 p n))) ∧ ∃ I', σ = (fw_sh, I') ∧ zk_sc I I') := by
  have hl := h.2.1
  have hd := h.1.1
  refine fw_enter [] 100 ok_X5_grownWithout ⟨_, wc_X5_grownWithout⟩ rfl rfl rfl ?_
  refine ⟨_, ct_copyFrom (X := X) (l := l) (d := 11) (s := 1) (by omega) (by omega) hl, ?_⟩
  rintro v σ' ⟨rfl, I1, rfl, hz1, hf1⟩
  have c1 := ct_settle (X := X) (l := l) hz1 p
  rw [zo_some hp] at c1
  refine ⟨_, c1, ?_⟩
  rintro v σ' ⟨rfl, I2, rfl, hz2, hf2⟩
  refine ⟨_, ct_passDays (X := X) (l := l) hz2 (N := n) (by omega) (by omega), ?_⟩
  rintro v σ' ⟨rfl, I3, rfl, hz3, hf3⟩
  refine ⟨_, ct_allGrown (X := X) (l := l) hz3, ?_⟩
  rintro v σ' ⟨rfl, rfl⟩
  exact ⟨rfl, I3, rfl, ((hf1.sc (by simp)).tr (hf2.sc (by simp))).tr (hf3.sc (by simp))⟩
theorem ct_turned (h : zc_at s I) {p q a b : Nat} (ha : a < 36) (hb : b < 36) (hpq : p ≠ q ∨ s.1 9 0 ≤ p ∨ s.1 9 0 ≤ q) : fw_Sem X l mX5_stepsIfTurned [.ref 0, .int (zo_I (s.1 9 0) p), .int (zo_I (s.1 9 0) q), .int (nI a), .int (nI b)] (fw_sh, I) (fun r σ => r = some (.int (nI (zh_tu s.1 p q a b))) ∧ ∃ I', σ = (fw_sh, I') ∧ zk_sc I I') := by
  have hl := h.2.1
  have hP := hl.2.1.1
  have fin : ∀ (L' : Nat → Nat → Nat) I1, zl_at 11 L' (zl_ow s.1 6) I1 → zh_tu s.1 p q a b = zb_far (zl_op L' (zl_ow s.1 6)) a b → zk_sc I I1 → fw_Go X l mX5_stepsIfTurned (fun r σ => r = some (.int (nI (zh_tu s.1 p q a b))) ∧ ∃ I', σ = (fw_sh, I') ∧ zk_sc I I') 37 0 0 [some (.ref 0), some (.int (zo_I (s.1 9 0) p)), some (.int (zo_I (s.1 9 0) q)), some (.int (nI a)), some (.int (nI b))] [] (fw_sh, I1) := by
    intro L' I1 hz he hsc
    refine fw_from [] 100 19 ok_X5_stepsIfTurned ⟨_, wc_X5_stepsIfTurned⟩ rfl ?_
    refine ⟨_, ct_fewest (X := X) (l := l) hz ha hb, ?_⟩
    rintro v σ' ⟨rfl, I2, rfl, hf2⟩
    exact ⟨by rw [he], I2, rfl, hsc.tr (hf2.sc (by simp))⟩
  have mid : ∀ I1, zl_at 11 (if p < s.1 9 0 then zl_to s.1 p else s.1) (zl_ow s.1 6) I1 → zk_sc I I1 → fw_Go X l mX5_stepsIfTurned (fun r σ => r = some (.int (nI (zh_tu s.1 p q a b))) ∧ ∃ I', σ = (fw_sh, I') ∧ zk_sc I I') 24 0 0 [some (.ref 0), some (.int (zo_I (s.1 9 0) p)), some (.int (zo_I (s.1 9 0) q)), some (.int (nI a)), some (.int (nI b))] [] (fw_sh, I1) := by
    intro I1 hz hsc
    refine fw_from [37] 100 12 ok_X5_stepsIfTurned ⟨_, wc_X5_stepsIfTurned⟩ rfl ?_
    refine zq_br (c := zo_I (s.1 9 0) q = -1) (d := ¬ q < s.1 9 0) (zo_eq1 hP) (fun g => ?_) (fun g => ?_)
    · exact fw_sub (fin _ I1 hz (by simp [zh_tu, g]) hsc) (by rfl) rfl
    · have g : q < s.1 9 0 := Decidable.not_not.mp g
      have e9 : (if p < s.1 9 0 then zl_to s.1 p else s.1) 9 0 = s.1 9 0 := by split <;> simp [zl_to]
      have c1 := ct_turnOver (X := X) (l := l) hz (p := q) (by rw [e9]; exact g)
      rw [← zo_some g] at c1
      refine ⟨_, c1, ?_⟩
      rintro v σ' ⟨rfl, I2, rfl, hz2, hf2⟩
      exact fw_sub (fin _ I2 hz2 (by simp [zh_tu, g]) (hsc.tr (hf2.sc (by simp)))) (by rfl) rfl
  refine fw_enter [24] 100 ok_X5_stepsIfTurned ⟨_, wc_X5_stepsIfTurned⟩ rfl rfl rfl ?_
  refine ⟨_, ct_copyFrom (X := X) (l := l) (d := 11) (s := 1) (by omega) (by omega) hl, ?_⟩
  rintro v σ' ⟨rfl, I1, rfl, hz1, hf1⟩
  have s1 := hf1.sc (by simp)
  refine zq_br (c := zo_I (s.1 9 0) p = -1) (d := ¬ p < s.1 9 0) (zo_eq1 hP) (fun g => ?_) (fun g => ?_)
  · exact fw_sub (mid I1 (by simpa [g] using hz1) s1) (by rfl) rfl
  · have g : p < s.1 9 0 := Decidable.not_not.mp g
    have c1 := ct_turnOver (X := X) (l := l) hz1 g
    rw [← zo_some g] at c1
    refine ⟨_, c1, ?_⟩
    rintro v σ' ⟨rfl, I2, rfl, hz2, hf2⟩
    exact fw_sub (mid I2 (by simpa [g] using hz2) (s1.tr (hf2.sc (by simp)))) (by rfl) rfl
theorem cs_edge (h : zc_at s I) (p : Int32) : zs_c X l mX5_edge [.ref 0, .int p] I (zo_edge s p) := by
  have hl := h.2.1
  have hP := hl.2.1.1
  have c1 := ct_hasPiece (X := X) (l := l) hl p
  refine fw_enter [21] 100 ok_X5_edge ⟨_, wc_X5_edge⟩ rfl rfl rfl ?_
  refine ⟨_, c1, ?_⟩
  rintro v σ' ⟨rfl, rfl⟩
  refine zq_brn (zi_eq0 _) (fun g => ?_) (fun g => ?_)
  · have g : zb_in p (s.1 9 0) = true := by simpa using g
    obtain ⟨q, hq, rfl⟩ := zb_in_of g (by omega)
    have ec := nI_clamp (n := q) (by omega)
    simp only [zo_edge, g, ec, if_true]
    have loop := zl_down (N := 36) (G := fun y => fw_Go X l mX5_edge (fun r σ => r = some (.int (nI (zm_s (fun y => if zl_ow s.1 6 y = q ∧ zl_edge (zl_ow s.1 6) y 4 = true then 1 else 0) 36))) ∧ ∃ I', σ = (fw_sh, I') ∧ zc_at s I' ∧ zf_hi I I') 21 0 0 [some (.ref 0), some (.int (nI q)), some (.int (nI (zm_s (fun y => if zl_ow s.1 6 y = q ∧ zl_edge (zl_ow s.1 6) y 4 = true then 1 else 0) y))), some (.int (nI y))] [] (fw_sh, I)) (by
      refine fw_from [21] 100 13 ok_X5_edge ⟨_, wc_X5_edge⟩ rfl ?_
      refine zq_le 36 36 rfl rfl (fun _ => ?_) (fun h => absurd h (by omega))
      exact ⟨rfl, I, rfl, h, zf_hi.rf⟩) (fun y hy ih => by
      refine fw_from [21] 100 13 ok_X5_edge ⟨_, wc_X5_edge⟩ rfl ?_
      refine zq_le 36 y rfl rfl (fun h => absurd h (by omega)) (fun _ => ?_)
      refine And.intro (fw_in1 y 36 hy) ?_
      refine zq_brn (c := I 3 _ = nI q) (d := zl_ow s.1 6 y = q) ?_ (fun k => ?_) (fun k => ?_)
      · rw [zq_rd (hl.2.2.2.1 y hy), zo_eqn hP hq]
      · exact fw_sub ih (by simp [zm_s, k, nI_1]) rfl
      refine ⟨_, ct_isAtEdge (X := X) (l := l) hl (fun y _ => zl_ow_le s.1 6 y) hy, ?_⟩
      rintro v σ' ⟨rfl, rfl⟩
      refine zq_br (zi_eq0 _) (fun k2 => ?_) (fun k2 => ?_)
      · exact fw_sub ih (by simp [zm_s, k, k2, nI_1]) rfl
      · exact fw_sub ih (by simp [zm_s, k, show zl_edge (zl_ow s.1 6) y 4 = true by simpa using k2, nI_1]) rfl)
    exact fw_sub (loop 0 (by omega)) (by rfl) rfl
  · simp only [zo_edge, g]
    exact ⟨_, ct_no (X := X) (l := l) h (c := 1) (by omega) (by omega), fun v σ' hq => by obtain ⟨rfl, I', rfl, h1, h2⟩ := hq; exact ⟨rfl, I', rfl, h1, h2⟩⟩
end zC6
