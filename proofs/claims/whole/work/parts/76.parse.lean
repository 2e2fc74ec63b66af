/-! The reference reads its letters. -/
def zy_rx (T : Nat → Nat) (n : Nat) (I : Nat → Nat → Int32) : Prop := I 38 15 = nI n ∧ (∀ j, j < n → I 46 j = nI (T j)) ∧ n ≤ 96 ∧ ∀ j, T j ≤ 255
def zqf (I I' : Nat → Nat → Int32) : Prop := ∀ a k, ¬ (47 ≤ a ∧ a ≤ 49) → ¬ (a = 38 ∧ (k = 16 ∨ k = 17)) → I' a k = I a k
theorem zqf.rf {I : Nat → Nat → Int32} : zqf I I := fun _ _ _ _ => rfl
theorem zqf.tr {I I' I'' : Nat → Nat → Int32} (h : zqf I I') (h2 : zqf I' I'') : zqf I I'' := fun a k h1 h3 => (h2 a k h1 h3).trans (h a k h1 h3)
theorem zy_rx.f {T : Nat → Nat} {n : Nat} {I I' : Nat → Nat → Int32} (h : zy_rx T n I) (hf : zqf I I') : zy_rx T n I' := ⟨by rw [hf 38 15 (by omega) (by omega)]; exact h.1, fun j hj => by rw [hf 46 j (by omega) (by omega)]; exact h.2.1 j hj, h.2.2⟩
def zy_V (T : Nat → Nat) (c : Nat) : Nat → Nat
  | 0 => 0
  | i + 1 => 10 * zy_V T c i + zy_d T (c + i)
def zy_H (T : Nat → Nat) (n a j : Nat) : Prop := a + 1 + j < n ∧ zy_ft (zy_fm (T a)) j (T (a + 1 + j)) = true
def zy_tn (T : Nat → Nat) (a : Nat) : Nat := if T a = 112 then 5 else if T a = 103 then 3 else 1
def zy_tv (T : Nat → Nat) (a j : Nat) : Nat :=
  if T a = 112 then (if j = 0 then zy_kd (T (a + 1)) else if j = 1 then zy_d T (a + 2) else if j = 2 then zy_n2 T (a + 3) else if j = 3 then zy_d T (a + 5) else zy_d T (a + 6))
  else if T a = 103 then (if j = 0 then zy_n2 T (a + 1) else if j = 1 then zy_n2 T (a + 3) else zy_d T (a + 5))
  else if T a = 100 then zy_n2 T (a + 1) else zy_d T (a + 1)
/-- what reading leaves: all N signs as they must be, or the place of the first that isn't -/
def zy_R (T : Nat → Nat) (n a p N tn : Nat) (I : Nat → Nat → Int32) (r : Option Value) (σ : fw_St) : Prop := ∃ I', σ = (fw_sh, I') ∧ (∀ u k, ¬ (u = 49 ∧ p ≤ k ∧ k < p + 5) → ¬ (u = 38 ∧ k = 16) → I' u k = I u k) ∧ ((r = some (.int 1) ∧ (∀ j, j < N → zy_H T n a j) ∧ I' 38 16 = nI (a + 1 + N) ∧ ∀ j, j < tn → I' 49 (p + j) = nI (zy_tv T a j)) ∨ (r = some (.int 0) ∧ ∃ e, e < N ∧ (∀ j, j < e → zy_H T n a j) ∧ ¬ zy_H T n a e ∧ I' 38 16 = nI (a + 1 + e)))
section zR17
variable {X : Nat × (Nat → Int32)} {l : Launch} {I : Nat → Nat → Int32} {s : zS} {T : Nat → Nat} {n : Nat}
theorem rt_next (h : zy_rx T n I) {c : Nat} (hc : I 38 16 = nI c) (hc2 : c ≤ 1000) : zs_p X l mX6_next [.ref 38] I (if c < n then nI (T c) else -1) := by
  have hn := h.2.2.1
  refine fw_enter [] 100 ok_X6_next ⟨_, wc_X6_next⟩ rfl rfl rfl ?_
  refine zq_le n c h.1 hc (fun k => ?_) (fun k => ?_)
  · exact ⟨zr_e (by rw [if_neg (by omega)]), rfl⟩
  · refine And.intro (fw_in1 c 96 (by omega) hc) ?_
    refine ⟨zr_e ?_, rfl⟩
    show I 46 (I 38 16).toNatClampNeg = _
    rw [hc, nI_clamp (by omega), if_pos k]; exact h.2.1 c k
theorem rt_isDg (h : zy_rx T n I) (c : Nat) : zs_p X l mX6_isIn [.int (if c < n then nI (T c) else -1), .int 48, .int 57] I (zi (decide (c < n ∧ 48 ≤ T c ∧ T c ≤ 57))) := by
  have c1 := rt_isIn (X := X) (l := l) (I := I) (if c < n then nI (T c) else -1) 48 57
  have e : decide ((48 : Int32).toInt ≤ (if c < n then nI (T c) else -1 : Int32).toInt ∧ (if c < n then nI (T c) else -1 : Int32).toInt ≤ (57 : Int32).toInt) = decide (c < n ∧ 48 ≤ T c ∧ T c ≤ 57) := by
    have e48 : (48 : Int32).toInt = 48 := rfl
    have e57 : (57 : Int32).toInt = 57 := rfl
    have em : (-1 : Int32).toInt = -1 := rfl
    have h255 := h.2.2.2 c
    rw [e48, e57]
    by_cases hc : c < n
    · simp only [hc, if_true, true_and, nI_toInt (show T c < 2 ^ 31 by omega)]
      by_cases q : 48 ≤ T c ∧ T c ≤ 57
      · rw [decide_eq_true (by omega), decide_eq_true q]
      · rw [decide_eq_false (by omega), decide_eq_false q]
    · simp only [hc, if_false, false_and, em]
      decide
  rw [e] at c1
  exact c1
theorem rt_reads (h : zy_rx T n I) {c p D : Nat} (hD : D = 1 ∨ D = 2) (hc : I 38 16 = nI c) (hc2 : c ≤ 200) (hp : p < 240) : fw_Sem X l mX6_readsDigits [.ref 38, .int (nI p), .int (nI D)] (fw_sh, I) (fun r σ => ∃ I', σ = (fw_sh, I') ∧ (∀ a k, ¬ (a = 49 ∧ k = p) → ¬ (a = 38 ∧ k = 16) → I' a k = I a k) ∧ ((r = some (.int 1) ∧ (∀ i, i < D → zy_dg T n (c + i)) ∧ I' 38 16 = nI (c + D) ∧ I' 49 p = nI (zy_V T c D)) ∨ (r = some (.int 0) ∧ ∃ e, e < D ∧ (∀ i, i < e → zy_dg T n (c + i)) ∧ ¬ zy_dg T n (c + e) ∧ I' 38 16 = nI (c + e)))) := by
  have loop := zl_down (N := D) (G := fun i => ∀ I1, (∀ a k, ¬ (a = 38 ∧ k = 16) → I1 a k = I a k) → I1 38 16 = nI (c + i) → (∀ j, j < i → zy_dg T n (c + j)) → fw_Go X l mX6_readsDigits (fun r σ => ∃ I', σ = (fw_sh, I') ∧ (∀ a k, ¬ (a = 49 ∧ k = p) → ¬ (a = 38 ∧ k = 16) → I' a k = I a k) ∧ ((r = some (.int 1) ∧ (∀ i, i < D → zy_dg T n (c + i)) ∧ I' 38 16 = nI (c + D) ∧ I' 49 p = nI (zy_V T c D)) ∨ (r = some (.int 0) ∧ ∃ e, e < D ∧ (∀ i, i < e → zy_dg T n (c + i)) ∧ ¬ zy_dg T n (c + e) ∧ I' 38 16 = nI (c + e)))) 5 0 0 [some (.ref 38), some (.int (nI p)), some (.int (nI D)), some (.int (nI (zy_V T c i))), some (.int (nI i))] [] (fw_sh, I1)) (by
    intro I1 hf h16 hj
    refine fw_from [5] 100 4 ok_X6_readsDigits ⟨_, wc_X6_readsDigits⟩ rfl ?_
    refine zq_le D D rfl rfl (fun _ => ?_) (fun z => absurd z (by omega))
    refine And.intro (fw_in1 p 240 hp) ?_
    refine ⟨by decide, fw_up I1 49 p (nI (zy_V T c D)), by rw [nI_clamp (by omega)], fun a k h1 h2 => ?_, Or.inl ⟨rfl, hj, ?_, fw_up_at⟩⟩
    · rw [fw_up_p a k (by omega)]; exact hf a k h2
    · rw [fw_up_ne 38 (by omega)]; exact h16) (fun i hi ih => by
    intro I1 hf h16 hj
    have h1 : zy_rx T n I1 := ⟨by rw [hf 38 15 (by omega)]; exact h.1, fun j hj => by rw [hf 46 j (by omega)]; exact h.2.1 j hj, h.2.2⟩
    have cn := rt_next (X := X) (l := l) h1 h16 (by omega)
    refine fw_from [5] 100 4 ok_X6_readsDigits ⟨_, wc_X6_readsDigits⟩ rfl ?_
    refine zq_le D i rfl rfl (fun z => absurd z (by omega)) (fun _ => ?_)
    refine ⟨_, cn, ?_⟩
    rintro v σ' ⟨rfl, rfl⟩
    refine ⟨_, rt_isDg (X := X) (l := l) h1 (c + i), ?_⟩
    rintro v σ' ⟨rfl, rfl⟩
    refine zq_brn (zi_eq0 _) (fun g => ?_) (fun g => ?_)
    · have g : c + i < n ∧ 48 ≤ T (c + i) ∧ T (c + i) ≤ 57 := by simpa using g
      refine ⟨_, cn, ?_⟩
      rintro v σ' ⟨rfl, rfl⟩
      rw [if_pos g.1]
      refine fw_sub (ih (fw_up I1 38 16 (nI (c + i + 1))) (fun a k h2 => by rw [fw_up_p a k (by omega)]; exact hf a k h2) fw_up_at (fun j hj2 => ?_)) ?_ ?_
      · by_cases e : j = i
        · subst e; exact g
        · exact hj j (by omega)
      · rw [show (10 : Int32) = nI 10 from rfl, pk_mul, nI_add, show (48 : Int32) = nI 48 from rfl, zn_sub (by omega), nI_1]
        simp only [zy_V, zy_d]
        rw [show 10 * zy_V T c i + T (c + i) - 48 = 10 * zy_V T c i + (T (c + i) - 48) by omega]
      · dsimp only; rw [h16, nI_1]
    · have g : ¬ (c + i < n ∧ 48 ≤ T (c + i) ∧ T (c + i) ≤ 57) := by simpa using g
      exact ⟨by decide, I1, rfl, fun a k _ h2 => hf a k h2, Or.inr ⟨rfl, i, hi, hj, g, h16⟩⟩)
  refine fw_enter [5] 100 ok_X6_readsDigits ⟨_, wc_X6_readsDigits⟩ rfl rfl rfl ?_
  exact fw_sub (loop 0 (by omega) I (fun _ _ _ => rfl) hc (fun j hj => absurd hj (by omega))) (by rfl) rfl
theorem zy_H_dg {a j : Nat} (hs : zy_sg (zy_fm (T a)) j = 100) : zy_H T n a j ↔ zy_dg T n (a + 1 + j) := by
  unfold zy_H zy_dg zy_ft
  rw [if_neg (by omega), if_pos hs, decide_eq_true_iff]
/-- a block of digits within a statement -/
theorem rt_blk (h : zy_rx T n I) {a i p D : Nat} (hD : D = 1 ∨ D = 2) (hsg : ∀ j, i ≤ j → j < i + D → zy_sg (zy_fm (T a)) j = 100) (hH : ∀ j, j < i → zy_H T n a j) (hc : I 38 16 = nI (a + 1 + i)) (hc2 : a + i ≤ 150) (hp : p < 240) : fw_Sem X l mX6_readsDigits [.ref 38, .int (nI p), .int (nI D)] (fw_sh, I) (fun r σ => ∃ I', σ = (fw_sh, I') ∧ (∀ u k, ¬ (u = 49 ∧ k = p) → ¬ (u = 38 ∧ k = 16) → I' u k = I u k) ∧ ((r = some (.int 1) ∧ (∀ j, j < i + D → zy_H T n a j) ∧ I' 38 16 = nI (a + 1 + (i + D)) ∧ I' 49 p = nI (zy_V T (a + 1 + i) D)) ∨ (r = some (.int 0) ∧ ∃ e, e < i + D ∧ (∀ j, j < e → zy_H T n a j) ∧ ¬ zy_H T n a e ∧ I' 38 16 = nI (a + 1 + e)))) := by
  refine fw_mono (rt_reads (X := X) (l := l) h hD hc (by omega) hp) ?_
  rintro v σ' ⟨I', rfl, hf, h2⟩
  have ext : ∀ e, e ≤ D → (∀ k, k < e → zy_dg T n (a + 1 + i + k)) → ∀ j, j < i + e → zy_H T n a j := fun e he hk j hj => by
    by_cases hji : j < i
    · exact hH j hji
    · rw [zy_H_dg (hsg j (by omega) (by omega))]
      have := hk (j - i) (by omega)
      rw [show a + 1 + i + (j - i) = a + 1 + j by omega] at this
      exact this
  refine ⟨I', rfl, hf, ?_⟩
  rcases h2 with ⟨r1, r2, r3, r4⟩ | ⟨r1, e, e1, e2, e3, e4⟩
  · exact Or.inl ⟨r1, ext D (Nat.le_refl _) r2, by rw [r3, Nat.add_assoc (a + 1)], r4⟩
  · refine Or.inr ⟨r1, i + e, by omega, ext e (by omega) e2, ?_, by rw [e4, Nat.add_assoc (a + 1)]⟩
    rw [zy_H_dg (hsg (i + e) (by omega) (by omega)), ← Nat.add_assoc]; exact e3
theorem zy_V1 (c : Nat) : zy_V T c 1 = zy_d T c := by simp [zy_V]
theorem zy_V2 (c : Nat) : zy_V T c 2 = zy_n2 T c := by simp [zy_V, zy_n2]
theorem rt_kindOf {c : Nat} (hc : c ≤ 255) : zs_p X l mX6_kindOf [.int (nI c)] I (zy_kI c) := by
  refine fw_enter [] 100 ok_X6_kindOf ⟨_, wc_X6_kindOf⟩ rfl rfl rfl ?_
  refine zq_ne c 112 rfl rfl (fun k1 => ?_) (fun k => ⟨zr_e (by simp [zy_kI, zy_kd, k]; rfl), rfl⟩)
  refine zq_ne c 116 rfl rfl (fun k2 => ?_) (fun k => ⟨zr_e (by simp [zy_kI, zy_kd, k]; rfl), rfl⟩)
  refine zq_ne c 109 rfl rfl (fun k3 => ?_) (fun k => ⟨zr_e (by simp [zy_kI, zy_kd, k]; rfl), rfl⟩)
  refine zq_ne c 99 rfl rfl (fun k4 => ?_) (fun k => ⟨zr_e (by simp [zy_kI, zy_kd, k]; rfl), rfl⟩)
  refine zq_ne c 102 rfl rfl (fun k5 => ?_) (fun k => ⟨zr_e (by simp [zy_kI, zy_kd, k]; rfl), rfl⟩)
  refine zq_ne c 104 rfl rfl (fun k6 => ?_) (fun k => ⟨zr_e (by simp [zy_kI, zy_kd, k]; rfl), rfl⟩)
  exact ⟨zr_e (by simp [zy_kI, zy_kd, k1, k2, k3, k4, k5, k6]), rfl⟩
theorem rt_kindM : zs_p X l mX6_kindOf [.int (-1)] I (-1) := by
  refine fw_enter [] 100 ok_X6_kindOf ⟨_, wc_X6_kindOf⟩ rfl rfl rfl ?_
  refine And.intro (fun _ => ?_) (fun z => absurd z (by decide))
  refine And.intro (fun _ => ?_) (fun z => absurd z (by decide))
  refine And.intro (fun _ => ?_) (fun z => absurd z (by decide))
  refine And.intro (fun _ => ?_) (fun z => absurd z (by decide))
  refine And.intro (fun _ => ?_) (fun z => absurd z (by decide))
  refine And.intro (fun _ => ?_) (fun z => absurd z (by decide))
  exact ⟨rfl, rfl⟩
theorem rt_rdPiece (h : zy_rx T n I) {a p : Nat} (hT : T a = 112) (hc : I 38 16 = nI (a + 1)) (ha : a ≤ 100) (hp : p + 5 ≤ 240) : fw_Sem X l mX6_readsPiece [.ref 38, .int (nI p)] (fw_sh, I) (zy_R T n a p 6 5 I) := by
  have hn := h.2.2.1
  have f1 : zy_fm (T a) = 1 := by rw [hT]; rfl
  have sg : ∀ j, 1 ≤ j → j < 6 → zy_sg (zy_fm (T a)) j = 100 := by
    rw [f1]
    have : ∀ j, j < 6 → 1 ≤ j → zy_sg 1 j = 100 := by decide
    exact fun j h1 h2 => this j h2 h1
  have H0 : zy_H T n a 0 ↔ a + 1 < n ∧ zy_kd (T (a + 1)) < 6 := by
    unfold zy_H zy_ft
    rw [f1, if_pos (by decide), decide_eq_true_iff]
  have tv : ∀ j, zy_tv T a j = if j = 0 then zy_kd (T (a + 1)) else if j = 1 then zy_d T (a + 2) else if j = 2 then zy_n2 T (a + 3) else if j = 3 then zy_d T (a + 5) else zy_d T (a + 6) := fun j => by unfold zy_tv; rw [if_pos hT]
  have ck : ∃ v : Int32, (v < 0 ↔ ¬ zy_H T n a 0) ∧ (zy_H T n a 0 → v = nI (zy_kd (T (a + 1)))) ∧ zs_p X l mX6_kindOf [.int (if a + 1 < n then nI (T (a + 1)) else -1)] I v := by
    by_cases hlt : a + 1 < n
    · rw [if_pos hlt]
      refine ⟨zy_kI (T (a + 1)), ?_, fun z => ?_, rt_kindOf (h.2.2.2 _)⟩
      · rw [zy_kI0, H0]; exact ⟨fun z q => z q.2, fun z q => z ⟨hlt, q⟩⟩
      · unfold zy_kI; rw [if_pos (H0.mp z).2]
    · rw [if_neg hlt]
      exact ⟨-1, ⟨fun _ z => hlt (H0.mp z).1, fun _ => by decide⟩, fun z => absurd (H0.mp z).1 hlt, rt_kindM⟩
  obtain ⟨v, v1, v2, ck⟩ := ck
  refine fw_enter [] 100 ok_X6_readsPiece ⟨_, wc_X6_readsPiece⟩ rfl rfl rfl ?_
  refine ⟨_, rt_next (X := X) (l := l) h hc (by omega), ?_⟩
  rintro v' σ' ⟨rfl, rfl⟩
  refine ⟨_, ck, ?_⟩
  rintro v' σ' ⟨rfl, rfl⟩
  refine And.intro (fw_in1 p 240 (by omega)) ?_
  refine And.intro (fw_in1 p 240 (by omega)) ?_
  have ec := nI_clamp (n := p) (by omega)
  refine zq_br (c := 0 ≤ fw_up I 49 (nI p).toNatClampNeg v 49 (nI p).toNatClampNeg) (d := zy_H T n a 0) ?_ (fun g => ?_) (fun g => ?_)
  · rw [fw_up_at, ← Int32.not_lt, v1]; exact Classical.not_not
  · have ev := v2 g
    obtain ⟨I1, hI1⟩ : ∃ I1, I1 = fw_up (fw_up I 49 (nI p).toNatClampNeg v) 38 16 (fw_up I 49 (nI p).toNatClampNeg v 38 16 + 1) := ⟨_, rfl⟩
    have g16 : I1 38 16 = nI (a + 1 + 1) := by rw [hI1, fw_up_at, fw_up_ne 38 (by omega), hc, nI_1]
    have g49 : I1 49 p = nI (zy_kd (T (a + 1))) := by rw [hI1, fw_up_ne 49 (by omega), ec, fw_up_at, ev]
    have gf : ∀ u k, ¬ (u = 49 ∧ k = p) → ¬ (u = 38 ∧ k = 16) → I1 u k = I u k := fun u k h1 h2 => by
      rw [hI1, ec, fw_up_p u k (by omega), fw_up_p u k (by omega)]
    have mk : ∀ J J' : Nat → Nat → Int32, (∀ u k, ¬ (u = 49 ∧ p ≤ k ∧ k < p + 5) → ¬ (u = 38 ∧ k = 16) → J u k = I u k) → ∀ q, p ≤ q → q < p + 5 → (∀ u k, ¬ (u = 49 ∧ k = q) → ¬ (u = 38 ∧ k = 16) → J' u k = J u k) → (∀ u k, ¬ (u = 49 ∧ p ≤ k ∧ k < p + 5) → ¬ (u = 38 ∧ k = 16) → J' u k = I u k) := fun J J' hJ q q1 q2 hJ' u k h1 h2 => by rw [hJ' u k (by omega) h2]; exact hJ u k h1 h2
    have rx : ∀ J : Nat → Nat → Int32, (∀ u k, ¬ (u = 49 ∧ p ≤ k ∧ k < p + 5) → ¬ (u = 38 ∧ k = 16) → J u k = I u k) → zy_rx T n J := fun J hJ => ⟨by rw [hJ 38 15 (by omega) (by omega)]; exact h.1, fun j hj => by rw [hJ 46 j (by omega) (by omega)]; exact h.2.1 j hj, h.2.2⟩
    have F1 : ∀ u k, ¬ (u = 49 ∧ p ≤ k ∧ k < p + 5) → ¬ (u = 38 ∧ k = 16) → I1 u k = I u k := fun u k h1 h2 => gf u k (by omega) h2
    have c1 := rt_blk (X := X) (l := l) (rx I1 F1) (a := a) (i := 1) (p := p + 1) (D := 1) (Or.inl rfl) (fun j h1 h2 => sg j h1 (by omega)) (fun j hj => by rw [show j = 0 by omega]; exact g) g16 (by omega) (by omega)
    rw [← nI_1, hI1] at c1
    refine ⟨_, c1, ?_⟩
    rw [← hI1]
    rintro v' σ' ⟨I2, rfl, F2, (⟨rfl, a1, a2, a3⟩ | ⟨rfl, e, e1, e2, e3, e4⟩)⟩
    rotate_left
    · refine And.intro (fun _ => ?_) (fun z => absurd rfl z)
      exact ⟨by decide, I2, rfl, mk I1 I2 F1 (p + 1) (by omega) (by omega) F2, Or.inr ⟨rfl, e, by omega, e2, e3, e4⟩⟩
    refine And.intro (fun z => absurd z (by decide)) (fun _ => ?_)
    have F2' := mk I1 I2 F1 (p + 1) (by omega) (by omega) F2
    have c2 := rt_blk (X := X) (l := l) (rx I2 F2') (a := a) (i := 2) (p := p + 2) (D := 2) (Or.inr rfl) (fun j h1 h2 => sg j (by omega) (by omega)) a1 a2 (by omega) (by omega)
    rw [← nI_add] at c2
    refine ⟨_, c2, ?_⟩
    rintro v' σ' ⟨I3, rfl, F3, (⟨rfl, b1, b2, b3⟩ | ⟨rfl, e, e1, e2, e3, e4⟩)⟩
    rotate_left
    · refine And.intro (fun _ => ?_) (fun z => absurd rfl z)
      exact ⟨by decide, I3, rfl, mk I2 I3 F2' (p + 2) (by omega) (by omega) F3, Or.inr ⟨rfl, e, by omega, e2, e3, e4⟩⟩
    refine And.intro (fun z => absurd z (by decide)) (fun _ => ?_)
    have F3' := mk I2 I3 F2' (p + 2) (by omega) (by omega) F3
    have c3 := rt_blk (X := X) (l := l) (rx I3 F3') (a := a) (i := 4) (p := p + 3) (D := 1) (Or.inl rfl) (fun j h1 h2 => sg j (by omega) (by omega)) b1 b2 (by omega) (by omega)
    rw [← nI_add] at c3
    refine ⟨_, c3, ?_⟩
    rintro v' σ' ⟨I4, rfl, F4, (⟨rfl, d1, d2, d3⟩ | ⟨rfl, e, e1, e2, e3, e4⟩)⟩
    rotate_left
    · refine And.intro (fun _ => ?_) (fun z => absurd rfl z)
      exact ⟨by decide, I4, rfl, mk I3 I4 F3' (p + 3) (by omega) (by omega) F4, Or.inr ⟨rfl, e, by omega, e2, e3, e4⟩⟩
    refine And.intro (fun z => absurd z (by decide)) (fun _ => ?_)
    have F4' := mk I3 I4 F3' (p + 3) (by omega) (by omega) F4
    have c4 := rt_blk (X := X) (l := l) (rx I4 F4') (a := a) (i := 5) (p := p + 4) (D := 1) (Or.inl rfl) (fun j h1 h2 => sg j (by omega) (by omega)) d1 d2 (by omega) (by omega)
    rw [← nI_add] at c4
    refine ⟨_, c4, ?_⟩
    rintro v' σ' ⟨I5, rfl, F5, (⟨rfl, g1, g2, g3⟩ | ⟨rfl, e, e1, e2, e3, e4⟩)⟩
    rotate_left
    · refine And.intro (fun _ => ?_) (fun z => absurd rfl z)
      exact ⟨by decide, I5, rfl, mk I4 I5 F4' (p + 4) (by omega) (by omega) F5, Or.inr ⟨rfl, e, by omega, e2, e3, e4⟩⟩
    refine And.intro (fun z => absurd z (by decide)) (fun _ => ?_)
    refine ⟨by decide, I5, rfl, mk I4 I5 F4' (p + 4) (by omega) (by omega) F5, Or.inl ⟨rfl, g1, g2, fun j hj => ?_⟩⟩
    rw [tv]
    rcases (show j = 0 ∨ j = 1 ∨ j = 2 ∨ j = 3 ∨ j = 4 by omega) with rfl | rfl | rfl | rfl | rfl
    · rw [F5 49 _ (by omega) (by omega), F4 49 _ (by omega) (by omega), F3 49 _ (by omega) (by omega), F2 49 _ (by omega) (by omega)]
      exact g49
    · rw [F5 49 _ (by omega) (by omega), F4 49 _ (by omega) (by omega), F3 49 _ (by omega) (by omega), a3, zy_V1]; rfl
    · rw [F5 49 _ (by omega) (by omega), F4 49 _ (by omega) (by omega), b3, zy_V2]; rfl
    · rw [F5 49 _ (by omega) (by omega), d3, zy_V1]; rfl
    · rw [g3, zy_V1]; rfl
  · refine ⟨by decide, _, rfl, fun u k h1 h2 => by rw [ec, fw_up_p u k (by omega)], Or.inr ⟨rfl, 0, by omega, fun j hj => absurd hj (by omega), g, ?_⟩⟩
    rw [fw_up_ne 38 (by omega)]; exact hc
end zR17
