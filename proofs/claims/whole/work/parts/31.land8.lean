/-- the yard beside, 36 if there is none: up, left, right, down -/
def zl_be (y w : Nat) : Nat := if w = 0 then (if 6 ≤ y then y - 6 else 36) else if w = 1 then (if 0 < y % 6 then y - 1 else 36) else if w = 2 then (if y % 6 < 5 then y + 1 else 36) else (if y + 6 < 36 then y + 6 else 36)
theorem zl_be_lt {y w : Nat} (hy : y < 36) : zl_be y w ≤ 36 := by
  unfold zl_be
  repeat' split
  all_goals omega
def zl_ovl (L : Nat → Nat → Nat) (a b : Nat) : Nat → Bool
  | 0 => false
  | n + 1 => zl_ovl L a b n || (zl_cov L a n && zl_cov L b n)
/-- the next piece by turns: from piece q on, k looked at -/
def zl_nl (L : Nat → Nat → Nat) : Nat → Nat → Option Nat
  | 0, _ => none
  | k + 1, q => if L 7 q = 0 then some q else zl_nl L k (if q + 1 < L 9 0 then q + 1 else 0)
def zl_nx (P : Nat) : Option Nat → Nat
  | some z => if z + 1 < P then z + 1 else 0
  | none => 0
def zn_I (o : Option Nat) : Int32 := match o with
  | some q => nI q
  | none => -1
def zl_edge (ow : Nat → Nat) (y : Nat) : Nat → Bool
  | 0 => false
  | n + 1 => zl_edge ow y n || (decide (zl_be y n < 36) && !(decide (ow (zl_be y n) = ow y)))
section zJ
variable {X : Nat × (Nat → Int32)} {l : Launch} {I : Nat → Nat → Int32} {d : Nat} {L : Nat → Nat → Nat} {ow : Nat → Nat}
theorem ct_beside {y w : Nat} (hy : y < 36) (hw : w < 4) : zs_p X l mX4_beside [.int (nI y), .int (nI w)] I (zo_I 36 (zl_be y w)) := by
  have yr : nI y - nI y / 6 * 6 = nI (y % 6) := pk_rem (d := 6) (by omega) (by omega) (by omega)
  refine fw_enter [] 100 ok_X4_beside ⟨_, wc_X4_beside⟩ rfl rfl rfl ?_
  refine zq_eq w 0 rfl rfl (fun h => ?_) (fun g0 => ?_)
  · subst h
    refine zq_lt y 6 rfl rfl (fun g => ?_) (fun g => ?_)
    · exact ⟨zr_e (by simp [zl_be, show ¬ 6 ≤ y by omega, zo_none]), rfl⟩
    · exact ⟨zr_e (by rw [show (6 : Int32) = nI 6 from rfl, pk_sub g]; simp [zl_be, g, zo_some (show y - 6 < 36 by omega)]), rfl⟩
  refine zq_eq w 1 rfl rfl (fun h => ?_) (fun g1 => ?_)
  · subst h
    refine And.intro (by decide) ?_
    refine zq_le (y % 6) 0 yr rfl (fun g => ?_) (fun g => ?_)
    · exact ⟨zr_e (by simp [zl_be, show ¬ 0 < y % 6 by omega, zo_none]), rfl⟩
    · exact ⟨zr_e (by rw [show (1 : Int32) = nI 1 from rfl, pk_sub (by omega)]; simp [zl_be, g, zo_some (show y - 1 < 36 by omega)]), rfl⟩
  refine zq_eq w 2 rfl rfl (fun h => ?_) (fun g2 => ?_)
  · subst h
    refine And.intro (by decide) ?_
    refine zq_le 5 (y % 6) rfl yr (fun g => ?_) (fun g => ?_)
    · exact ⟨zr_e (by simp [zl_be, show ¬ y % 6 < 5 by omega, zo_none]), rfl⟩
    · exact ⟨zr_e (by rw [nI_1]; simp [zl_be, g, zo_some (show y + 1 < 36 by omega)]), rfl⟩
  have e3 : w = 3 := by omega
  subst e3
  refine zq_le 36 (y + 6) rfl ?_ (fun g => ?_) (fun g => ?_)
  · exact nI_add y 6
  · exact ⟨zr_e (by simp [zl_be, show ¬ y + 6 < 36 by omega, zo_none]), rfl⟩
  · exact ⟨zr_e (by rw [show (6 : Int32) = nI 6 from rfl, nI_add]; simp [zl_be, g, zo_some g]), rfl⟩
theorem ct_overlap (h : zl_at d L ow I) {a b : Nat} (ha : a < L 9 0) (hb : b < L 9 0) : zs_p X l mX1_overlap [.ref d, .int (nI a), .int (nI b)] I (zi (zl_ovl L a b 36)) := by
  have loop := zl_down (N := 36) (G := fun y => (zl_ovl L a b y = false) → fw_Go X l mX1_overlap (fun r σ => r = some (.int (zi (zl_ovl L a b 36))) ∧ σ = (fw_sh, I)) 2 0 0 [some (.ref d), some (.int (nI a)), some (.int (nI b)), some (.int (nI y))] [] (fw_sh, I)) (by
    intro hn
    refine fw_from [2] 100 2 ok_X1_overlap ⟨_, wc_X1_overlap⟩ rfl ?_
    refine zq_le 36 36 rfl rfl (fun _ => ?_) (fun h => absurd h (by omega))
    exact ⟨by decide, by rw [hn]; rfl, rfl⟩) (fun y hy ih => by
    intro hn
    have c1 := ct_covers (X := X) (l := l) h ha hy
    have c2 := ct_covers (X := X) (l := l) h hb hy
    have mono : ∀ n m, n ≤ m → zl_ovl L a b n = true → zl_ovl L a b m = true := by
      intro n m hnm hh
      induction m with
      | zero => have : n = 0 := by omega
                subst this; exact hh
      | succ m ihm =>
        by_cases e : n = m + 1
        · subst e; exact hh
        · simp [zl_ovl, ihm (by omega)]
    refine fw_from [2] 100 2 ok_X1_overlap ⟨_, wc_X1_overlap⟩ rfl ?_
    refine zq_le 36 y rfl rfl (fun h => absurd h (by omega)) (fun _ => ?_)
    rcases h.1 with rfl | rfl | rfl <;>
    · refine ⟨_, c1, ?_⟩
      rintro v σ' ⟨rfl, rfl⟩
      refine zq_br (zi_eq0 _) (fun g => ?_) (fun g => ?_)
      · exact fw_sub (ih (by simp [zl_ovl, hn, g])) (by simp only [nI_1]) rfl
      refine ⟨_, c2, ?_⟩
      rintro v σ' ⟨rfl, rfl⟩
      refine zq_br (zi_eq0 _) (fun g2 => ?_) (fun g2 => ?_)
      · exact fw_sub (ih (by simp [zl_ovl, hn, g2])) (by simp only [nI_1]) rfl
      · have e : zl_ovl L a b 36 = true := mono (y + 1) 36 (by omega) (by simp [zl_ovl, show zl_cov L a y = true by simpa using g, show zl_cov L b y = true by simpa using g2])
        exact ⟨by decide, by rw [e]; rfl, rfl⟩)
  refine fw_enter [2] 100 ok_X1_overlap ⟨_, wc_X1_overlap⟩ rfl rfl rfl ?_
  exact loop 0 (by omega) rfl
theorem ct_laidOut (h : zl_at d L ow I) {q : Option Nat} (hq : ∀ z, q = some z → z < L 9 0) : zs_p X l mX1_laidOutAfter [.ref d, .int (zn_I q)] I (zn_I (zl_nl L (L 9 0) (zl_nx (L 9 0) q))) := by
  obtain ⟨hd, hw, h0, h1, h2, h3, h4, h5⟩ := id h
  have hP := hw.1
  have loop := zl_down (N := L 9 0) (G := fun t => ∀ q : Option Nat, (∀ z, q = some z → z < L 9 0) → ∀ v1 : Int32, fw_Go X l mX1_laidOutAfter (fun r σ => r = some (.int (zn_I (zl_nl L (L 9 0 - t) (zl_nx (L 9 0) q)))) ∧ σ = (fw_sh, I)) 4 0 0 [some (.ref d), some (.int v1), some (.int (zn_I q)), some (.int (nI t))] [] (fw_sh, I)) (by
    intro q hq v1
    refine fw_from [4] 100 4 ok_X1_laidOutAfter ⟨_, wc_X1_laidOutAfter⟩ rfl ?_
    rcases hd with rfl | rfl | rfl <;>
    · refine zq_le (L 9 0) (L 9 0) h3 rfl (fun _ => ?_) (fun h => absurd h (by omega))
      exact ⟨by simp [zl_nl]; rfl, rfl⟩) (fun t ht ih => by
    intro q hq v1
    have mid : ∀ z, z < L 9 0 → fw_Go X l mX1_laidOutAfter (fun r σ => r = some (.int (zn_I (zl_nl L (L 9 0 - t) z))) ∧ σ = (fw_sh, I)) 30 0 0 [some (.ref d), some (.int v1), some (.int (nI z)), some (.int (nI t))] [] (fw_sh, I) := by
      intro z hz
      have w := hw.2.2.2 z hz
      have hs : L 9 0 - t = (L 9 0 - (t + 1)) + 1 := by omega
      have e := ih (some z) (fun y hy => by cases hy; exact hz) v1
      refine fw_from [4] 100 20 ok_X1_laidOutAfter ⟨_, wc_X1_laidOutAfter⟩ rfl ?_
      rcases hd with rfl | rfl | rfl <;>
      · refine And.intro (fw_in1 z 6 (by omega)) ?_
        refine zq_ne (L 7 z) 0 (zq_rd (h2 7 (by omega) (by omega) z hz)) rfl (fun g => ?_) (fun g => ?_)
        · rw [hs]
          simp only [zl_nl, g, if_false]
          exact fw_sub e (by simp only [nI_1, zn_I]) rfl
        · exact ⟨by rw [hs]; simp [zl_nl, g, zn_I], rfl⟩
    refine fw_from [4, 30] 100 4 ok_X1_laidOutAfter ⟨_, wc_X1_laidOutAfter⟩ rfl ?_
    cases q with
    | none =>
      have e := mid 0 (by omega)
      rcases hd with rfl | rfl | rfl <;>
      · refine zq_le (L 9 0) t h3 rfl (fun h => absurd h (by omega)) (fun _ => ?_)
        refine zq_le (L 9 0) 0 h3 (by decide) (fun h => absurd h (by omega)) (fun _ => ?_)
        exact fw_sub e (by rfl) rfl
    | some z =>
      have hz := hq z rfl
      have e0 := mid 0 (by omega)
      have e1 := fun hh => mid (z + 1) hh
      rcases hd with rfl | rfl | rfl <;>
      · refine zq_le (L 9 0) t h3 rfl (fun h => absurd h (by omega)) (fun _ => ?_)
        refine zq_le (L 9 0) (z + 1) h3 (nI_1 z) (fun g => ?_) (fun g => ?_)
        · simp only [zl_nx, show ¬ z + 1 < L 9 0 by omega, if_false]
          exact fw_sub e0 (by rfl) rfl
        · simp only [zl_nx, show z + 1 < L 9 0 by omega, if_true]
          exact fw_sub (e1 g) (by simp only [zn_I, nI_1]) rfl)
  refine fw_enter [4] 100 ok_X1_laidOutAfter ⟨_, wc_X1_laidOutAfter⟩ rfl rfl rfl ?_
  have e := loop 0 (by omega) q hq (zn_I q)
  rw [Nat.sub_zero] at e
  exact fw_sub e (by rfl) rfl
theorem ct_isAtEdge (h : zl_at d L ow I) (how : ∀ y, y < 36 → ow y ≤ L 9 0) {y : Nat} (hy : y < 36) : zs_p X l mX1_isAtEdge [.ref d, .int (nI y)] I (zi (zl_edge ow y 4)) := by
  obtain ⟨hd, hw, h0, h1, h2, h3, h4, h5⟩ := id h
  have hP := hw.1
  have mono : ∀ n m, n ≤ m → zl_edge ow y n = true → zl_edge ow y m = true := by
    intro n m hnm hh
    induction m with
    | zero => have : n = 0 := by omega
              subst this; exact hh
    | succ m ihm =>
      by_cases e : n = m + 1
      · subst e; exact hh
      · simp [zl_edge, ihm (by omega)]
  have loop := zl_down (N := 4) (G := fun w => zl_edge ow y w = false → ∀ v3, fw_Go X l mX1_isAtEdge (fun r σ => r = some (.int (zi (zl_edge ow y 4))) ∧ σ = (fw_sh, I)) 2 0 0 [some (.ref d), some (.int (nI y)), some (.int (nI w)), v3] [] (fw_sh, I)) (by
    intro hn v3
    refine fw_from [2] 100 2 ok_X1_isAtEdge ⟨_, wc_X1_isAtEdge⟩ rfl ?_
    refine zq_le 4 4 rfl rfl (fun _ => ?_) (fun h => absurd h (by omega))
    exact ⟨by decide, by rw [hn]; rfl, rfl⟩) (fun w hw4 ih => by
    intro hn v3
    have c1 := ct_beside (X := X) (l := l) (I := I) hy hw4
    refine fw_from [2] 100 2 ok_X1_isAtEdge ⟨_, wc_X1_isAtEdge⟩ rfl ?_
    refine zq_le 4 w rfl rfl (fun h => absurd h (by omega)) (fun _ => ?_)
    refine ⟨_, c1, ?_⟩
    rintro v σ' ⟨rfl, rfl⟩
    refine zq_br (c := zo_I 36 (zl_be y w) = -1) (d := ¬ zl_be y w < 36) ?_ (fun g => ?_) (fun g => ?_)
    · by_cases hb : zl_be y w < 36
      · simp only [zo_some hb, hb, not_true, iff_false]; exact nI_m1 (by omega)
      · simp [zo_none hb, hb]
    · exact fw_sub (ih (by simp [zl_edge, hn, g]) (some (.int (zo_I 36 (zl_be y w))))) (by simp only [nI_1]) rfl
    have g : zl_be y w < 36 := Decidable.not_not.mp g
    have b1 := zo_some g
    have o1 := how y hy
    have o2 := how _ g
    rcases hd with rfl | rfl | rfl <;>
    · refine And.intro (fw_in1 (zl_be y w) 36 g b1) ?_
      refine And.intro (fw_in1 y 36 hy) ?_
      refine zq_br (c := I _ (zo_I 36 (zl_be y w)).toNatClampNeg = I _ _) (d := ow (zl_be y w) = ow y) ?_ (fun g2 => ?_) (fun g2 => ?_)
      · rw [b1, zq_rd (h1 _ g), zq_rd (h1 y hy)]
        by_cases hoy : ow y < L 9 0
        · rw [zo_some hoy, zo_eqn hP hoy]
        · rw [zo_none hoy, zo_eq1 hP]; omega
      · exact fw_sub (ih (by simp [zl_edge, hn, g2]) (some (.int (zo_I 36 (zl_be y w))))) (by simp only [nI_1]) rfl
      · have e : zl_edge ow y 4 = true := mono (w + 1) 4 (by omega) (by simp [zl_edge, g, g2])
        exact ⟨by decide, by rw [e]; rfl, rfl⟩)
  refine fw_enter [2] 100 ok_X1_isAtEdge ⟨_, wc_X1_isAtEdge⟩ rfl rfl rfl ?_
  exact fw_sub (loop 0 (by omega) rfl none) (by rfl) rfl
end zJ
