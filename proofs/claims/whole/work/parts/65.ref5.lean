/-! The reference's ways. -/
def zr_f (v : Nat) : Nat := if v = 36 then 1000 else v
theorem zr_f36 {v : Nat} (h : v ≤ 36) : zr_f v = 1000 ↔ v = 36 := by unfold zr_f; split <;> omega
theorem zr_f_le {v : Nat} (h : v ≤ 36) : zr_f v ≤ 1000 := by unfold zr_f; split <;> omega
theorem zr_f_lt {v : Nat} (h : v < 36) : zr_f v = v := by unfold zr_f; rw [if_neg (by omega)]
theorem zr_f_cmp {v n : Nat} (h : v ≤ 36) (hn : n ≤ 36) : zr_f v < zr_f n ↔ v < n := by
  unfold zr_f
  split <;> split <;> omega
def zx_at (s : zb_T) (I : Nat → Nat → Int32) : Prop := (∀ y, y < 36 → I 51 y = nI (zr_f (s.1 y))) ∧ ∀ i, i < s.2.2 → I 52 i = nI (s.2.1 i)
theorem zb_it_q {op : Nat → Bool} {y k : Nat} {s : zb_T} (h : zb_ok s) (hy : s.1 y + 1 ≤ s.2.2) (hk : k < s.2.2) : ∀ w, (zb_it op y w s).2.1 k = s.2.1 k
  | 0 => rfl
  | w + 1 => by
    have ih := zb_it_q (op := op) h hy hk w
    have hle := (zb_it_ok (op := op) h hy w).2.2
    by_cases hc : zb_c op y w (zb_it op y w s)
    · have e : zb_it op y (w + 1) s = zb_p y w (zb_it op y w s) := zb_1_y hc
      rw [e]
      simp only [zb_p, zb_set]
      rw [if_neg (by omega)]
      exact ih
    · have e : zb_it op y (w + 1) s = zb_it op y w s := zb_1_n hc
      rw [e]; exact ih
theorem zm_l.ways {w : Nat} {L : Nat → Nat → Nat} {I I' : Nat → Nat → Int32} (h : zm_l w L I) (hf : zf_fr [51, 52] I I') : zm_l w L I' := h.keep (fun c k hc => by rw [hf c (by simp; omega)])
theorem zf_fr.g5 {I I' : Nat → Nat → Int32} (h : zf_fr [51, 52] I I') : zg I I' := fun c k _ _ h3 => by rw [h c (by simp; omega)]
theorem zf_fr.h5 {w : Nat} {I I' : Nat → Nat → Int32} (h : zf_fr [51, 52] I I') : zh w I I' := fun c k _ _ h3 _ _ => by rw [h c (by simp; omega)]
section zR6
variable {X : Nat × (Nat → Int32)} {l : Launch} {I : Nat → Nat → Int32} {s : zS} {w : Nat} {L : Nat → Nat → Nat}
theorem rt_findFar (h : zm_l w L I) (hw6 : w ≤ 6) {a : Nat} (ha : a < 36) : fw_Sem X l mX6_findFar [.ref 38, .int (nI a)] (fw_sh, I) (fun r σ => r = none ∧ ∃ I', σ = (fw_sh, I') ∧ (∀ y, y < 36 → I' 51 y = nI (zr_f (zb_far (zl_op L (zl_ow L w)) a y))) ∧ zf_fr [51, 52] I I') := by
  have isop : ∀ I2, zf_fr [51, 52] I I2 → ∀ z, z < 36 → zs_p X l mX6_isOpen [.ref 38, .int (nI z)] I2 (zi (zl_op L (zl_ow L w) z)) := fun I2 hf z hz => rt_isOpen (X := X) (l := l) (h.ways hf) hw6 hz
  generalize zl_op L (zl_ow L w) = op at isop ⊢
  have loop2 : ∀ f k, k + f = 36 → ∀ (s : zb_T) I' v4 v5, zb_ok s → zx_at s I' → zf_fr [51, 52] I I' → fw_Go X l mX6_findFar (fun r σ => r = none ∧ ∃ I', σ = (fw_sh, I') ∧ (∀ y, y < 36 → I' 51 y = nI (zr_f ((zb_run op f k s).1 y))) ∧ zf_fr [51, 52] I I') 50 0 0 [some (.ref 38), some (.int (nI a)), some (.int (nI s.2.2)), some (.int (nI k)), v4, v5] [] (fw_sh, I') := by
    intro f
    induction f with
    | zero =>
      intro k hk s I' v4 v5 hs hw hf
      have hle := hs.le
      refine fw_from [50] 100 31 ok_X6_findFar ⟨_, wc_X6_findFar⟩ rfl ?_
      refine zq_le s.2.2 k rfl rfl (fun _ => ?_) (fun z => absurd z (by omega))
      exact ⟨rfl, I', rfl, hw.1, hf⟩
    | succ f ih =>
      intro k hk s I' v4 v5 hs hw hf
      have hle := hs.le
      by_cases g : k < s.2.2
      · have hq := hs.2.2 k g
        have hy1 : s.1 (s.2.1 k) + 1 ≤ s.2.2 := by omega
        simp only [zb_run, g, if_true]
        have inner := zl_down (N := 4) (G := fun w' => ∀ I2 v5, zx_at (zb_it op (s.2.1 k) w' s) I2 → zf_fr [51, 52] I I2 → fw_Go X l mX6_findFar (fun r σ => r = none ∧ ∃ I', σ = (fw_sh, I') ∧ (∀ y, y < 36 → I' 51 y = nI (zr_f ((zb_run op f (k + 1) (zb_it op (s.2.1 k) 4 s)).1 y))) ∧ zf_fr [51, 52] I I') 58 0 0 [some (.ref 38), some (.int (nI a)), some (.int (nI (zb_it op (s.2.1 k) w' s).2.2)), some (.int (nI k)), some (.int (nI w')), v5] [] (fw_sh, I2)) (by
          intro I2 v5 hw2 hf2
          refine fw_from [50, 58] 100 36 ok_X6_findFar ⟨_, wc_X6_findFar⟩ rfl ?_
          refine zq_le 4 4 rfl rfl (fun _ => ?_) (fun h => absurd h (by omega))
          exact fw_sub (ih (k + 1) (by omega) _ I2 (some (.int (nI 4))) v5 (zb_it_ok hs hy1 4).1 hw2 hf2) (by simp only [nI_1]) rfl) (fun w' hw4 ih2 => by
          intro I2 v5 hw2 hf2
          obtain ⟨g1, g2, g3⟩ := zb_it_ok (op := op) hs hy1 w'
          have gle := g1.le
          have gq := zb_it_q (op := op) hs hy1 g w'
          have eq : I2 52 (nI k).toNatClampNeg = nI (s.2.1 k) := by rw [← gq]; exact zq_rd (hw2.2 k (by omega))
          have c1 := rt_beside (X := X) (l := l) (I := I2) hq.1 hw4
          rw [← eq] at c1
          have stay : ¬ zb_c op (s.2.1 k) w' (zb_it op (s.2.1 k) w' s) → fw_Go X l mX6_findFar (fun r σ => r = none ∧ ∃ I', σ = (fw_sh, I') ∧ (∀ y, y < 36 → I' 51 y = nI (zr_f ((zb_run op f (k + 1) (zb_it op (s.2.1 k) 4 s)).1 y))) ∧ zf_fr [51, 52] I I') 58 0 0 [some (.ref 38), some (.int (nI a)), some (.int (nI (zb_it op (s.2.1 k) w' s).2.2)), some (.int (nI k)), some (.int (nI (w' + 1))), some (.int (z9_o 36 (zl_be (s.2.1 k) w')))] [] (fw_sh, I2) := fun hc => by
            have e : zb_it op (s.2.1 k) (w' + 1) s = zb_it op (s.2.1 k) w' s := zb_1_n hc
            have := ih2 I2 (some (.int (z9_o 36 (zl_be (s.2.1 k) w')))) (by rw [e]; exact hw2) hf2
            rw [e] at this
            exact this
          refine fw_from [50, 58] 100 36 ok_X6_findFar ⟨_, wc_X6_findFar⟩ rfl ?_
          refine zq_le 4 w' rfl rfl (fun h => absurd h (by omega)) (fun _ => ?_)
          refine And.intro (fw_in1 k 36 (by omega)) ?_
          refine ⟨_, c1, ?_⟩
          rintro v σ' ⟨rfl, rfl⟩
          refine zq_br (z9_neg (by omega)) (fun q1 => ?_) (fun q1 => ?_)
          · exact fw_sub (stay (fun z => q1 z.1)) (by simp only [nI_1]) rfl
          have q1 : zl_be (s.2.1 k) w' < 36 := Decidable.not_not.mp q1
          have b1 := z9_some q1
          have hfn := g1.2.1 _ q1
          refine And.intro (fw_in1 (zl_be (s.2.1 k) w') 36 q1 b1) ?_
          refine zq_lt (zr_f ((zb_it op (s.2.1 k) w' s).1 (zl_be (s.2.1 k) w'))) 1000 ?_ rfl (fun k2 => ?_) (fun k2 => ?_) (by have := zr_f_le hfn; omega)
          · show I2 51 (z9_o 36 (zl_be (s.2.1 k) w')).toNatClampNeg = _
            rw [b1]; exact zq_rd (hw2.1 _ q1)
          · exact fw_sub (stay (fun z => by have z2 := z.2.1; rw [z2] at k2; exact absurd k2 (by decide))) (by simp only [nI_1]) rfl
          have k2 : (zb_it op (s.2.1 k) w' s).1 (zl_be (s.2.1 k) w') = 36 := (zr_f36 hfn).mp (by have := zr_f_le hfn; omega)
          have hm := g1.lt q1 k2
          have c2 := isop I2 hf2 _ q1
          rw [← b1] at c2
          refine ⟨_, c2, ?_⟩
          rintro v σ' ⟨rfl, rfl⟩
          refine zq_brn (zi_eq0 _) (fun k3 => ?_) (fun k3 => ?_)
          · have hc : zb_c op (s.2.1 k) w' (zb_it op (s.2.1 k) w' s) := ⟨q1, k2, by simpa using k3⟩
            have e : zb_it op (s.2.1 k) (w' + 1) s = zb_p (s.2.1 k) w' (zb_it op (s.2.1 k) w' s) := zb_1_y hc
            refine And.intro (fw_in1 k 36 (by omega)) ?_
            refine And.intro (fw_in1 (s.2.1 k) 36 hq.1 eq) ?_
            refine And.intro (fw_in1 (zl_be (s.2.1 k) w') 36 q1 b1) ?_
            refine And.intro (fw_in1 (zb_it op (s.2.1 k) w' s).2.2 36 hm) ?_
            have ef : zr_f ((zb_it op (s.2.1 k) w' s).1 (s.2.1 k)) = s.1 (s.2.1 k) := by rw [g2, zr_f_lt (by omega)]
            have key := ih2 (fw_up (fw_up I2 51 (zl_be (s.2.1 k) w') (nI (s.1 (s.2.1 k) + 1))) 52 (zb_it op (s.2.1 k) w' s).2.2 (nI (zl_be (s.2.1 k) w'))) (some (.int (z9_o 36 (zl_be (s.2.1 k) w')))) ?_ ((hf2.up (by simp)).up (by simp))
            · refine fw_sub key ?_ ?_
              · rw [e]; simp only [nI_1, zb_p]
              · show (fw_sh, fw_up (fw_up I2 51 (z9_o 36 (zl_be (s.2.1 k) w')).toNatClampNeg (I2 51 (I2 52 (nI k).toNatClampNeg).toNatClampNeg + 1)) 52 _ (z9_o 36 (zl_be (s.2.1 k) w'))) = _
                rw [b1, eq, zq_rd (hw2.1 _ hq.1), ef, nI_clamp (by omega), nI_clamp (by omega), nI_1]
            · rw [e]
              refine ⟨fun z hz => ?_, fun i hi => ?_⟩
              · rw [fw_up_ne 51 (by omega)]
                by_cases hzz : z = zl_be (s.2.1 k) w'
                · subst hzz; rw [fw_up_at]; simp only [zb_p, zb_set, if_true]; rw [g2, zr_f_lt (by omega)]
                · rw [fw_up_k hzz, hw2.1 z hz]; simp [zb_p, zb_set, hzz]
              · by_cases hii : i = (zb_it op (s.2.1 k) w' s).2.2
                · subst hii; rw [fw_up_at]; simp [zb_p, zb_set]
                · rw [fw_up_k hii, fw_up_ne 52 (by omega), hw2.2 i (by simp only [zb_p] at hi; omega)]; simp [zb_p, zb_set, hii]
          · exact fw_sub (stay (fun z => by have z2 := z.2.2; rw [k3] at z2; cases z2)) (by simp only [nI_1]) rfl)
        refine fw_from [50, 58] 100 31 ok_X6_findFar ⟨_, wc_X6_findFar⟩ rfl ?_
        refine zq_le s.2.2 k rfl rfl (fun z => absurd z (by omega)) (fun _ => ?_)
        exact fw_sub (inner 0 (by omega) I' v5 hw hf) (by rfl) rfl
      · simp only [zb_run, g, if_false]
        refine fw_from [50] 100 31 ok_X6_findFar ⟨_, wc_X6_findFar⟩ rfl ?_
        refine zq_le s.2.2 k rfl rfl (fun _ => ?_) (fun z => absurd z (by omega))
        exact ⟨rfl, I', rfl, hw.1, hf⟩
  have loop1 := zl_down (N := 36) (G := fun y => ∀ I', zf_fr [51, 52] I I' → (∀ j, j < y → I' 51 j = nI 1000) → fw_Go X l mX6_findFar (fun r σ => r = none ∧ ∃ I', σ = (fw_sh, I') ∧ (∀ y, y < 36 → I' 51 y = nI (zr_f (zb_far op a y))) ∧ zf_fr [51, 52] I I') 2 0 0 [some (.ref 38), some (.int (nI a)), some (.int (nI y)), none, none, none] [] (fw_sh, I')) (by
    intro I' hf hr
    refine fw_from [2, 50] 100 2 ok_X6_findFar ⟨_, wc_X6_findFar⟩ rfl ?_
    refine zq_le 36 36 rfl rfl (fun _ => ?_) (fun h => absurd h (by omega))
    refine ⟨_, isop I' hf a ha, ?_⟩
    rintro v σ' ⟨rfl, rfl⟩
    refine zq_brn (zi_eq0 _) (fun g => ?_) (fun g => ?_)
    · have g : op a = true := by simpa using g
      refine And.intro (fw_in1 a 36 ha) ?_
      refine And.intro (fw_in1 0 36 (by omega)) ?_
      have e := loop2 36 0 (by omega) (zb_0 a) (fw_up (fw_up I' 51 a 0) 52 0 (nI a)) none none (zb_0_ok ha) ⟨fun z hz => ?_, fun i hi => ?_⟩ ((hf.up (by simp)).up (by simp))
      · have e2 : zb_far op a = (zb_run op 36 0 (zb_0 a)).1 := by simp [zb_far, g]
        rw [e2]
        exact fw_sub e (by rfl) (by rw [nI_clamp (by omega)]; rfl)
      · rw [fw_up_ne 51 (by omega)]
        by_cases hz2 : z = a
        · subst hz2; rw [fw_up_at]; simp [zb_0, zr_f]; rfl
        · rw [fw_up_k hz2, hr z hz]; simp [zb_0, zr_f, hz2]
      · have : i = 0 := by simp only [zb_0] at hi; omega
        subst this
        rw [fw_up_at]; rfl
    · exact ⟨rfl, I', rfl, fun z hz => by rw [hr z hz]; simp [zb_far, g, zr_f], hf⟩) (fun y hy ih => by
    intro I' hf hr
    refine fw_from [2, 50] 100 2 ok_X6_findFar ⟨_, wc_X6_findFar⟩ rfl ?_
    refine zq_le 36 y rfl rfl (fun h => absurd h (by omega)) (fun _ => ?_)
    refine And.intro (fw_in1 y 36 hy) ?_
    refine fw_sub (ih (fw_up I' 51 y (nI 1000)) (hf.up (by simp)) (fun j hj => ?_)) (by simp only [nI_1]) (by rw [nI_clamp (by omega)]; rfl)
    by_cases hjy : j = y
    · subst hjy; rw [fw_up_at]
    · rw [fw_up_k hjy]; exact hr j (by omega))
  refine fw_enter [2] 100 ok_X6_findFar ⟨_, wc_X6_findFar⟩ rfl rfl rfl ?_
  exact fw_sub (loop1 0 (by omega) I zf_fr.rf (fun j hj => absurd hj (by omega))) (by rfl) rfl
theorem rt_stepsOf (h : zm_l w L I) (hw6 : w ≤ 6) {a b : Nat} (ha : a < 36) (hb : b < 36) : fw_Sem X l mX6_stepsOf [.ref 38, .int (nI a), .int (nI b)] (fw_sh, I) (fun r σ => r = some (.int (nI (zr_f (zb_far (zl_op L (zl_ow L w)) a b)))) ∧ ∃ I', σ = (fw_sh, I') ∧ zf_fr [51, 52] I I') := by
  refine fw_enter [] 100 ok_X6_stepsOf ⟨_, wc_X6_stepsOf⟩ rfl rfl rfl ?_
  refine ⟨_, rt_findFar (X := X) (l := l) h hw6 ha, ?_⟩
  rintro v σ' ⟨rfl, I', rfl, h1, h2⟩
  refine And.intro (fw_in1 b 36 hb) ?_
  exact ⟨zr_e (zq_rd (h1 b hb)), I', rfl, h2⟩
theorem rt_notYards (a b : Int32) : zs_p X l mX6_notYards [.int a, .int b] I (zn_g (if (zb_in a 36 && zb_in b 36) = true then 0 else 1)) := by
  refine fw_enter [] 100 ok_X6_notYards ⟨_, wc_X6_notYards⟩ rfl rfl rfl ?_
  refine ⟨_, rt_isYard (X := X) (l := l) (I := I) a, ?_⟩
  rintro v σ' ⟨rfl, rfl⟩
  refine zq_br (zi_eq0 _) (fun g => ?_) (fun g => ?_)
  · exact ⟨zr_e (by rw [if_neg (by simp [g])]; rfl), rfl⟩
  refine ⟨_, rt_isYard (X := X) (l := l) (I := I) b, ?_⟩
  rintro v σ' ⟨rfl, rfl⟩
  refine zq_brn (zi_eq0 _) (fun g2 => ?_) (fun g2 => ?_)
  · exact ⟨zr_e (by rw [if_pos (by simp at g g2; simp [g, g2])]; rfl), rfl⟩
  · exact ⟨zr_e (by rw [if_neg (by simp [g2])]; rfl), rfl⟩
theorem cm_steps (h : zm_at s I) (a b : Int32) : zs_m X l mX6_steps [.ref 38, .int a, .int b] I (zo_steps s a b) := by
  have hl := h.2.1
  refine fw_enter [] 100 ok_X6_steps ⟨_, wc_X6_steps⟩ rfl rfl rfl ?_
  refine ⟨_, rt_notYards (X := X) (l := l) (I := I) a b, ?_⟩
  rintro v σ' ⟨rfl, rfl⟩
  by_cases g : (zb_in a 36 && zb_in b 36) = true
  · rw [if_pos g]
    have g2 := g
    rw [Bool.and_eq_true] at g2
    obtain ⟨p, hp, rfl⟩ := zb_in_of g2.1 (by omega)
    obtain ⟨q, hq, rfl⟩ := zb_in_of g2.2 (by omega)
    have ep := nI_clamp (n := p) (by omega)
    have eq := nI_clamp (n := q) (by omega)
    refine And.intro (fun _ => ?_) (fun z => absurd rfl z)
    refine ⟨_, rt_stepsOf (X := X) (l := l) hl (by omega) hp hq, ?_⟩
    rintro v σ' ⟨rfl, I', rfl, hf⟩
    simp only [zo_steps, g, ep, eq, if_true]
    have hle := zb_far_le (op := zl_op s.1 (zl_ow s.1 6)) hp hq
    have hle2 := zr_f_le hle
    refine zq_ne (zr_f (zb_far (zl_op s.1 (zl_ow s.1 6)) p q)) 1000 rfl rfl (fun k => ?_) (fun k => ?_)
    · have k : ¬ zb_far (zl_op s.1 (zl_ow s.1 6)) p q = 36 := fun z => k ((zr_f36 hle).mpr z)
      rw [if_neg k]
      exact ⟨zr_e (by rw [zr_f_lt (by omega)]), I', rfl, (hf.h5 (w := 1)).m h, (hf.h5 (w := 1)).lo⟩
    · rw [zr_f36 hle] at k
      rw [if_pos k]
      exact ⟨rfl, I', rfl, (hf.h5 (w := 1)).m h, (hf.h5 (w := 1)).lo⟩
  · rw [if_neg g]
    refine zq_br (zn_g0 (show 1 ≤ 6 by omega)) (fun z => absurd z (by omega)) (fun _ => ?_)
    refine ⟨_, rt_no (X := X) (l := l) h (c := 1) (by omega) (by omega), fun v σ' hq2 => ?_⟩
    obtain ⟨rfl, I', rfl, h1, h2⟩ := hq2
    exact zm_end (by unfold zo_steps; rw [if_neg g]) ⟨rfl, I', rfl, h1, h2⟩
theorem cm_reached (h : zm_at s I) (y n : Int32) : zs_m X l mX6_reached [.ref 38, .int y, .int n] I (zo_reached s y n) := by
  have hl := h.2.1
  have no : ∀ c, 1 ≤ c → c ≤ 6 → zo_reached s y n = zx_no s c → fw_Go X l mX6_reached (fun r σ => r = some (.int (zo_reached s y n).1) ∧ ∃ I', σ = (fw_sh, I') ∧ zm_at (zo_reached s y n).2 I' ∧ zf_lo I I') 18 0 0 [some (.ref 38), some (.int y), some (.int n), none, none, none] [.int (zn_g c)] (fw_sh, I) := by
    intro c hc1 hc6 e
    refine fw_from [] 100 9 ok_X6_reached ⟨_, wc_X6_reached⟩ rfl ?_
    refine zq_br (zn_g0 hc6) (fun z => absurd z (by omega)) (fun _ => ?_)
    refine ⟨_, rt_no (X := X) (l := l) h hc1 hc6, fun v σ' hq => ?_⟩
    obtain ⟨rfl, I', rfl, h1, h2⟩ := hq
    exact zm_end e ⟨rfl, I', rfl, h1, h2⟩
  refine fw_enter [18] 100 ok_X6_reached ⟨_, wc_X6_reached⟩ rfl rfl rfl ?_
  refine ⟨_, rt_isYard (X := X) (l := l) (I := I) y, ?_⟩
  rintro v' σ' ⟨rfl, rfl⟩
  refine zq_brn (zi_eq0 _) (fun g => ?_) (fun g => ?_)
  · have g : zb_in y 36 = true := by simpa using g
    refine ⟨_, rt_bound (X := X) (l := l) (I := I) n 0 35, ?_⟩
    rintro v' σ' ⟨rfl, rfl⟩
    by_cases hk : zk_out n 0 35 = 0
    · obtain ⟨q, hq, rfl⟩ := zb_in_of g (by omega)
      obtain ⟨j, hj1, hj, rfl⟩ := zk_out_sp hk
      have ec := nI_clamp (n := q) (by omega)
      have ej := nI_clamp (n := j) (by omega)
      rw [hk]
      simp only [zo_reached, g, hk, ec, ej, if_true]
      have loop : ∀ I', (∀ z, z < 36 → I' 51 z = nI (zr_f (zb_far (zl_op s.1 (zl_ow s.1 6)) q z))) → zf_fr [51, 52] I I' → ∀ z, z ≤ 36 → fw_Go X l mX6_reached (fun r σ => r = some (.int (nI (zm_s (fun z => if zb_far (zl_op s.1 (zl_ow s.1 6)) q z ≤ j then 1 else 0) 36))) ∧ ∃ I', σ = (fw_sh, I') ∧ zm_at s I' ∧ zf_lo I I') 40 0 0 [some (.ref 38), some (.int (nI q)), some (.int (nI j)), some (.int 0), some (.int (nI (zm_s (fun z => if zb_far (zl_op s.1 (zl_ow s.1 6)) q z ≤ j then 1 else 0) z))), some (.int (nI z))] [] (fw_sh, I') := by
        intro I' hI hf
        refine zl_down (N := 36) (by
          refine fw_from [40] 100 23 ok_X6_reached ⟨_, wc_X6_reached⟩ rfl ?_
          refine zq_le 36 36 rfl rfl (fun _ => ?_) (fun h => absurd h (by omega))
          exact ⟨rfl, I', rfl, (hf.h5 (w := 1)).m h, (hf.h5 (w := 1)).lo⟩) (fun z hz ih => by
          have hle := zb_far_le (op := zl_op s.1 (zl_ow s.1 6)) hq hz
          have hle2 := zr_f_le hle
          refine fw_from [40] 100 23 ok_X6_reached ⟨_, wc_X6_reached⟩ rfl ?_
          refine zq_le 36 z rfl rfl (fun h => absurd h (by omega)) (fun _ => ?_)
          refine And.intro (fw_in1 z 36 hz) ?_
          refine zq_lt j (zr_f (zb_far (zl_op s.1 (zl_ow s.1 6)) q z)) rfl (zq_rd (hI z hz)) (fun k => ?_) (fun k => ?_)
          · have k2 : ¬ zb_far (zl_op s.1 (zl_ow s.1 6)) q z ≤ j := fun z2 => by rw [zr_f_lt (by omega)] at k; omega
            exact fw_sub ih (by simp [zm_s, k2, nI_1]) rfl
          · have k2 : zb_far (zl_op s.1 (zl_ow s.1 6)) q z ≤ j := by unfold zr_f at k; split at k <;> omega
            exact fw_sub ih (by simp [zm_s, k2, nI_1]) rfl)
      refine fw_from [40] 100 9 ok_X6_reached ⟨_, wc_X6_reached⟩ rfl ?_
      refine And.intro (fun _ => ?_) (fun z => absurd rfl z)
      refine ⟨_, rt_findFar (X := X) (l := l) hl (by omega) hq, ?_⟩
      rintro v' σ' ⟨rfl, I', rfl, hI, hf⟩
      exact fw_sub (loop I' hI hf 0 (by omega)) (by rfl) rfl
    · exact fw_sub2 (no (zk_out n 0 35) (by omega) zk_out_le (by simp [zo_reached, g, hk])) (by rfl) (by rfl) rfl
  · exact fw_sub2 (no 1 (by omega) (by omega) (by simp [zo_reached, g])) (by rfl) (by rfl) rfl
theorem rt_stRolled (h : zm_l 6 L I) {L' : Nat → Nat → Nat} {x : Int32} (hk : ∀ k, k ≠ 7 → L' k = L k) (h7 : ∀ p, p < L 9 0 → L' 7 p ≤ 1) (hx : x = nI (zl_rb L' (L 9 0))) {a b : Nat} (ha : a < 36) (hb : b < 36) : fw_Sem X l mX6_stepsRolled [.ref 38, .int (nI a), .int (nI b), .int x] (fw_sh, I) (fun r σ => r = some (.int (nI (zr_f (zb_far (zl_op L' (zl_ow L 6)) a b)))) ∧ ∃ I', σ = (fw_sh, I') ∧ zf_fr [51, 52] I I') := by
  have hz := zm_r7 h hk h7 hx
  have eo : zl_ow L' 6 = zl_ow L 6 := zl_ow_congr (hk 4 (by omega)) (hk 5 (by omega)) (hk 6 (by omega)) (hk 9 (by omega)) 6
  have c1 := rt_stepsOf (X := X) (l := l) hz (by omega) ha hb
  rw [eo] at c1
  refine fw_enter [] 100 ok_X6_stepsRolled ⟨_, wc_X6_stepsRolled⟩ rfl rfl rfl ?_
  refine ⟨_, c1, ?_⟩
  rintro v σ' ⟨rfl, I', rfl, hf⟩
  refine ⟨rfl, fw_up I' 38 8 (I 38 8), rfl, fun c hc => ?_⟩
  funext k
  by_cases e : c = 38 ∧ k = 8
  · rw [e.1, e.2, fw_up_at]
  · rw [fw_up_p c k (by omega), hf c hc, fw_up_p c k (by omega)]
end zR6
