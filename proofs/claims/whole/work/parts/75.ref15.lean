/-! What the search finds: who is nearer, and that neighbours differ by one step at most. -/
theorem zl_be_sym : ∀ y, y < 36 → ∀ w, w < 4 → zl_be y w < 36 → zl_be (zl_be y w) (3 - w) = y := by decide
def zb_J (op : Nat → Bool) (a k w : Nat) (s : zb_T) : Prop :=
  zb_ok s ∧ (s.1 a = 0 ∧ ∀ z, z < 36 → s.1 z = 0 → z = a) ∧
  (∀ z, z < 36 → s.1 z < 36 → z = a ∨ ∃ d, d < 4 ∧ zl_be z d < 36 ∧ s.1 (zl_be z d) + 1 = s.1 z) ∧
  (∀ z, z < 36 → s.1 z < 36 → op z = true ∧ ∃ i, i < s.2.2 ∧ s.2.1 i = z) ∧
  (∀ i j, i ≤ j → j < s.2.2 → s.1 (s.2.1 i) ≤ s.1 (s.2.1 j)) ∧
  (k < s.2.2 → ∀ j, j < s.2.2 → s.1 (s.2.1 j) ≤ s.1 (s.2.1 k) + 1) ∧
  (∀ i d, i < k → i < s.2.2 → d < 4 → zl_be (s.2.1 i) d < 36 → op (zl_be (s.2.1 i) d) = true → s.1 (zl_be (s.2.1 i) d) ≤ s.1 (s.2.1 i) + 1) ∧
  (k < s.2.2 → ∀ d, d < w → zl_be (s.2.1 k) d < 36 → op (zl_be (s.2.1 k) d) = true → s.1 (zl_be (s.2.1 k) d) ≤ s.1 (s.2.1 k) + 1)
theorem zb_J_1 {op : Nat → Bool} {a k w : Nat} {s : zb_T} (hw : w < 4) (hk : k < s.2.2) (ha : a < 36) (h : zb_J op a k w s) : zb_J op a k (w + 1) (zb_1 op (s.2.1 k) w s) ∧ (zb_1 op (s.2.1 k) w s).2.1 k = s.2.1 k ∧ k < (zb_1 op (s.2.1 k) w s).2.2 := by
  obtain ⟨h0, h1, h2, h3, h4, h5, h6, h7⟩ := h
  have hle := h0.le
  have hq := h0.2.2 k hk
  by_cases hc : zb_c op (s.2.1 k) w s
  · rw [zb_1_y hc]
    have hok := zb_p_ok h0 hc (by omega)
    obtain ⟨c1, c2, c3⟩ := hc
    obtain ⟨e, he⟩ : ∃ e, e = zl_be (s.2.1 k) w := ⟨_, rfl⟩
    have hsym := zl_be_sym _ hq.1 w hw c1
    rw [← he] at c1 c2 c3 hsym
    have hm := h0.lt c1 c2
    have f1 : ∀ z, (zb_p (s.2.1 k) w s).1 z = if z = e then s.1 (s.2.1 k) + 1 else s.1 z := fun z => by simp only [zb_p, zb_set, ← he]
    have q1 : ∀ i, (zb_p (s.2.1 k) w s).2.1 i = if i = s.2.2 then e else s.2.1 i := fun i => by simp only [zb_p, zb_set, ← he]
    have n1 : (zb_p (s.2.1 k) w s).2.2 = s.2.2 + 1 := rfl
    have qne : ∀ i, i < s.2.2 → s.2.1 i ≠ e := fun i hi z => by have := h0.2.2 i hi; rw [z] at this; omega
    have fq : ∀ i, i < s.2.2 → (zb_p (s.2.1 k) w s).1 (s.2.1 i) = s.1 (s.2.1 i) := fun i hi => by rw [f1, if_neg (qne i hi)]
    have qk : (zb_p (s.2.1 k) w s).2.1 k = s.2.1 k := by rw [q1, if_neg (by omega)]
    have qi : ∀ i, i < s.2.2 → (zb_p (s.2.1 k) w s).2.1 i = s.2.1 i := fun i hi => by rw [q1, if_neg (by omega)]
    have qn : (zb_p (s.2.1 k) w s).2.1 s.2.2 = e := by rw [q1, if_pos rfl]
    have fe : (zb_p (s.2.1 k) w s).1 e = s.1 (s.2.1 k) + 1 := by rw [f1, if_pos rfl]
    refine ⟨⟨hok.1, ⟨?_, fun z hz hz0 => ?_⟩, fun z hz hlt => ?_, fun z hz hlt => ?_, fun i j hij hj => ?_, fun _ j hj => ?_, fun i d hi hi2 hd hb ho => ?_, fun _ d hd hb ho => ?_⟩, qk, by rw [n1]; omega⟩
    · rw [f1, if_neg (fun z => by rw [← z, h1.1] at c2; omega)]; exact h1.1
    · rw [f1] at hz0
      split at hz0
      · omega
      · exact h1.2 z hz hz0
    · by_cases hze : z = e
      · right
        refine ⟨3 - w, by omega, ?_, ?_⟩
        · rw [hze, hsym]; exact hq.1
        · rw [hze, hsym, fe, fq k hk]
      · rw [f1, if_neg hze] at hlt ⊢
        rcases h2 z hz hlt with h | ⟨d, d1, d2, d3⟩
        · exact Or.inl h
        · refine Or.inr ⟨d, d1, d2, ?_⟩
          rw [f1, if_neg (fun z2 => by rw [z2] at d3; omega)]; exact d3
    · by_cases hze : z = e
      · rw [hze]; exact ⟨c3, s.2.2, by rw [n1]; omega, qn⟩
      · rw [f1, if_neg hze] at hlt
        obtain ⟨g1, i, g2, g3⟩ := h3 z hz hlt
        exact ⟨g1, i, by rw [n1]; omega, by rw [qi i g2]; exact g3⟩
    · rw [n1] at hj
      by_cases hjn : j = s.2.2
      · subst hjn
        rw [qn, fe]
        by_cases hin : i = s.2.2
        · rw [hin, qn, fe]
          exact Nat.le_refl _
        · rw [qi i (by omega), fq i (by omega)]; exact h5 hk i (by omega)
      · rw [qi i (by omega), qi j (by omega), fq i (by omega), fq j (by omega)]; exact h4 i j hij (by omega)
    · rw [n1] at hj
      rw [qk, fq k hk]
      by_cases hjn : j = s.2.2
      · rw [hjn, qn, fe]
        exact Nat.le_refl _
      · rw [qi j (by omega), fq j (by omega)]; exact h5 hk j (by omega)
    · have hi3 : i < s.2.2 := by omega
      rw [qi i hi3] at hb ho ⊢
      rw [fq i hi3]
      have o := h6 i d hi hi3 hd hb ho
      rw [f1]
      split
      · rename_i z; rw [z] at o
        have := h4 i k (by omega) hk
        omega
      · exact o
    · rw [qk] at hb ho ⊢
      rw [fq k hk, f1]
      split
      · omega
      · rename_i hne
        by_cases hdw : d = w
        · exact absurd (by rw [hdw, ← he]) hne
        · exact h7 hk d (by omega) hb ho
  · rw [zb_1_n hc]
    refine ⟨⟨h0, h1, h2, h3, h4, h5, h6, fun _ d hd hb ho => ?_⟩, rfl, hk⟩
    by_cases hdw : d = w
    · subst hdw
      have hne : ¬ s.1 (zl_be (s.2.1 k) d) = 36 := fun z => hc ⟨hb, z, ho⟩
      have hlt : s.1 (zl_be (s.2.1 k) d) < 36 := by have := h0.2.1 _ hb; omega
      obtain ⟨-, j, j1, j2⟩ := h3 _ hb hlt
      rw [← j2]; exact h5 hk j j1
    · exact h7 hk d (by omega) hb ho
theorem zb_J_it {op : Nat → Bool} {a k : Nat} {s : zb_T} (hk : k < s.2.2) (ha : a < 36) (h : zb_J op a k 0 s) : ∀ w, w ≤ 4 → zb_J op a k w (zb_it op (s.2.1 k) w s) ∧ (zb_it op (s.2.1 k) w s).2.1 k = s.2.1 k ∧ k < (zb_it op (s.2.1 k) w s).2.2
  | 0, _ => ⟨h, rfl, hk⟩
  | w + 1, hw => by
    obtain ⟨i1, i2, i3⟩ := zb_J_it hk ha h w (by omega)
    have := zb_J_1 (w := w) (by omega) i3 ha i1
    rw [i2] at this
    exact this
theorem zb_J_run {op : Nat → Bool} {a : Nat} (ha : a < 36) : ∀ (f k : Nat) (s : zb_T), k + f = 36 → zb_J op a k 0 s → ∃ k', zb_J op a k' 0 (zb_run op f k s) ∧ (zb_run op f k s).2.2 ≤ k'
  | 0, k, s, hkf, h => ⟨k, h, by have := h.1.le; simp only [zb_run]; omega⟩
  | f + 1, k, s, hkf, h => by
    by_cases hk : k < s.2.2
    · simp only [zb_run, hk, if_true]
      obtain ⟨i1, i2, i3⟩ := zb_J_it hk ha h 4 (by omega)
      refine zb_J_run ha f (k + 1) _ (by omega) ?_
      generalize zb_it op (s.2.1 k) 4 s = s' at i1 i2 i3
      obtain ⟨h0, h1, h2, h3, h4, h5, h6, h7⟩ := i1
      refine ⟨h0, h1, h2, h3, h4, fun hk1 j hj => ?_, fun i d hi hi2 hd hb ho => ?_, fun _ d hd => absurd hd (by omega)⟩
      · have := h5 i3 j hj
        have := h4 k (k + 1) (by omega) hk1
        omega
      · by_cases e : i = k
        · subst e; exact h7 i3 d hd hb ho
        · exact h6 i d (by omega) hi2 hd hb ho
    · simp only [zb_run, hk, if_false]
      exact ⟨k, h, by omega⟩
theorem zb_far_sp {op : Nat → Bool} {a : Nat} (ha : a < 36) (hop : op a = true) : (zb_far op a a = 0 ∧ ∀ z, z < 36 → zb_far op a z = 0 → z = a) ∧ (∀ z, z < 36 → zb_far op a z < 36 → z = a ∨ ∃ d, d < 4 ∧ zl_be z d < 36 ∧ zb_far op a (zl_be z d) + 1 = zb_far op a z) ∧ (∀ z d, z < 36 → d < 4 → zl_be z d < 36 → zb_far op a z < 36 → zb_far op a (zl_be z d) < 36 → zb_far op a (zl_be z d) ≤ zb_far op a z + 1) := by
  have e : zb_far op a = (zb_run op 36 0 (zb_0 a)).1 := by simp [zb_far, hop]
  have j0 : zb_J op a 0 0 (zb_0 a) := by
    have f0 : ∀ z, (zb_0 a).1 z = if z = a then 0 else 36 := fun z => rfl
    have q0 : ∀ i, (zb_0 a).2.1 i = a := fun i => rfl
    have n0 : (zb_0 a).2.2 = 1 := rfl
    have only : ∀ z, (zb_0 a).1 z < 36 → z = a := fun z hz => by
      rw [f0] at hz
      split at hz
      · assumption
      · omega
    refine ⟨zb_0_ok ha, ⟨by rw [f0, if_pos rfl], fun z hz hz0 => only z (by omega)⟩, fun z hz hlt => Or.inl (only z hlt), fun z hz hlt => ?_, fun i j _ _ => by rw [q0, q0]; exact Nat.le_refl _, fun _ j _ => by rw [q0, q0]; omega, fun i d hi => absurd hi (by omega), fun _ d hd => absurd hd (by omega)⟩
    rw [only z hlt]; exact ⟨hop, 0, by rw [n0]; omega, q0 0⟩
  obtain ⟨k', hJ, hk'⟩ := zb_J_run ha 36 0 (zb_0 a) (by omega) j0
  rw [e]
  generalize zb_run op 36 0 (zb_0 a) = s at hJ hk' ⊢
  obtain ⟨h0, h1, h2, h3, h4, h5, h6, h7⟩ := hJ
  refine ⟨h1, h2, fun z d hz hd hb hz1 hz2 => ?_⟩
  obtain ⟨-, i, i1, i2⟩ := h3 z hz hz1
  have := h6 i d (by omega) i1 hd (by rw [i2]; exact hb) (by rw [i2]; exact (h3 _ hb hz2).1)
  rw [i2] at this
  exact this
/-- nearer: by less is by one less -/
theorem zb_near {op : Nat → Bool} {a y d : Nat} (ha : a < 36) (hop : op a = true) (hy : y < 36) (hd : d < 4) (hb : zl_be y d < 36) (h36 : zb_far op a y < 36) (h0 : zb_far op a y ≠ 0) : zb_far op a (zl_be y d) < zb_far op a y ↔ zr_f (zb_far op a (zl_be y d)) = zb_far op a y - 1 := by
  obtain ⟨s1, s2, s3⟩ := zb_far_sp ha hop
  have hle := zb_far_le (op := op) ha hb
  constructor
  · intro h
    have := s3 (zl_be y d) (3 - d) hb (by omega) (by rw [zl_be_sym y hy d hd hb]; exact hy) (by omega) (by rw [zl_be_sym y hy d hd hb]; exact h36)
    rw [zl_be_sym y hy d hd hb] at this
    rw [zr_f_lt (by omega)]; omega
  · intro h
    unfold zr_f at h
    split at h <;> omega
section zR16
variable {X : Nat × (Nat → Int32)} {l : Launch} {I : Nat → Nat → Int32} {s : zS} {w : Nat} {L : Nat → Nat → Nat}
theorem cm_put (h : zm_at s I) (a b p n : Int32) : zs_m X l mX6_putAway [.ref 38, .int a, .int b, .int p, .int n] I (zo_put s a b p n) := by
  have hl := h.2.1
  have hP := hl.1.1
  have no : ∀ c, 1 ≤ c → c ≤ 6 → zo_put s a b p n = zx_no s c → fw_Go X l mX6_putAway (fun r σ => r = some (.int (zo_put s a b p n).1) ∧ ∃ I', σ = (fw_sh, I') ∧ zm_at (zo_put s a b p n).2 I' ∧ zf_lo I I') 34 0 0 [some (.ref 38), some (.int a), some (.int b), some (.int p), some (.int n), some (.int (zn_g c)), none, none, none] [] (fw_sh, I) := by
    intro c hc1 hc6 e
    refine fw_from [] 100 17 ok_X6_putAway ⟨_, wc_X6_putAway⟩ rfl ?_
    refine zq_br (zn_g0 hc6) (fun z => absurd z (by omega)) (fun _ => ?_)
    refine ⟨_, rt_no (X := X) (l := l) h hc1 hc6, fun v σ' hq => ?_⟩
    obtain ⟨rfl, I', rfl, h1, h2⟩ := hq
    exact zm_end e ⟨rfl, I', rfl, h1, h2⟩
  refine fw_enter [34] 100 ok_X6_putAway ⟨_, wc_X6_putAway⟩ rfl rfl rfl ?_
  refine ⟨_, rt_notYards (X := X) (l := l) (I := I) a b, ?_⟩
  rintro v σ' ⟨rfl, rfl⟩
  by_cases g : (zb_in a 36 && zb_in b 36) = true
  · rw [if_pos g]
    refine And.intro (fun z => absurd rfl z) (fun _ => ?_)
    refine ⟨_, rt_isPiece (X := X) (l := l) hl p, ?_⟩
    rintro v σ' ⟨rfl, rfl⟩
    refine zq_brn (zi_eq0 _) (fun g2 => ?_) (fun g2 => ?_)
    · have g2 : zb_in p (s.1 9 0) = true := by simpa using g2
      have g3 : (zb_in a 36 && zb_in b 36 && zb_in p (s.1 9 0)) = true := by rw [g, g2]; rfl
      refine ⟨_, rt_bound (X := X) (l := l) (I := I) n 1 36, ?_⟩
      rintro v σ' ⟨rfl, rfl⟩
      by_cases hk : zk_out n 1 36 = 0
      · rw [Bool.and_eq_true] at g
        obtain ⟨x, hx, rfl⟩ := zb_in_of g.1 (by omega)
        obtain ⟨y, hy, rfl⟩ := zb_in_of g.2 (by omega)
        obtain ⟨q, hq, rfl⟩ := zb_in_of g2 (by omega)
        obtain ⟨j, hj1, hj, rfl⟩ := zk_out_sp hk
        have ex := nI_clamp (n := x) (by omega)
        have ey := nI_clamp (n := y) (by omega)
        have eq := nI_clamp (n := q) (by omega)
        have ej := nI_clamp (n := j) (by omega)
        rw [hk]
        simp only [zo_put, g3, hk, ex, ey, eq, ej, if_true]
        have c1 := rt_findFar (X := X) (l := l) hl (by omega) hy
        generalize zl_op s.1 (zl_ow s.1 6) = op at c1 ⊢
        refine fw_from [71] 100 17 ok_X6_putAway ⟨_, wc_X6_putAway⟩ rfl ?_
        refine And.intro (fun _ => ?_) (fun z => absurd rfl z)
        refine ⟨_, c1, ?_⟩
        rintro v σ' ⟨rfl, I1, rfl, hI, hf⟩
        have hm := (hf.h5 (w := 1)).m h
        have hlo := (hf.h5 (w := 1)).lo
        have fle : ∀ z, z < 36 → zb_far op y z ≤ 36 := fun z hz => zb_far_le hy hz
        have fle2 := fun z hz => zr_f_le (fle z hz)
        have flx := fle2 x hx
        refine And.intro (fw_in1 x 36 hx) ?_
        refine zq_ne (zr_f (zb_far op y x)) 1000 (zq_rd (hI x hx)) rfl (fun k => ?_) (fun k => ?_)
        · have k : ¬ zb_far op y x = 36 := fun z => k ((zr_f36 (fle x hx)).mpr z)
          have hop : op y = true := by
            cases ho : op y
            · exact absurd (by simp [zb_far, ho]) k
            · rfl
          obtain ⟨s1, s2, s3⟩ := zb_far_sp hy hop
          have fin : ∀ z k v8, z < 36 → fw_Go X l mX6_putAway (fun r σ => r = some (.int (if zb_far op y x ≠ 36 ∧ zl_ow s.1 6 z = q then 1 else 0)) ∧ ∃ I', σ = (fw_sh, I') ∧ zm_at s I' ∧ zf_lo I I') 142 0 0 [some (.ref 38), some (.int (nI x)), some (.int (nI y)), some (.int (nI q)), some (.int (nI j)), some (.int 0), some (.int (nI z)), some (.int (nI k)), v8] [] (fw_sh, I1) := by
            intro z k' v8 hz
            refine fw_from [] 100 71 ok_X6_putAway ⟨_, wc_X6_putAway⟩ rfl ?_
            refine ⟨_, rt_ownerOf (X := X) (l := l) hm.2.1 hz (by omega), ?_⟩
            rintro v σ' ⟨rfl, rfl⟩
            refine zq_brn (z9_eqn hP hq) (fun e => ?_) (fun e => ?_)
            · exact ⟨zr_e (by rw [if_neg (fun z => e z.2)]), I1, rfl, hm, hlo⟩
            · exact ⟨zr_e (by rw [if_pos ⟨k, e⟩]), I1, rfl, hm, hlo⟩
          have loop : ∀ r k' z v8, k' + r = j → z < 36 → zb_far op y z < 36 → fw_Go X l mX6_putAway (fun rr σ => rr = some (.int (if zb_far op y x ≠ 36 ∧ zl_ow s.1 6 (zb_st (zb_far op y) r z) = q then 1 else 0)) ∧ ∃ I', σ = (fw_sh, I') ∧ zm_at s I' ∧ zf_lo I I') 71 0 0 [some (.ref 38), some (.int (nI x)), some (.int (nI y)), some (.int (nI q)), some (.int (nI j)), some (.int 0), some (.int (nI z)), some (.int (nI k')), v8] [] (fw_sh, I1) := by
            intro r
            induction r with
            | zero =>
              intro k' z v8 hk' hz hz36
              refine fw_from [71, 142] 100 38 ok_X6_putAway ⟨_, wc_X6_putAway⟩ rfl ?_
              refine zq_le j k' rfl rfl (fun _ => ?_) (fun z => absurd z (by omega))
              exact fw_sub (fin z k' v8 hz) (by rfl) rfl
            | succ r ih =>
              intro k' z v8 hk' hz hz36
              by_cases hzy : z = y
              · subst hzy
                rw [show zb_st (zb_far op z) (r + 1) z = z by simp only [zb_st]; rw [if_pos s1.1]]
                refine fw_from [71, 142] 100 38 ok_X6_putAway ⟨_, wc_X6_putAway⟩ rfl ?_
                refine zq_le j k' rfl rfl (fun _ => ?_) (fun _ => ?_)
                · exact fw_sub (fin z k' v8 hz) (by rfl) rfl
                · refine And.intro (fun _ => ?_) (fun q => absurd rfl q)
                  exact fw_sub (fin z k' v8 hz) (by rfl) rfl
              · have hz0 : zb_far op y z ≠ 0 := fun q => hzy (s1.2 z hz q)
                rw [show zb_st (zb_far op y) (r + 1) z = zb_st (zb_far op y) r (zb_nr (zb_far op y) z 4 0) by simp only [zb_st]; rw [if_neg hz0]]
                have inner : ∀ m d, d + m = 4 → (∃ e, d ≤ e ∧ e < 4 ∧ zl_be z e < 36 ∧ zb_far op y (zl_be z e) < zb_far op y z) → fw_Go X l mX6_putAway (fun rr σ => rr = some (.int (if zb_far op y x ≠ 36 ∧ zl_ow s.1 6 (zb_st (zb_far op y) r (zb_nr (zb_far op y) z m d)) = q then 1 else 0)) ∧ ∃ I', σ = (fw_sh, I') ∧ zm_at s I' ∧ zf_lo I I') 87 0 0 [some (.ref 38), some (.int (nI x)), some (.int (nI y)), some (.int (nI q)), some (.int (nI j)), some (.int 0), some (.int (nI z)), some (.int (nI k')), some (.int (nI d))] [] (fw_sh, I1) := by
                  intro m
                  induction m with
                  | zero => intro d hd ⟨e, e1, e2, _⟩; omega
                  | succ m ihm =>
                    intro d hd hex
                    have nxt : ¬ (zl_be z d < 36 ∧ zb_far op y (zl_be z d) < zb_far op y z) → fw_Go X l mX6_putAway (fun rr σ => rr = some (.int (if zb_far op y x ≠ 36 ∧ zl_ow s.1 6 (zb_st (zb_far op y) r (zb_nr (zb_far op y) z (m + 1) d)) = q then 1 else 0)) ∧ ∃ I', σ = (fw_sh, I') ∧ zm_at s I' ∧ zf_lo I I') 87 0 0 [some (.ref 38), some (.int (nI x)), some (.int (nI y)), some (.int (nI q)), some (.int (nI j)), some (.int 0), some (.int (nI z)), some (.int (nI k')), some (.int (nI (d + 1)))] [] (fw_sh, I1) := fun hn => by
                      rw [show zb_nr (zb_far op y) z (m + 1) d = zb_nr (zb_far op y) z m (d + 1) by simp only [zb_nr]; rw [if_neg hn]]
                      refine ihm (d + 1) (by omega) ?_
                      obtain ⟨e, e1, e2, e3, e4⟩ := hex
                      exact ⟨e, by
                        by_cases ed : e = d
                        · subst ed; exact absurd ⟨e3, e4⟩ hn
                        · omega, e2, e3, e4⟩
                    refine fw_from [71, 87] 100 46 ok_X6_putAway ⟨_, wc_X6_putAway⟩ rfl ?_
                    refine ⟨_, rt_beside (X := X) (l := l) (I := I1) hz (by omega : d < 4), ?_⟩
                    rintro v σ' ⟨rfl, rfl⟩
                    refine zq_br (z9_neg (by omega)) (fun q1 => ?_) (fun q1 => ?_)
                    · exact fw_sub (nxt (fun z => q1 z.1)) (by simp only [nI_1]) rfl
                    have q1 : zl_be z d < 36 := Decidable.not_not.mp q1
                    have b1 := z9_some q1
                    have nr := zb_near hy hop hz (by omega : d < 4) q1 hz36 hz0
                    have fl1 := fle2 _ q1
                    refine ⟨_, rt_beside (X := X) (l := l) (I := I1) hz (by omega : d < 4), ?_⟩
                    rintro v σ' ⟨rfl, rfl⟩
                    refine And.intro (fw_in1 (zl_be z d) 36 q1 b1) ?_
                    refine And.intro (fw_in1 z 36 hz) ?_
                    refine zq_eq (zr_f (zb_far op y (zl_be z d))) (zb_far op y z - 1) ?_ ?_ (fun c => ?_) (fun c => ?_)
                    · show I1 51 (z9_o 36 (zl_be z d)).toNatClampNeg = _
                      rw [b1]; exact zq_rd (hI _ q1)
                    · show I1 51 (nI z).toNatClampNeg - 1 = _
                      rw [zq_rd (hI z hz), zr_f_lt hz36, show (1 : Int32) = nI 1 from rfl, zn_sub (by omega)]
                    · rw [show zb_nr (zb_far op y) z (m + 1) d = zl_be z d by simp only [zb_nr]; rw [if_pos ⟨q1, nr.mpr c⟩]]
                      refine ⟨_, rt_beside (X := X) (l := l) (I := I1) hz (by omega : d < 4), ?_⟩
                      rintro v σ' ⟨rfl, rfl⟩
                      have := nr.mpr c
                      exact fw_sub (ih (k' + 1) (zl_be z d) (some (.int (nI d))) (by omega) q1 (by omega)) (by rw [b1]; simp only [nI_1]) rfl
                    · exact fw_sub (nxt (fun z => c (nr.mp z.2))) (by simp only [nI_1]) rfl
                have hex : ∃ e, 0 ≤ e ∧ e < 4 ∧ zl_be z e < 36 ∧ zb_far op y (zl_be z e) < zb_far op y z := by
                  rcases s2 z hz hz36 with e | ⟨d, d1, d2, d3⟩
                  · exact absurd e hzy
                  · exact ⟨d, Nat.zero_le _, d1, d2, by omega⟩
                refine fw_from [71, 87, 142] 100 38 ok_X6_putAway ⟨_, wc_X6_putAway⟩ rfl ?_
                refine zq_le j k' rfl rfl (fun q => absurd q (by omega)) (fun _ => ?_)
                refine zq_eq z y rfl rfl (fun q => absurd q hzy) (fun _ => ?_)
                exact fw_sub (inner 4 0 (by omega) hex) (by rfl) rfl
          exact fw_sub (loop j 0 x none (by omega) hx (by have := fle x hx; omega)) (by rfl) rfl
        · rw [zr_f36 (fle x hx)] at k
          exact ⟨zr_e (by rw [if_neg (fun z => z.1 k)]), I1, rfl, hm, hlo⟩
      · exact fw_sub (no (zk_out n 1 36) (by omega) zk_out_le (by simp only [zo_put, g3, hk, if_true, if_false])) (by rfl) rfl
    · exact fw_sub (no 1 (by omega) (by omega) (by unfold zo_put; rw [if_neg (by simp [g2])])) (by rfl) rfl
  · rw [if_neg g]
    refine And.intro (fun _ => ?_) (fun z => absurd z (by decide))
    exact fw_sub (no 1 (by omega) (by omega) (by unfold zo_put; rw [if_neg (fun z => g (by rw [Bool.and_eq_true] at z; exact z.1))])) (by rfl) rfl
end zR16
