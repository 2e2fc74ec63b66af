abbrev zb_T : Type := (Nat → Nat) × (Nat → Nat) × Nat
def zb_set (f : Nat → Nat) (k v : Nat) : Nat → Nat := fun j => if j = k then v else f j
def zb_c (op : Nat → Bool) (y w : Nat) (s : zb_T) : Prop := zl_be y w < 36 ∧ s.1 (zl_be y w) = 36 ∧ op (zl_be y w) = true
def zb_p (y w : Nat) (s : zb_T) : zb_T := (zb_set s.1 (zl_be y w) (s.1 y + 1), zb_set s.2.1 s.2.2 (zl_be y w), s.2.2 + 1)
noncomputable def zb_1 (op : Nat → Bool) (y w : Nat) (s : zb_T) : zb_T := @ite _ (zb_c op y w s) (Classical.propDecidable _) (zb_p y w s) s
theorem zb_1_y {op : Nat → Bool} {y w : Nat} {s : zb_T} (h : zb_c op y w s) : zb_1 op y w s = zb_p y w s := by simp [zb_1, h]
theorem zb_1_n {op : Nat → Bool} {y w : Nat} {s : zb_T} (h : ¬ zb_c op y w s) : zb_1 op y w s = s := by simp [zb_1, h]
noncomputable def zb_it (op : Nat → Bool) (y : Nat) : Nat → zb_T → zb_T
  | 0, s => s
  | w + 1, s => zb_1 op y w (zb_it op y w s)
noncomputable def zb_run (op : Nat → Bool) : Nat → Nat → zb_T → zb_T
  | 0, _, s => s
  | f + 1, k, s => if k < s.2.2 then zb_run op f (k + 1) (zb_it op (s.2.1 k) 4 s) else s
def zb_0 (a : Nat) : zb_T := (fun y => if y = a then 0 else 36, fun _ => a, 1)
noncomputable def zb_far (op : Nat → Bool) (a : Nat) : Nat → Nat := if op a = true then (zb_run op 36 0 (zb_0 a)).1 else fun _ => 36
def zb_ok (s : zb_T) : Prop := s.2.2 = zm_s (fun y => if s.1 y = 36 then 0 else 1) 36 ∧ (∀ y, y < 36 → s.1 y ≤ 36) ∧ ∀ i, i < s.2.2 → s.2.1 i < 36 ∧ s.1 (s.2.1 i) ≤ i
theorem zm_s_set {f g : Nat → Nat} {k : Nat} (h0 : f k = 0) (h1 : g k = 1) (h2 : ∀ y, y ≠ k → g y = f y) : ∀ n, zm_s g n = zm_s f n + (if k < n then 1 else 0)
  | 0 => by simp [zm_s]
  | n + 1 => by
    have ih := zm_s_set h0 h1 h2 n
    simp only [zm_s, ih]
    by_cases hn : n = k
    · subst hn; simp [h0, h1]
    · rw [h2 n hn]
      by_cases hk : k < n
      · simp [hk, show k < n + 1 by omega]; omega
      · simp [hk, show ¬ k < n + 1 by omega]
theorem zb_ok.le {s : zb_T} (h : zb_ok s) : s.2.2 ≤ 36 := by
  rw [h.1]
  have := zm_s_le (f := fun y => if s.1 y = 36 then 0 else 1) (b := 1) (fun k => by split <;> omega) 36
  omega
theorem zb_ok.lt {s : zb_T} (h : zb_ok s) {z : Nat} (hz : z < 36) (h36 : s.1 z = 36) : s.2.2 < 36 := by
  rw [h.1]
  have e := zm_s_set (f := fun y => if s.1 y = 36 then 0 else 1) (g := fun y => if y = z then 1 else if s.1 y = 36 then 0 else 1) (k := z) (by simp [h36]) (by simp) (fun y hy => by simp [hy]) 36
  have := zm_s_le (f := fun y => if y = z then 1 else if s.1 y = 36 then 0 else 1) (b := 1) (fun k => by split <;> first | omega | (split <;> omega)) 36
  rw [e, if_pos hz] at this
  omega
theorem zb_p_ok {op : Nat → Bool} {y w : Nat} {s : zb_T} (h : zb_ok s) (hc : zb_c op y w s) (hy : s.1 y + 1 ≤ s.2.2) : zb_ok (zb_p y w s) ∧ (zb_p y w s).1 y = s.1 y := by
  have hle := h.le
  obtain ⟨c1, c2, c3⟩ := hc
  have hlt := h.lt c1 c2
  have hne : y ≠ zl_be y w := fun z => by rw [← z] at c2; omega
  refine ⟨⟨?_, fun z hz => ?_, fun i hi => ?_⟩, by simp [zb_p, zb_set, hne]⟩
  · have e := zm_s_set (f := fun y => if s.1 y = 36 then 0 else 1) (g := fun z => if (zb_p y w s).1 z = 36 then 0 else 1) (k := zl_be y w) (by simp [c2]) (by simp [zb_p, zb_set]; omega) (fun z hz => by simp [zb_p, zb_set, hz]) 36
    rw [e, if_pos c1, ← h.1]
    rfl
  · simp only [zb_p, zb_set]
    split
    · omega
    · exact h.2.1 z hz
  · simp only [zb_p] at hi ⊢
    by_cases hi2 : i = s.2.2
    · subst hi2
      simp [zb_set, c1, hy]
    · have h3 := h.2.2 i (by omega)
      have hnx : s.2.1 i ≠ zl_be y w := fun z => by rw [z, c2] at h3; omega
      simp [zb_set, hi2, hnx, h3]
theorem zb_it_ok {op : Nat → Bool} {y : Nat} {s : zb_T} (h : zb_ok s) (hy : s.1 y + 1 ≤ s.2.2) : ∀ w, zb_ok (zb_it op y w s) ∧ (zb_it op y w s).1 y = s.1 y ∧ s.2.2 ≤ (zb_it op y w s).2.2
  | 0 => ⟨h, rfl, Nat.le_refl _⟩
  | w + 1 => by
    obtain ⟨g1, g2, g3⟩ := zb_it_ok h hy w
    simp only [zb_it]
    by_cases hc : zb_c op y w (zb_it op y w s)
    · rw [zb_1_y hc]
      obtain ⟨k1, k2⟩ := zb_p_ok g1 hc (by omega)
      refine ⟨k1, k2.trans g2, ?_⟩
      show s.2.2 ≤ (zb_it op y w s).2.2 + 1
      omega
    · rw [zb_1_n hc]
      exact ⟨g1, g2, g3⟩
theorem zb_0_ok {a : Nat} (ha : a < 36) : zb_ok (zb_0 a) := by
  refine ⟨?_, fun y hy => ?_, fun i hi => ?_⟩
  · have e := zm_s_set (f := fun _ => 0) (g := fun y => if (zb_0 a).1 y = 36 then 0 else 1) (k := a) rfl (by simp [zb_0]) (fun y hy => by simp [zb_0, hy]) 36
    have e0 : zm_s (fun _ => 0) 36 = 0 := by decide
    rw [e, if_pos ha, e0]
    rfl
  · simp only [zb_0]; split <;> omega
  · have : i = 0 := by simp only [zb_0] at hi; omega
    subst this
    simp [zb_0, ha]
theorem zb_run_ok {op : Nat → Bool} : ∀ (f k : Nat) (s : zb_T), zb_ok s → zb_ok (zb_run op f k s)
  | 0, _, s, h => h
  | f + 1, k, s, h => by
    simp only [zb_run]
    split
    · rename_i hk
      have := h.2.2 k hk
      exact zb_run_ok f (k + 1) _ (zb_it_ok h (by omega) 4).1
    · exact h
theorem zb_far_le {op : Nat → Bool} {a : Nat} (ha : a < 36) {y : Nat} (hy : y < 36) : zb_far op a y ≤ 36 := by
  unfold zb_far
  split
  · exact (zb_run_ok 36 0 _ (zb_0_ok ha)).2.1 y hy
  · exact Nat.le_refl _
def zw_at (s : zb_T) (I : Nat → Nat → Int32) : Prop := (∀ y, y < 36 → I 32 y = nI (s.1 y)) ∧ ∀ i, i < s.2.2 → I 33 i = nI (s.2.1 i)
