theorem zy_j_at {T : Nat → Nat} {n a i : Nat} (hi : i < zy_fl (zy_fm (T a))) (hb : ∀ j, j < i → a + 1 + j < n ∧ zy_ft (zy_fm (T a)) j (T (a + 1 + j)) = true) (hn : ¬ (a + 1 + i < n ∧ zy_ft (zy_fm (T a)) i (T (a + 1 + i)) = true)) : zy_j T n a = i := by
  refine zl_f_eq (by omega) (fun j hj => ?_) (fun _ => ?_)
  · have := hb j hj
    simp [this.1, this.2]
  · by_cases h1 : a + 1 + i < n
    · have h2 : ¬ zy_ft (zy_fm (T a)) i (T (a + 1 + i)) = true := fun z => hn ⟨h1, z⟩
      have h2 : zy_ft (zy_fm (T a)) i (T (a + 1 + i)) = false := by simpa using h2
      simp [h1, h2]
    · simp [h1]
theorem zy_j_all {T : Nat → Nat} {n a : Nat} (hb : ∀ j, j < zy_fl (zy_fm (T a)) → a + 1 + j < n ∧ zy_ft (zy_fm (T a)) j (T (a + 1 + j)) = true) : zy_j T n a = zy_fl (zy_fm (T a)) := by
  refine zl_f_eq (Nat.le_refl _) (fun j hj => ?_) (fun h => absurd h (by omega))
  have := hb j hj
  simp [this.1, this.2]
theorem zy_fl_pos : ∀ f, f < 5 → 0 < f → 2 ≤ zy_fl f ∧ zy_fl f ≤ 7 := by decide
section zY2
variable {X : Nat × (Nat → Int32)} {l : Launch} {I : Nat → Nat → Int32} {s : zS}
theorem ct_odd (h : zc_at s I) : zs_p X l mX3_firstOddLetter [.ref 34] I (zp_I (zy_odd (s.2.2.1 2) (s.2.2.1 1 0))) := by
  obtain ⟨T, hT⟩ : ∃ T, T = s.2.2.1 2 := ⟨_, rfl⟩
  obtain ⟨n, hN⟩ : ∃ n, n = s.2.2.1 1 0 := ⟨_, rfl⟩
  have h5 := h.2.2.2.2.1
  have h6 := h.2.2.2.2.2.1
  have h96 := h.1.2.2.1
  have h255 := h.1.2.2.2.1
  rw [← hT, ← hN] at *
  obtain ⟨R, hR⟩ : ∃ R, R = zy_odd T n := ⟨_, rfl⟩
  rw [← hR]
  have loop := zl_down (N := n) (G := fun q => ∀ a i k f, f = zy_fm (T a) → q = a + 1 + i → 0 < f → i ≤ zy_fl f → (∀ j, j < i → a + 1 + j < n ∧ zy_ft f j (T (a + 1 + j)) = true) → a < n → n - a ≤ k → R = zy_run T n k a → fw_Go X l mX3_firstOddLetter (fun r σ => r = some (.int (zp_I R)) ∧ σ = (fw_sh, I)) 7 0 0 [some (.ref 34), some (.ref (1000 + f)), some (.int (nI i)), some (.int (nI q))] [] (fw_sh, I)) (by
    intro a i k f hf hq hf0 hi hb ha hk hRk
    have hf5 : f < 5 := by rw [hf]; have := zy_fm_le (T a); omega
    have hfl := zy_fl_pos f hf5 hf0
    obtain ⟨k', rfl⟩ : ∃ k', k = k' + 1 := ⟨k - 1, by omega⟩
    have c1 := ct_len (X := X) (l := l) (I := I) f (by omega)
    have hR2 : R = if i < zy_fl f then n + 1 else 0 := by
      rw [hRk]
      have f0 : ¬ zy_fm (T a) = 0 := by omega
      by_cases hlt : i < zy_fl f
      · have ej : zy_j T n a = i := zy_j_at (by rw [← hf]; exact hlt) (by rw [← hf]; exact hb) (by omega)
        rw [if_pos hlt]
        simp only [zy_run, ha, if_true, f0, if_false, ej]
        rw [if_neg (by rw [← hf]; omega)]
        omega
      · have hi2 : i = zy_fl f := by omega
        subst hi2
        have ej : zy_j T n a = zy_fl (zy_fm (T a)) := zy_j_all (by rw [← hf]; exact hb)
        rw [if_neg hlt]
        simp only [zy_run, ha, if_true, f0, if_false, ej]
        rw [← hf, ← hq]
        cases k' <;> simp [zy_run]
    rcases (show f = 1 ∨ f = 2 ∨ f = 3 ∨ f = 4 by omega) with rfl | rfl | rfl | rfl <;>
    · refine fw_from [7] 100 6 ok_X3_firstOddLetter ⟨_, wc_X3_firstOddLetter⟩ rfl ?_
      refine zq_le n n h5 rfl (fun _ => ?_) (fun z => absurd z (by omega))
      refine zq_eq n 0 h5 rfl (fun z => absurd z (by omega)) (fun _ => ?_)
      refine ⟨_, c1, ?_⟩
      rintro v σ' ⟨rfl, rfl⟩
      refine zq_le _ i rfl rfl (fun z => ?_) (fun z => ?_)
      · rw [if_neg (by omega)] at hR2
        rw [hR2]; exact ⟨rfl, rfl⟩
      · rw [if_pos (by omega)] at hR2
        rw [hR2]; exact ⟨by simp [zp_I]; exact h5, rfl⟩) (fun q hqn ih => by
    intro a i k f hf hq hf0 hi hb ha hk hRk
    have hf5 : f < 5 := by rw [hf]; have := zy_fm_le (T a); omega
    have hfl := zy_fl_pos f hf5 hf0
    obtain ⟨k', rfl⟩ : ∃ k', k = k' + 1 := ⟨k - 1, by omega⟩
    have c1 := ct_len (X := X) (l := l) (I := I) f (by omega)
    have t1 := h6 q hqn
    have t2 := h255 q
    have f0 : ¬ zy_fm (T a) = 0 := by omega
    by_cases hlt : i < zy_fl f
    · have c2 := ct_charAt (X := X) (l := l) (I := I) hf5 hlt
      have c3 := ct_fit (X := X) (l := l) (I := I) (f := f) (i := i) t2
      rw [← t1] at c3
      have bad : zy_ft f i (T q) = false → R = q + 1 := by
        intro hbad
        rw [hRk]
        have ej : zy_j T n a = i := zy_j_at (by rw [← hf]; exact hlt) (by rw [← hf]; exact hb) (by rw [← hf, ← hq, hbad]; simp)
        simp only [zy_run, ha, if_true, f0, if_false, ej]
        rw [if_neg (by rw [← hf]; omega)]
        omega
      have good : zy_ft f i (T q) = true → ∀ j, j < i + 1 → a + 1 + j < n ∧ zy_ft f j (T (a + 1 + j)) = true := by
        intro hg j hj
        by_cases e : j = i
        · subst e; rw [← hq]; exact ⟨hqn, hg⟩
        · exact hb j (by omega)
      rcases (show f = 1 ∨ f = 2 ∨ f = 3 ∨ f = 4 by omega) with rfl | rfl | rfl | rfl <;>
      · refine fw_from [7] 100 6 ok_X3_firstOddLetter ⟨_, wc_X3_firstOddLetter⟩ rfl ?_
        refine zq_le n q h5 rfl (fun z => absurd z (by omega)) (fun _ => ?_)
        refine ⟨_, c1, ?_⟩
        rintro v σ' ⟨rfl, rfl⟩
        refine zq_ne i (zy_fl _) rfl rfl (fun _ => ?_) (fun z => absurd z (by omega))
        refine ⟨_, c2, ?_⟩
        rintro v σ' ⟨rfl, rfl⟩
        refine And.intro (fw_in1 q 96 (by omega)) ?_
        rw [← nI_clamp (n := q) (by omega)] at c3
        refine ⟨_, c3, ?_⟩
        rintro v σ' ⟨rfl, rfl⟩
        rw [nI_clamp (by omega)]
        refine zq_br (zi_eq0 _) (fun g => ?_) (fun g => ?_)
        · rw [bad g]; exact ⟨by simp [zp_I], rfl⟩
        · exact fw_sub (ih a (i + 1) (k' + 1) _ hf (by omega) hf0 (by omega) (good (by simpa using g)) ha hk hRk) (by simp only [nI_1]) rfl
    · have hi2 : i = zy_fl f := by omega
      have hR2 : R = zy_run T n k' q := by
        rw [hRk]
        have ej : zy_j T n a = zy_fl (zy_fm (T a)) := zy_j_all (by rw [← hf]; rw [hi2] at hb; exact hb)
        simp only [zy_run, ha, if_true, f0, if_false, ej]
        rw [← hf, ← hi2, ← hq]
      obtain ⟨k2, rfl⟩ : ∃ k2, k' = k2 + 1 := ⟨k' - 1, by omega⟩
      have c2 := ct_formOf (X := X) (l := l) (I := I) t2
      rw [← t1, ← nI_clamp (n := q) (by omega)] at c2
      obtain ⟨f2, hf2⟩ : ∃ f2, f2 = zy_fm (T q) := ⟨_, rfl⟩
      rw [nI_clamp (n := q) (by omega), ← hf2, ← nI_clamp (n := q) (by omega)] at c2
      have hf25 : f2 < 5 := by rw [hf2]; have := zy_fm_le (T q); omega
      have c3 := ct_empty (X := X) (l := l) (I := I) f2 hf25
      rcases (show f = 1 ∨ f = 2 ∨ f = 3 ∨ f = 4 by omega) with rfl | rfl | rfl | rfl <;>
      · refine fw_from [7] 100 6 ok_X3_firstOddLetter ⟨_, wc_X3_firstOddLetter⟩ rfl ?_
        refine zq_le n q h5 rfl (fun z => absurd z (by omega)) (fun _ => ?_)
        refine ⟨_, c1, ?_⟩
        rintro v σ' ⟨rfl, rfl⟩
        refine zq_ne i (zy_fl _) rfl rfl (fun z => absurd hi2 z) (fun _ => ?_)
        refine And.intro (fw_in1 q 96 (by omega)) ?_
        refine ⟨_, c2, ?_⟩
        rintro v σ' ⟨rfl, rfl⟩
        rcases (show f2 = 0 ∨ f2 = 1 ∨ f2 = 2 ∨ f2 = 3 ∨ f2 = 4 by omega) with e | e | e | e | e
        · subst e
          refine ⟨_, c3, ?_⟩
          rintro v σ' ⟨rfl, rfl⟩
          refine And.intro (fun z => absurd z (by decide)) (fun _ => ?_)
          have : R = q + 1 := by rw [hR2]; simp only [zy_run, hqn, if_true, ← hf2]
          rw [this]; exact ⟨by simp [zp_I], rfl⟩
        all_goals
          subst e
          refine ⟨_, c3, ?_⟩
          rintro v σ' ⟨rfl, rfl⟩
          refine And.intro (fun _ => ?_) (fun z => absurd (show zi (decide _) = 0 by decide) z)
          exact fw_sub (ih q 0 (k2 + 1) _ hf2 (by omega) (by omega) (by omega) (fun j hj => absurd hj (by omega)) hqn (by omega) hR2) (by simp only [nI_1]; rfl) rfl)
  refine fw_enter [7] 100 ok_X3_firstOddLetter ⟨_, wc_X3_firstOddLetter⟩ rfl rfl rfl ?_
  refine fw_from [7] 100 6 ok_X3_firstOddLetter ⟨_, wc_X3_firstOddLetter⟩ rfl ?_
  by_cases hn0 : n = 0
  · refine zq_le n 0 h5 rfl (fun _ => ?_) (fun z => absurd z (by omega))
    refine zq_eq n 0 h5 rfl (fun _ => ?_) (fun z => absurd hn0 z)
    have : R = 1 := by rw [hR]; simp [zy_odd, hn0]
    rw [this]
    exact ⟨by simp [zp_I]; rw [hn0] at h5; exact h5, rfl⟩
  · refine zq_le n 0 h5 rfl (fun z => absurd z (by omega)) (fun _ => ?_)
    refine ⟨_, ct_len (X := X) (l := l) (I := I) 0 (by omega), ?_⟩
    rintro v σ' ⟨rfl, rfl⟩
    refine And.intro (fun z => absurd rfl z) (fun _ => ?_)
    refine And.intro (fw_in1 0 96 (by omega)) ?_
    have t1 := h6 0 (by omega)
    have t2 := h255 0
    have hR2 : R = zy_run T n 96 0 := by rw [hR]; simp [zy_odd, hn0]
    have c2 := ct_formOf (X := X) (l := l) (I := I) t2
    obtain ⟨f2, hf2⟩ : ∃ f2, f2 = zy_fm (T 0) := ⟨_, rfl⟩
    rw [← t1, ← hf2] at c2
    have hf25 : f2 < 5 := by rw [hf2]; have := zy_fm_le (T 0); omega
    have c3 := ct_empty (X := X) (l := l) (I := I) f2 hf25
    refine ⟨_, c2, ?_⟩
    rintro v σ' ⟨rfl, rfl⟩
    rcases (show f2 = 0 ∨ f2 = 1 ∨ f2 = 2 ∨ f2 = 3 ∨ f2 = 4 by omega) with e | e | e | e | e
    · subst e
      refine ⟨_, c3, ?_⟩
      rintro v σ' ⟨rfl, rfl⟩
      refine And.intro (fun z => absurd z (by decide)) (fun _ => ?_)
      obtain ⟨k9, hk9⟩ : ∃ k, 96 = k + 1 := ⟨95, rfl⟩
      have : R = 1 := by rw [hR2, hk9]; simp only [zy_run, show 0 < n by omega, if_true, ← hf2]
      rw [this]; exact ⟨by simp [zp_I]; rfl, rfl⟩
    all_goals
      subst e
      refine ⟨_, c3, ?_⟩
      rintro v σ' ⟨rfl, rfl⟩
      refine And.intro (fun _ => ?_) (fun z => absurd (show zi (decide _) = 0 by decide) z)
      exact fw_sub (loop 1 (by omega) 0 0 96 _ hf2 (by omega) (by omega) (by omega) (fun j hj => absurd hj (by omega)) (by omega) (by omega) hR2) (by rfl) rfl
end zY2
