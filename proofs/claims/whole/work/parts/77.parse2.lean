theorem zy_fm5 {c : Nat} (h : 0 < zy_fm c) : c = 100 ∨ c = 103 ∨ c = 112 ∨ c = 114 ∨ c = 116 := by
  unfold zy_fm at h
  repeat' split at h
  all_goals omega
/-- a statement at a that isn't one: the place of its odd letter -/
def zy_bad (T : Nat → Nat) (n a e : Nat) : Prop := (a < n → ∀ k, zy_run T n (k + 1) a = e + 1) ∧ (¬ a < n → e = a)
section zR18
variable {X : Nat × (Nat → Int32)} {l : Launch} {I : Nat → Nat → Int32} {s : zS} {T : Nat → Nat} {n : Nat}
theorem zy_R1 {a p D : Nat} {r : Option Value} {I' : Nat → Nat → Int32} (htn : zy_tn T a = 1) (htv : zy_tv T a 0 = zy_V T (a + 1) D) (F : ∀ u k, ¬ (u = 49 ∧ k = p) → ¬ (u = 38 ∧ k = 16) → I' u k = I u k) (h : (r = some (.int 1) ∧ (∀ j, j < 0 + D → zy_H T n a j) ∧ I' 38 16 = nI (a + 1 + (0 + D)) ∧ I' 49 p = nI (zy_V T (a + 1 + 0) D)) ∨ (r = some (.int 0) ∧ ∃ e, e < 0 + D ∧ (∀ j, j < e → zy_H T n a j) ∧ ¬ zy_H T n a e ∧ I' 38 16 = nI (a + 1 + e))) : zy_R T n a p D (zy_tn T a) I r (fw_sh, I') := by
  rw [Nat.zero_add] at h
  refine ⟨I', rfl, fun u k h1 h2 => F u k (by omega) h2, ?_⟩
  rcases h with ⟨r1, r2, r3, r4⟩ | h
  · refine Or.inl ⟨r1, r2, r3, fun j hj => ?_⟩
    have : j = 0 := by omega
    subst this
    rw [htv]; exact r4
  · exact Or.inr h
theorem rt_rdAll (h : zy_rx T n I) {a p : Nat} (hT : 0 < zy_fm (T a)) (hc : I 38 16 = nI (a + 1)) (ha : a ≤ 100) (hp : p + 5 ≤ 240) : fw_Sem X l mX6_readsAll [.ref 38, .int (nI (T a)), .int (nI p)] (fw_sh, I) (zy_R T n a p (zy_fl (zy_fm (T a)) - 1) (zy_tn T a) I) := by
  have h255 := h.2.2.2 a
  have h5 := zy_fm5 hT
  have s2 : ∀ j, j < 1 → zy_sg 2 j = 100 := by decide
  have s3 : ∀ j, j < 5 → zy_sg 3 j = 100 := by decide
  have s4 : ∀ j, j < 2 → zy_sg 4 j = 100 := by decide
  have hz : ∀ j, j < 0 → zy_H T n a j := fun j hj => absurd hj (by omega)
  refine fw_enter [] 100 ok_X6_readsAll ⟨_, wc_X6_readsAll⟩ rfl rfl rfl ?_
  refine zq_eq (T a) 100 rfl rfl (fun k => ?_) (fun k1 => ?_)
  · have f4 : zy_fm (T a) = 4 := by rw [k]; rfl
    refine ⟨_, rt_blk (X := X) (l := l) h (a := a) (i := 0) (p := p) (D := 2) (Or.inr rfl) (fun j _ h2 => by rw [f4]; exact s4 j (by omega)) hz hc (by omega) (by omega), ?_⟩
    rintro v σ' ⟨I', rfl, F, hq⟩
    have := zy_R1 (I := I) (D := 2) (show zy_tn T a = 1 by simp [zy_tn, k]) (show zy_tv T a 0 = zy_V T (a + 1) 2 by rw [zy_V2]; simp [zy_tv, k]) F hq
    rw [show zy_fl (zy_fm (T a)) - 1 = 2 by rw [f4]; rfl]
    rcases hq with ⟨rfl, _⟩ | ⟨rfl, _⟩
    · exact ⟨by decide, this⟩
    · exact ⟨by decide, this⟩
  refine zq_eq (T a) 103 rfl rfl (fun k => ?_) (fun k2 => ?_)
  · have f3 : zy_fm (T a) = 3 := by rw [k]; rfl
    have tv : ∀ j, zy_tv T a j = if j = 0 then zy_n2 T (a + 1) else if j = 1 then zy_n2 T (a + 3) else zy_d T (a + 5) := fun j => by simp [zy_tv, k]
    rw [show zy_fl (zy_fm (T a)) - 1 = 5 by rw [f3]; rfl, show zy_tn T a = 3 by simp [zy_tn, k]]
    have rx : ∀ J : Nat → Nat → Int32, (∀ u k, ¬ (u = 49 ∧ p ≤ k ∧ k < p + 5) → ¬ (u = 38 ∧ k = 16) → J u k = I u k) → zy_rx T n J := fun J hJ => ⟨by rw [hJ 38 15 (by omega) (by omega)]; exact h.1, fun j hj => by rw [hJ 46 j (by omega) (by omega)]; exact h.2.1 j hj, h.2.2⟩
    have mk : ∀ J J' : Nat → Nat → Int32, (∀ u k, ¬ (u = 49 ∧ p ≤ k ∧ k < p + 5) → ¬ (u = 38 ∧ k = 16) → J u k = I u k) → ∀ q, p ≤ q → q < p + 5 → (∀ u k, ¬ (u = 49 ∧ k = q) → ¬ (u = 38 ∧ k = 16) → J' u k = J u k) → (∀ u k, ¬ (u = 49 ∧ p ≤ k ∧ k < p + 5) → ¬ (u = 38 ∧ k = 16) → J' u k = I u k) := fun J J' hJ q q1 q2 hJ' u k h1 h2 => by rw [hJ' u k (by omega) h2]; exact hJ u k h1 h2
    refine ⟨_, rt_blk (X := X) (l := l) h (a := a) (i := 0) (p := p) (D := 2) (Or.inr rfl) (fun j _ h2 => by rw [f3]; exact s3 j (by omega)) hz hc (by omega) (by omega), ?_⟩
    rintro v' σ' ⟨I2, rfl, F2, (⟨rfl, a1, a2, a3⟩ | ⟨rfl, e, e1, e2, e3, e4⟩)⟩
    rotate_left
    · refine And.intro (fun _ => ?_) (fun z => absurd rfl z)
      exact ⟨by decide, I2, rfl, mk I I2 (fun _ _ _ _ => rfl) p (by omega) (by omega) F2, Or.inr ⟨rfl, e, by omega, e2, e3, e4⟩⟩
    refine And.intro (fun z => absurd z (by decide)) (fun _ => ?_)
    have F2' := mk I I2 (fun _ _ _ _ => rfl) p (by omega) (by omega) F2
    have c2 := rt_blk (X := X) (l := l) (rx I2 F2') (a := a) (i := 2) (p := p + 1) (D := 2) (Or.inr rfl) (fun j _ h2 => by rw [f3]; exact s3 j (by omega)) a1 a2 (by omega) (by omega)
    rw [← nI_1] at c2
    refine ⟨_, c2, ?_⟩
    rintro v' σ' ⟨I3, rfl, F3, (⟨rfl, b1, b2, b3⟩ | ⟨rfl, e, e1, e2, e3, e4⟩)⟩
    rotate_left
    · refine And.intro (fun _ => ?_) (fun z => absurd rfl z)
      exact ⟨by decide, I3, rfl, mk I2 I3 F2' (p + 1) (by omega) (by omega) F3, Or.inr ⟨rfl, e, by omega, e2, e3, e4⟩⟩
    refine And.intro (fun z => absurd z (by decide)) (fun _ => ?_)
    have F3' := mk I2 I3 F2' (p + 1) (by omega) (by omega) F3
    have c3 := rt_blk (X := X) (l := l) (rx I3 F3') (a := a) (i := 4) (p := p + 2) (D := 1) (Or.inl rfl) (fun j _ h2 => by rw [f3]; exact s3 j (by omega)) b1 b2 (by omega) (by omega)
    rw [← nI_add] at c3
    refine ⟨_, c3, ?_⟩
    rintro v' σ' ⟨I4, rfl, F4, (⟨rfl, d1, d2, d3⟩ | ⟨rfl, e, e1, e2, e3, e4⟩)⟩
    rotate_left
    · refine And.intro (fun _ => ?_) (fun z => absurd rfl z)
      exact ⟨by decide, I4, rfl, mk I3 I4 F3' (p + 2) (by omega) (by omega) F4, Or.inr ⟨rfl, e, by omega, e2, e3, e4⟩⟩
    refine And.intro (fun z => absurd z (by decide)) (fun _ => ?_)
    refine ⟨by decide, I4, rfl, mk I3 I4 F3' (p + 2) (by omega) (by omega) F4, Or.inl ⟨rfl, d1, d2, fun j hj => ?_⟩⟩
    rw [tv]
    rcases (show j = 0 ∨ j = 1 ∨ j = 2 by omega) with rfl | rfl | rfl
    · rw [F4 49 _ (by omega) (by omega), F3 49 _ (by omega) (by omega)]
      rw [zy_V2] at a3
      exact a3
    · rw [F4 49 _ (by omega) (by omega), b3, zy_V2]; rfl
    · rw [d3, zy_V1]; rfl
  refine zq_eq (T a) 112 rfl rfl (fun k => ?_) (fun k3 => ?_)
  · have f1 : zy_fm (T a) = 1 := by rw [k]; rfl
    rw [show zy_fl (zy_fm (T a)) - 1 = 6 by rw [f1]; rfl, show zy_tn T a = 5 by simp [zy_tn, k]]
    refine ⟨_, rt_rdPiece (X := X) (l := l) h k hc ha hp, ?_⟩
    rintro v σ' hq
    have hq2 := hq
    obtain ⟨I', rfl, F, (⟨rfl, _⟩ | ⟨rfl, _⟩)⟩ := hq2
    · exact ⟨by decide, hq⟩
    · exact ⟨by decide, hq⟩
  · have f2 : zy_fm (T a) = 2 := by rcases (show T a = 114 ∨ T a = 116 by omega) with k | k <;> (rw [k]; rfl)
    refine ⟨_, rt_blk (X := X) (l := l) h (a := a) (i := 0) (p := p) (D := 1) (Or.inl rfl) (fun j _ h2 => by rw [f2]; exact s2 j (by omega)) hz hc (by omega) (by omega), ?_⟩
    rintro v σ' ⟨I', rfl, F, hq⟩
    have := zy_R1 (I := I) (D := 1) (show zy_tn T a = 1 by simp [zy_tn, k2, k3]) (show zy_tv T a 0 = zy_V T (a + 1) 1 by rw [zy_V1]; simp [zy_tv, k1, k2, k3]) F hq
    rw [show zy_fl (zy_fm (T a)) - 1 = 1 by rw [f2]; rfl]
    rcases hq with ⟨rfl, _⟩ | ⟨rfl, _⟩
    · exact ⟨by decide, this⟩
    · exact ⟨by decide, this⟩
theorem zy_sg_end : ∀ f, f < 5 → 0 < f → zy_sg f (zy_fl f - 1) = 59 := by decide
theorem rt_state (h : zy_rx T n I) {a m : Nat} (h16 : I 38 16 = nI a) (h17 : I 38 17 = nI m) (ha : a ≤ 96) (hm : m < 48) : fw_Sem X l mX6_statement [.ref 38] (fw_sh, I) (fun r σ => ∃ I', σ = (fw_sh, I') ∧ (∀ u k, ¬ (u = 47 ∧ k = m) → ¬ (u = 48 ∧ k = m) → ¬ (u = 49 ∧ 5 * m ≤ k ∧ k < 5 * m + 5) → ¬ (u = 38 ∧ k = 16) → I' u k = I u k) ∧ ((r = some (.int 1) ∧ a < n ∧ zy_wf T n a ∧ I' 38 16 = nI (a + 1 + zy_fl (zy_fm (T a))) ∧ I' 47 m = nI (T a) ∧ I' 48 m = nI a ∧ ∀ j, j < zy_tn T a → I' 49 (5 * m + j) = nI (zy_tv T a j)) ∨ (r = some (.int 0) ∧ ∃ e, e ≤ 200 ∧ zy_bad T n a e ∧ I' 38 16 = nI e))) := by
  have hn := h.2.2.1
  have h255 := h.2.2.2 a
  by_cases han : a < n
  · have cn := rt_next (X := X) (l := l) h h16 (by omega)
    rw [if_pos han] at cn
    have go37 : 0 < zy_fm (T a) → fw_Go X l mX6_statement (fun r σ => ∃ I', σ = (fw_sh, I') ∧ (∀ u k, ¬ (u = 47 ∧ k = m) → ¬ (u = 48 ∧ k = m) → ¬ (u = 49 ∧ 5 * m ≤ k ∧ k < 5 * m + 5) → ¬ (u = 38 ∧ k = 16) → I' u k = I u k) ∧ ((r = some (.int 1) ∧ a < n ∧ zy_wf T n a ∧ I' 38 16 = nI (a + 1 + zy_fl (zy_fm (T a))) ∧ I' 47 m = nI (T a) ∧ I' 48 m = nI a ∧ ∀ j, j < zy_tn T a → I' 49 (5 * m + j) = nI (zy_tv T a j)) ∨ (r = some (.int 0) ∧ ∃ e, e ≤ 200 ∧ zy_bad T n a e ∧ I' 38 16 = nI e))) 37 0 0 [some (.ref 38), some (.int (nI (T a)))] [] (fw_sh, I) := by
      intro hT
      have hf5 : zy_fm (T a) < 5 := by have := zy_fm_le (T a); omega
      have hfl := zy_fl_pos _ hf5 hT
      have hse := zy_sg_end _ hf5 hT
      obtain ⟨I1, hI1⟩ : ∃ I1, I1 = fw_up (fw_up (fw_up I 47 m (nI (T a))) 48 m (nI a)) 38 16 (nI (a + 1)) := ⟨_, rfl⟩
      have F1 : ∀ u k, ¬ (u = 47 ∧ k = m) → ¬ (u = 48 ∧ k = m) → ¬ (u = 38 ∧ k = 16) → I1 u k = I u k := fun u k q1 q2 q3 => by rw [hI1, fw_up_p u k (by omega), fw_up_p u k (by omega), fw_up_p u k (by omega)]
      have rx1 : zy_rx T n I1 := ⟨by rw [F1 38 15 (by omega) (by omega) (by omega)]; exact h.1, fun j hj => by rw [F1 46 j (by omega) (by omega) (by omega)]; exact h.2.1 j hj, h.2.2⟩
      have g47 : I1 47 m = nI (T a) := by rw [hI1, fw_up_ne 47 (by omega), fw_up_ne 47 (by omega), fw_up_at]
      have g48 : I1 48 m = nI a := by rw [hI1, fw_up_ne 48 (by omega), fw_up_at]
      have g16 : I1 38 16 = nI (a + 1) := by rw [hI1, fw_up_at]
      have g17 : I1 38 17 = nI m := by rw [F1 38 17 (by omega) (by omega) (by omega)]; exact h17
      have bad : ∀ e, e < zy_fl (zy_fm (T a)) → (∀ j, j < e → zy_H T n a j) → ¬ zy_H T n a e → zy_bad T n a (a + 1 + e) := fun e he h1 h2 => by
        have ej := zy_j_at he h1 h2
        refine ⟨fun _ k => ?_, fun z => absurd han z⟩
        simp only [zy_run, han, if_true]
        rw [if_neg (by omega), if_neg (by omega), ej]
      have ca := rt_rdAll (X := X) (l := l) rx1 (a := a) (p := 5 * m) hT g16 (by omega) (by omega)
      rw [← pk_mul, ← g17] at ca
      have e1 : fw_up (fw_up (fw_up I 47 (I 38 17).toNatClampNeg (nI (T a))) 48 (fw_up I 47 (I 38 17).toNatClampNeg (nI (T a)) 38 17).toNatClampNeg (fw_up I 47 (I 38 17).toNatClampNeg (nI (T a)) 38 16)) 38 16 (fw_up (fw_up I 47 (I 38 17).toNatClampNeg (nI (T a))) 48 (fw_up I 47 (I 38 17).toNatClampNeg (nI (T a)) 38 17).toNatClampNeg (fw_up I 47 (I 38 17).toNatClampNeg (nI (T a)) 38 16) 38 16 + 1) = I1 := by
        rw [hI1, fw_up_ne 38 (show 38 ≠ 48 by omega), fw_up_ne 38 (show 38 ≠ 47 by omega), h17, h16, nI_clamp (by omega), nI_1]
      rw [← e1] at ca
      refine fw_from [] 100 20 ok_X6_statement ⟨_, wc_X6_statement⟩ rfl ?_
      refine And.intro (fw_in1 m 48 hm h17) ?_
      refine And.intro (fw_in1 m 48 hm (by dsimp only; rw [fw_up_ne 38 (show 38 ≠ 47 by omega)]; exact h17)) ?_
      refine ⟨_, ca, ?_⟩
      rintro v σ' hq
      rw [e1] at hq
      obtain ⟨I2, rfl, F2, (⟨rfl, a1, a2, a3⟩ | ⟨rfl, e, e1, e2, e3, e4⟩)⟩ := hq
      · have FF : ∀ u k, ¬ (u = 47 ∧ k = m) → ¬ (u = 48 ∧ k = m) → ¬ (u = 49 ∧ 5 * m ≤ k ∧ k < 5 * m + 5) → ¬ (u = 38 ∧ k = 16) → I2 u k = I u k := fun u k q1 q2 q3 q4 => by rw [F2 u k q3 q4]; exact F1 u k q1 q2 q4
        have rx2 : zy_rx T n I2 := ⟨by rw [FF 38 15 (by omega) (by omega) (by omega) (by omega)]; exact h.1, fun j hj => by rw [FF 46 j (by omega) (by omega) (by omega) (by omega)]; exact h.2.1 j hj, h.2.2⟩
        have cn2 := rt_next (X := X) (l := l) rx2 a2 (by omega)
        have HN : zy_H T n a (zy_fl (zy_fm (T a)) - 1) ↔ a + 1 + (zy_fl (zy_fm (T a)) - 1) < n ∧ T (a + 1 + (zy_fl (zy_fm (T a)) - 1)) = 59 := by
          unfold zy_H zy_ft
          rw [hse, if_neg (by omega), if_neg (by omega), decide_eq_true_iff]
        refine And.intro (fun z => absurd z (by decide)) (fun _ => ?_)
        refine ⟨_, cn2, ?_⟩
        rintro v σ' ⟨rfl, rfl⟩
        refine zq_br (d := zy_H T n a (zy_fl (zy_fm (T a)) - 1)) ?_ (fun g => ?_) (fun g => ?_)
        · rw [HN]
          by_cases hlt : a + 1 + (zy_fl (zy_fm (T a)) - 1) < n
          · have t255 := h.2.2.2 (a + 1 + (zy_fl (zy_fm (T a)) - 1))
            rw [if_pos hlt, show (59 : Int32) = nI 59 from rfl, nI_eq (by omega) (by omega)]
            exact ⟨fun z => ⟨hlt, z⟩, fun z => z.2⟩
          · rw [if_neg hlt]
            exact ⟨fun z => absurd z (by decide), fun z => absurd z.1 hlt⟩
        · refine ⟨by decide, fw_up I2 38 16 (nI (a + 1 + zy_fl (zy_fm (T a)))), ?_, fun u k q1 q2 q3 q4 => by rw [fw_up_p u k (by omega)]; exact FF u k q1 q2 q3 q4, Or.inl ⟨rfl, han, ⟨hT, fun j hj => ?_⟩, fw_up_at, ?_, ?_, fun j hj => ?_⟩⟩
          · dsimp only
            rw [a2, nI_1, show a + 1 + (zy_fl (zy_fm (T a)) - 1) + 1 = a + 1 + zy_fl (zy_fm (T a)) by omega]
          · by_cases e : j = zy_fl (zy_fm (T a)) - 1
            · rw [e]; exact g
            · exact a1 j (by omega)
          · rw [fw_up_ne 47 (by omega), F2 47 m (by omega) (by omega)]; exact g47
          · rw [fw_up_ne 48 (by omega), F2 48 m (by omega) (by omega)]; exact g48
          · rw [fw_up_ne 49 (by omega)]; exact a3 j hj
        · exact ⟨by decide, I2, rfl, FF, Or.inr ⟨rfl, a + 1 + (zy_fl (zy_fm (T a)) - 1), by omega, bad _ (by omega) a1 g, a2⟩⟩
      · refine And.intro (fun _ => ?_) (fun z => absurd rfl z)
        exact ⟨by decide, I2, rfl, fun u k q1 q2 q3 q4 => by rw [F2 u k q3 q4]; exact F1 u k q1 q2 q4, Or.inr ⟨rfl, a + 1 + e, by omega, bad e (by omega) e2 e3, e4⟩⟩
    refine fw_enter [37] 100 ok_X6_statement ⟨_, wc_X6_statement⟩ rfl rfl rfl ?_
    refine ⟨_, cn, ?_⟩
    rintro v σ' ⟨rfl, rfl⟩
    refine zq_eq (T a) 112 rfl rfl (fun k => fw_sub (go37 (by rw [k]; decide)) (by rfl) rfl) (fun k1 => ?_)
    refine zq_eq (T a) 114 rfl rfl (fun k => fw_sub (go37 (by rw [k]; decide)) (by rfl) rfl) (fun k2 => ?_)
    refine zq_eq (T a) 116 rfl rfl (fun k => fw_sub (go37 (by rw [k]; decide)) (by rfl) rfl) (fun k3 => ?_)
    refine zq_eq (T a) 103 rfl rfl (fun k => fw_sub (go37 (by rw [k]; decide)) (by rfl) rfl) (fun k4 => ?_)
    refine zq_eq (T a) 100 rfl rfl (fun k => fw_sub (go37 (by rw [k]; decide)) (by rfl) rfl) (fun k5 => ?_)
    refine ⟨by decide, I, rfl, fun _ _ _ _ _ _ => rfl, Or.inr ⟨rfl, a, by omega, ⟨fun _ k => ?_, fun z => absurd han z⟩, h16⟩⟩
    simp only [zy_run, han, if_true]
    rw [if_pos (by simp [zy_fm, k1, k2, k3, k4, k5])]
  · have cn := rt_next (X := X) (l := l) h h16 (by omega)
    rw [if_neg han] at cn
    refine fw_enter [37] 100 ok_X6_statement ⟨_, wc_X6_statement⟩ rfl rfl rfl ?_
    refine ⟨_, cn, ?_⟩
    rintro v σ' ⟨rfl, rfl⟩
    refine And.intro (fun z => absurd z (by decide)) (fun _ => ?_)
    refine And.intro (fun z => absurd z (by decide)) (fun _ => ?_)
    refine And.intro (fun z => absurd z (by decide)) (fun _ => ?_)
    refine And.intro (fun z => absurd z (by decide)) (fun _ => ?_)
    refine And.intro (fun z => absurd z (by decide)) (fun _ => ?_)
    exact ⟨by decide, I, rfl, fun _ _ _ _ _ _ => rfl, Or.inr ⟨rfl, a, by omega, ⟨fun z => absurd z han, fun _ => rfl⟩, h16⟩⟩
end zR18
