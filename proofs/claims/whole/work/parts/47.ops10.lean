def zl_tro (L : Nat → Nat → Nat) (ow : Nat → Nat) : Option Nat → Nat → Nat → Nat
  | some q => zl_tr L ow q
  | none => L
def zo_tuL (L : Nat → Nat → Nat) (ow : Nat → Nat) : Nat → (Nat → Nat → Nat) × Option Nat
  | 0 => (L, none)
  | n + 1 => (zl_pd (zl_tro (zo_tuL L ow n).1 ow (zl_nl (zo_tuL L ow n).1 (L 9 0) (zl_nx (L 9 0) (zo_tuL L ow n).2))) ow 1, zl_nl (zo_tuL L ow n).1 (L 9 0) (zl_nx (L 9 0) (zo_tuL L ow n).2))
def zo_turns (s : zS) (n : Int32) : Int32 × zS :=
  if zk_out n 0 99 = 0 then (nI (zm_s (fun y => if (zo_tuL s.1 (zl_ow s.1 6) n.toNatClampNeg).1 0 y = 9 then 1 else 0) 36), s) else zx_no s (zk_out n 0 99)
theorem zl_nl_lt {L : Nat → Nat → Nat} : ∀ (k q r : Nat), q < L 9 0 → zl_nl L k q = some r → r < L 9 0
  | 0, q, r, _, h => by simp [zl_nl] at h
  | k + 1, q, r, hq, h => by
    simp only [zl_nl] at h
    split at h
    · cases h; exact hq
    · exact zl_nl_lt k _ r (by split <;> omega) h
/-- days on which the told is not what is: by day -/
def zo_pdk (L : Nat → Nat → Nat) (ow : Nat → Nat) : Nat → Nat → Nat → Nat
  | 0 => L
  | k + 1 => zl_pd (zo_pdk L ow k) ow 1
def zo_th (L : Nat → Nat → Nat) : Nat := zm_s (fun y => if L 0 y = 9 then 1 else 0) 36
/-- the first k below n for which f doesn't hold: one more than it, 0 if none -/
def zo_ff (f : Nat → Bool) (n : Nat) : Nat := if zl_f (fun k => !(f k)) n < n then zl_f (fun k => !(f k)) n + 1 else 0
def zo_judge (s : zS) : Int32 × zS := (z9_I (zo_ff (fun k => decide (s.2.2.1 4 k = zo_th (zo_pdk s.1 (zl_ow s.1 6) k))) (s.2.2.1 3 0)), s.1, s.2.1, (fun k j => if k = 3 then 0 else s.2.2.1 k j), s.2.2.2)
section zC10
variable {X : Nat × (Nat → Int32)} {l : Launch} {I : Nat → Nat → Int32} {s : zS}
theorem cs_turns (h : zc_at s I) (n : Int32) : zs_c X l mX5_turns [.ref 0, .int n] I (zo_turns s n) := by
  have hl := h.2.1
  have hP := hl.2.1.1
  have hd := h.1.1
  refine fw_enter [34] 100 ok_X5_turns ⟨_, wc_X5_turns⟩ rfl rfl rfl ?_
  refine ⟨_, ct_out (X := X) (l := l) (I := I) n 0 99, ?_⟩
  rintro v' σ' ⟨rfl, rfl⟩
  refine zq_br (zn_g0 zk_out_le) (fun hk => ?_) (fun hk => ?_)
  · obtain ⟨j, hj1, hj, rfl⟩ := zk_out_sp hk
    have ej := nI_clamp (n := j) (by omega)
    refine ⟨_, ct_copyFrom (X := X) (l := l) (d := 11) (s := 1) (by omega) (by omega) hl, ?_⟩
    rintro v σ' ⟨rfl, I1, rfl, hz1, hf1⟩
    simp only [zo_turns, hk, ej, if_true]
    have inv : ∀ k, (zo_tuL s.1 (zl_ow s.1 6) k).1 9 0 = s.1 9 0 ∧ (zo_tuL s.1 (zl_ow s.1 6) k).1 10 0 = s.1 10 0 + k ∧ ∀ z, (zo_tuL s.1 (zl_ow s.1 6) k).2 = some z → z < s.1 9 0 := by
      intro k
      induction k with
      | zero => exact ⟨rfl, rfl, fun z hz => by simp [zo_tuL] at hz⟩
      | succ k ih =>
        obtain ⟨i1, i2, i3⟩ := ih
        have t9 : ∀ o k', k' ≠ 0 → zl_tro (zo_tuL s.1 (zl_ow s.1 6) k).1 (zl_ow s.1 6) o k' = (zo_tuL s.1 (zl_ow s.1 6) k).1 k' := by
          intro o k' hk'
          cases o with
          | none => rfl
          | some q => funext z; simp [zl_tro, zl_tr, hk']
        refine ⟨?_, ?_, fun z hz => ?_⟩
        · simp only [zo_tuL]
          show zl_pd _ _ 1 9 0 = _
          simp only [zl_pd, show ¬ (9 : Nat) = 0 by omega, show ¬ (9 : Nat) = 10 by omega, if_false]
          rw [t9 _ 9 (by omega)]; exact i1
        · simp only [zo_tuL]
          show zl_pd _ _ 1 10 0 = _
          simp only [zl_pd, show ¬ (10 : Nat) = 0 by omega, if_false, if_true]
          rw [t9 _ 10 (by omega), i2]; omega
        · simp only [zo_tuL] at hz
          have hnx : zl_nx (s.1 9 0) (zo_tuL s.1 (zl_ow s.1 6) k).2 < s.1 9 0 ∨ s.1 9 0 = 0 := by
            cases hq : (zo_tuL s.1 (zl_ow s.1 6) k).2 with
            | none => simp only [zl_nx]; omega
            | some q => have := i3 q hq; simp only [zl_nx]; split <;> omega
          rcases hnx with hnx | hnx
          · rw [← i1]; exact zl_nl_lt _ _ z (by rw [i1]; exact hnx) hz
          · rw [hnx] at hz; simp [zl_nl] at hz
    have loop : ∀ m k, k + m = j → ∀ I1, zl_at 11 (zo_tuL s.1 (zl_ow s.1 6) k).1 (zl_ow s.1 6) I1 → zk_sc I I1 → fw_Go X l mX5_turns (fun r σ => r = some (.int (nI (zm_s (fun y => if (zo_tuL s.1 (zl_ow s.1 6) j).1 0 y = 9 then 1 else 0) 36))) ∧ ∃ I', σ = (fw_sh, I') ∧ zc_at s I' ∧ zf_hi I I') 34 0 0 [some (.ref 0), some (.int (nI j)), some (.int (zn_g 0)), some (.int (zn_I (zo_tuL s.1 (zl_ow s.1 6) k).2)), some (.int (nI (k + 1)))] [] (fw_sh, I1) := by
      intro m
      induction m with
      | zero =>
        intro k hk I1 hz hs
        have hkj : k = j := by omega
        subst hkj
        refine fw_from [34] 100 20 ok_X5_turns ⟨_, wc_X5_turns⟩ rfl ?_
        refine zq_lt k (k + 1) rfl rfl (fun _ => ?_) (fun z => absurd z (by omega))
        refine ⟨_, ct_countThistles (X := X) (l := l) hz, ?_⟩
        rintro v σ' ⟨rfl, rfl⟩
        exact ⟨rfl, I1, rfl, hs.c h, hs.hi⟩
      | succ m ih =>
        intro k hk I1 hz hs
        obtain ⟨i1, i2, i3⟩ := inv k
        refine fw_from [34, 62] 100 20 ok_X5_turns ⟨_, wc_X5_turns⟩ rfl ?_
        refine zq_lt j (k + 1) rfl rfl (fun z => absurd z (by omega)) (fun _ => ?_)
        have c1 := ct_laidOut (X := X) (l := l) hz (q := (zo_tuL s.1 (zl_ow s.1 6) k).2) (fun z hz => by rw [i1]; exact i3 z hz)
        rw [i1] at c1
        refine ⟨_, c1, ?_⟩
        rintro v σ' ⟨rfl, rfl⟩
        have tail : ∀ I2, zl_at 11 (zl_tro (zo_tuL s.1 (zl_ow s.1 6) k).1 (zl_ow s.1 6) (zo_tuL s.1 (zl_ow s.1 6) (k + 1)).2) (zl_ow s.1 6) I2 → zk_sc I I2 → (zl_tro (zo_tuL s.1 (zl_ow s.1 6) k).1 (zl_ow s.1 6) (zo_tuL s.1 (zl_ow s.1 6) (k + 1)).2) 10 0 = s.1 10 0 + k → fw_Go X l mX5_turns (fun r σ => r = some (.int (nI (zm_s (fun y => if (zo_tuL s.1 (zl_ow s.1 6) j).1 0 y = 9 then 1 else 0) 36))) ∧ ∃ I', σ = (fw_sh, I') ∧ zc_at s I' ∧ zf_hi I I') 62 0 0 [some (.ref 0), some (.int (nI j)), some (.int (zn_g 0)), some (.int (zn_I (zo_tuL s.1 (zl_ow s.1 6) (k + 1)).2)), some (.int (nI (k + 1)))] [] (fw_sh, I2) := by
          intro I2 hz2 hs2 hdy
          refine fw_from [34] 100 35 ok_X5_turns ⟨_, wc_X5_turns⟩ rfl ?_
          refine ⟨_, ct_passDays (X := X) (l := l) hz2 (N := 1) (by omega) (by omega), ?_⟩
          rintro v σ' ⟨rfl, I3, rfl, hz3, hf3⟩
          exact fw_sub (ih (k + 1) (by omega) I3 hz3 (hs2.tr (hf3.sc (by simp)))) (by simp only [nI_1]) rfl
        cases hq : (zo_tuL s.1 (zl_ow s.1 6) (k + 1)).2 with
        | none =>
          have hq' : zl_nl (zo_tuL s.1 (zl_ow s.1 6) k).1 (s.1 9 0) (zl_nx (s.1 9 0) (zo_tuL s.1 (zl_ow s.1 6) k).2) = none := hq
          rw [hq']
          rw [hq] at tail
          refine And.intro (fun _ => ?_) (fun z => absurd rfl z)
          exact fw_sub (tail I1 hz hs i2) (by rfl) rfl
        | some q =>
          have hq' : zl_nl (zo_tuL s.1 (zl_ow s.1 6) k).1 (s.1 9 0) (zl_nx (s.1 9 0) (zo_tuL s.1 (zl_ow s.1 6) k).2) = some q := hq
          have hqP := (inv (k + 1)).2.2 q hq
          rw [hq']
          rw [hq] at tail
          refine And.intro (fun z => absurd z (nI_m1 (by omega))) (fun _ => ?_)
          refine ⟨_, ct_treadDown (X := X) (l := l) hz (p := q) (by rw [i1]; exact hqP), ?_⟩
          rintro v σ' ⟨rfl, I2, rfl, hz2, hf2⟩
          exact fw_sub (tail I2 hz2 (hs.tr (hf2.sc (by simp))) (by simpa [zl_tro, zl_tr] using i2)) (by rfl) rfl
    exact fw_sub (loop j 0 (by omega) I1 hz1 (hf1.sc (by simp))) (by rfl) rfl
  · have e : zo_turns s n = zx_no s (zk_out n 0 99) := by simp [zo_turns, hk]
    refine ⟨_, ct_no (X := X) (l := l) h (by omega) zk_out_le, fun v σ' hq => ?_⟩
    obtain ⟨rfl, I', rfl, h1, h2⟩ := hq
    exact zc_end e ⟨rfl, I', rfl, h1, h2⟩
theorem cs_judge (h : zc_at s I) : zs_c X l mX5_judge [.ref 0] I (zo_judge s) := by
  obtain ⟨h1, h2, h3, h4, h5, h6, h7, h8, h9⟩ := id h
  have hn := h1.2.2.2.2.1
  have hd := h1.1
  have day : ∀ k, zo_pdk s.1 (zl_ow s.1 6) k 10 0 = s.1 10 0 + k ∧ zo_pdk s.1 (zl_ow s.1 6) k 9 0 = s.1 9 0 := by
    intro k
    induction k with
    | zero => exact ⟨rfl, rfl⟩
    | succ k ih => simp only [zo_pdk, zl_pd]; simp [ih.1, ih.2]; omega
  have fin : ∀ I1 b v2, zk_sc I I1 → b = zo_ff (fun k => decide (s.2.2.1 4 k = zo_th (zo_pdk s.1 (zl_ow s.1 6) k))) (s.2.2.1 3 0) → fw_Go X l mX5_judge (fun r σ => r = some (.int (zo_judge s).1) ∧ ∃ I', σ = (fw_sh, I') ∧ zc_at (zo_judge s).2 I' ∧ zf_hi I I') 62 0 0 [some (.ref 0), some (.int (z9_I b)), v2] [] (fw_sh, I1) := by
    intro I1 b v2 hs hb
    have hc := hs.c h
    obtain ⟨g1, g2, g3, g4, g5, g6, g7, g8, g9⟩ := id hc
    refine fw_from [] 100 32 ok_X5_judge ⟨_, wc_X5_judge⟩ rfl ?_
    refine ⟨by rw [hb]; rfl, _, rfl, ⟨⟨h1.1, by simpa [zo_judge] using h1.2.1, by simpa [zo_judge] using h1.2.2.1, by simpa [zo_judge] using h1.2.2.2.1, by simp [zo_judge], by simpa [zo_judge] using h1.2.2.2.2.2.1, by simpa [zo_judge] using h1.2.2.2.2.2.2⟩, g2.keep (fun c _ _ => fw_up_ne c (by omega)), ?_, fun z => (g4 (by simpa [zo_judge] using z)).keep (fun c _ _ => fw_up_ne c (by omega)), ?_, fun j hj => ?_, ?_, fun j hj => ?_, fun k hk => ?_⟩, hs.hi.up (by omega)⟩
    · rw [fw_up_k (by omega)]; simpa [zo_judge] using g3
    · rw [fw_up_ne 34 (by omega)]; simpa [zo_judge] using g5
    · rw [fw_up_ne 35 (by omega)]; simpa [zo_judge] using g6 j (by simpa [zo_judge] using hj)
    · rw [fw_up_at]; rfl
    · simp [zo_judge] at hj
    · rw [fw_up_ne 37 (by omega)]; exact g9 k hk
  have loop : ∀ m k, k + m = s.2.2.1 3 0 → (∀ i, i < k → s.2.2.1 4 i = zo_th (zo_pdk s.1 (zl_ow s.1 6) i)) → ∀ I1, zl_at 11 (zo_pdk s.1 (zl_ow s.1 6) k) (zl_ow s.1 6) I1 → zk_sc I I1 → fw_Go X l mX5_judge (fun r σ => r = some (.int (zo_judge s).1) ∧ ∃ I', σ = (fw_sh, I') ∧ zc_at (zo_judge s).2 I' ∧ zf_hi I I') 16 0 0 [some (.ref 0), some (.int (-9)), some (.int (nI k))] [] (fw_sh, I1) := by
    intro m
    induction m with
    | zero =>
      intro k hk hpre I1 hz hs
      have hc := hs.c h
      have hkj : k = s.2.2.1 3 0 := by omega
      refine fw_from [16, 62] 100 9 ok_X5_judge ⟨_, wc_X5_judge⟩ rfl ?_
      refine zq_le (s.2.2.1 3 0) k hc.2.2.2.2.2.2.1 rfl (fun _ => ?_) (fun z => absurd z (by omega))
      refine fw_sub (fin I1 0 (some (.int (nI k))) hs ?_) (by rfl) rfl
      have : zl_f (fun k => !decide (s.2.2.1 4 k = zo_th (zo_pdk s.1 (zl_ow s.1 6) k))) (s.2.2.1 3 0) = s.2.2.1 3 0 := zl_f_eq (Nat.le_refl _) (fun i hi => by simp [hpre i (by omega)]) (fun z => absurd z (Nat.lt_irrefl _))
      simp [zo_ff, this]
    | succ m ih =>
      intro k hk hpre I1 hz hs
      have hc := hs.c h
      have hk4 := h1.2.2.2.2.2.1 k
      have hth : zo_th (zo_pdk s.1 (zl_ow s.1 6) k) ≤ 36 := zm_ite
      refine fw_from [16, 62] 100 9 ok_X5_judge ⟨_, wc_X5_judge⟩ rfl ?_
      refine zq_le (s.2.2.1 3 0) k hc.2.2.2.2.2.2.1 rfl (fun z => absurd z (by omega)) (fun _ => ?_)
      refine And.intro (fun z => absurd rfl z) (fun _ => ?_)
      refine And.intro (fw_in1 k 16 (by omega)) ?_
      refine ⟨_, ct_countThistles (X := X) (l := l) hz, ?_⟩
      rintro v σ' ⟨rfl, rfl⟩
      refine zq_eq (s.2.2.1 4 k) (zo_th (zo_pdk s.1 (zl_ow s.1 6) k)) (zq_rd (hc.2.2.2.2.2.2.2.1 k (by omega))) rfl (fun e => ?_) (fun e => ?_)
      · refine ⟨_, ct_passDays (X := X) (l := l) hz (N := 1) (by omega) (by have := (day k).1; omega), ?_⟩
        rintro v σ' ⟨rfl, I2, rfl, hz2, hf2⟩
        exact fw_sub (ih (k + 1) (by omega) (fun i hi => by
          by_cases hik : i = k
          · subst hik; exact e
          · exact hpre i (by omega)) I2 hz2 (hs.tr (hf2.sc (by simp)))) (by simp only [nI_1]) rfl
      · refine ⟨_, ct_passDays (X := X) (l := l) hz (N := 1) (by omega) (by have := (day k).1; omega), ?_⟩
        rintro v σ' ⟨rfl, I2, rfl, hz2, hf2⟩
        have hs2 := hs.tr (hf2.sc (by simp))
        have hc2 := hs2.c h
        have hf : zl_f (fun k => !decide (s.2.2.1 4 k = zo_th (zo_pdk s.1 (zl_ow s.1 6) k))) (s.2.2.1 3 0) = k := zl_f_eq (by omega) (fun i hi => by simp [hpre i hi]) (fun _ => by simp [e])
        have key := fin I2 (k + 1) (some (.int (nI (k + 1)))) hs2 (by simp [zo_ff, hf, show k < s.2.2.1 3 0 by omega])
        refine fw_from [62] 100 9 ok_X5_judge ⟨_, wc_X5_judge⟩ rfl ?_
        refine zq_le (s.2.2.1 3 0) (k + 1) hc2.2.2.2.2.2.2.1 (nI_1 k) (fun _ => ?_) (fun z => ?_)
        · exact fw_sub key (by simp [z9_I, nI_1]) rfl
        · refine And.intro (fun _ => ?_) (fun z => absurd z (by intro q; have := congrArg Int32.toInt q; rw [nI_toInt (by omega)] at this; have e9 : (-9 : Int32).toInt = -9 := rfl; omega))
          exact fw_sub key (by simp [z9_I, nI_1]) rfl
  refine fw_enter [16] 100 ok_X5_judge ⟨_, wc_X5_judge⟩ rfl rfl rfl ?_
  refine ⟨_, ct_copyFrom (X := X) (l := l) (d := 11) (s := 1) (by omega) (by omega) h2, ?_⟩
  rintro v σ' ⟨rfl, I1, rfl, hz1, hf1⟩
  exact fw_sub (loop (s.2.2.1 3 0) 0 (by omega) (fun i hi => absurd hi (by omega)) I1 hz1 (hf1.sc (by simp))) (by rfl) rfl
end zC10
