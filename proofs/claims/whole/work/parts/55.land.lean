def zs_cl (s : zS) : Nat → Nat → Nat := fun k j => if k = 1 then 0 else s.2.2.1 k j
def zo_land (s : zS) : Int32 × zS :=
  if zy_odd (s.2.2.1 2) (s.2.2.1 1 0) = 0 then
    (if (zy_tell (s.2.2.1 2) (s.2.2.1 1 0) 97 s.1 0 0).1 = 0 then (nI (zy_tell (s.2.2.1 2) (s.2.2.1 1 0) 97 s.1 0 0).2.2, (zy_tell (s.2.2.1 2) (s.2.2.1 1 0) 97 s.1 0 0).2.1, s.2.1, zs_cl s, s.2.2.2)
      else (-2000 - nI ((zy_tell (s.2.2.1 2) (s.2.2.1 1 0) 97 s.1 0 0).1 - 1), s.1, s.2.1, zs_cl s, s.2.2.2))
  else (-1000 - nI (zy_odd (s.2.2.1 2) (s.2.2.1 1 0) - 1), s.1, s.2.1, zs_cl s, s.2.2.2)
theorem zy_run_wf {T : Nat → Nat} {n k a : Nat} (ha : a < n) (h : zy_run T n (k + 1) a = 0) : zy_wf T n a ∧ zy_run T n k (a + 1 + zy_fl (zy_fm (T a))) = 0 := by
  simp only [zy_run, ha, if_true] at h
  by_cases h0 : zy_fm (T a) = 0
  · simp [h0] at h
  · simp only [h0, if_false] at h
    by_cases hj : zy_j T n a = zy_fl (zy_fm (T a))
    · simp only [hj, if_true] at h
      refine ⟨⟨by omega, fun j hj2 => ?_⟩, h⟩
      have := (zl_f_sp (fun i => !(decide (a + 1 + i < n) && zy_ft (zy_fm (T a)) i (T (a + 1 + i)))) (zy_fl (zy_fm (T a)))).2.1 j (by have hj : zl_f (fun i => !(decide (a + 1 + i < n) && zy_ft (zy_fm (T a)) i (T (a + 1 + i)))) (zy_fl (zy_fm (T a))) = zy_fl (zy_fm (T a)) := hj; omega)
      simpa using this
    · simp only [hj, if_false] at h
      omega
theorem zy_ex_day {L : Nat → Nat → Nat} {T : Nat → Nat} {a : Nat} (hok : zy_ok L T a = true) (hd : L 10 0 ≤ 999) : zy_ex L T a 10 0 ≤ 999 := by
  unfold zy_ok at hok
  unfold zy_ex
  by_cases h1 : T a = 112
  · simp only [h1, if_true]; simp [zl_lay]; exact hd
  by_cases h2 : T a = 114
  · rw [if_neg h1, if_pos h2]; simp [zl_to]; omega
  by_cases h3 : T a = 116
  · rw [if_neg h1, if_neg h2, if_pos h3]; simp [zl_tr]; omega
  by_cases h4 : T a = 103
  · rw [if_neg h1, if_neg h2, if_neg h3, if_pos h4]; simp [zl_fg]; omega
  · rw [if_neg h1, if_neg h2, if_neg h3, if_neg h4] at hok ⊢
    have := (decide_eq_true_iff.mp hok).2.2
    simp [zl_pd]; omega
section zY4
variable {X : Nat × (Nat → Int32)} {l : Launch} {I : Nat → Nat → Int32} {T : Nat → Nat} {n : Nat} {L : Nat → Nat → Nat}
theorem ct_tSt (h : zy_tx T n I) (hl : zl_at 11 L (zl_ow L 6) I) (hd : L 10 0 ≤ 999) {a : Nat} (hw : zy_wf T n a) : fw_Sem X l mX3_tellStatement [.ref 34, .ref 11, .int (nI a)] (fw_sh, I) (zy_Q (zy_ex L T a) (zy_ok L T a) I) := by
  have hfl := zy_fl_pos _ (show zy_fm (T a) < 5 by have := zy_fm_le (T a); omega) hw.1
  have han : a + 1 < n := by have := (hw.2 0 (by omega)).1; omega
  have hn := h.2.2.1
  have t1 : I 35 (nI a).toNatClampNeg = nI (T a) := zq_rd (h.2.1 a (by omega))
  have hTl := h.2.2.2 a
  have ea : nI a + 1 = nI (a + 1) := nI_1 a
  refine fw_enter [] 100 ok_X3_tellStatement ⟨_, wc_X3_tellStatement⟩ rfl rfl rfl ?_
  refine And.intro (fw_in1 a 96 (by omega)) ?_
  refine zq_eq (T a) 103 t1 rfl (fun k => ?_) (fun k1 => ?_)
  · have c1 := ct_tGrown (X := X) (l := l) h hl hw k
    rw [← ea] at c1
    refine ⟨_, c1, ?_⟩
    rintro v σ' ⟨rfl, hq⟩
    exact ⟨zi_nar _, rfl, hq⟩
  refine zq_eq (T a) 112 t1 rfl (fun k => ?_) (fun k2 => ?_)
  · have c1 := ct_tPiece (X := X) (l := l) h hl hw k
    rw [← ea] at c1
    refine ⟨_, c1, ?_⟩
    rintro v σ' ⟨rfl, hq⟩
    exact ⟨zi_nar _, rfl, hq⟩
  refine zq_eq (T a) 114 t1 rfl (fun k => ?_) (fun k3 => ?_)
  · have hdg : zy_dg T n (a + 1) := zy_wf_dg hw (j := 0) (by omega) (by rw [k]; rfl)
    have c0 := ct_num1 (X := X) (l := l) h hdg
    rw [← ea] at c0
    refine ⟨_, c0, ?_⟩
    rintro v σ' ⟨rfl, rfl⟩
    refine ⟨_, ct_tRolled (X := X) (l := l) hl (zy_d9 hdg) k, ?_⟩
    rintro v σ' ⟨rfl, hq⟩
    exact ⟨zi_nar _, rfl, hq⟩
  refine zq_eq (T a) 116 t1 rfl (fun k => ?_) (fun k4 => ?_)
  · have hdg : zy_dg T n (a + 1) := zy_wf_dg hw (j := 0) (by omega) (by rw [k]; rfl)
    have c0 := ct_num1 (X := X) (l := l) h hdg
    rw [← ea] at c0
    refine ⟨_, c0, ?_⟩
    rintro v σ' ⟨rfl, rfl⟩
    refine ⟨_, ct_tTrod (X := X) (l := l) hl (zy_d9 hdg) k, ?_⟩
    rintro v σ' ⟨rfl, hq⟩
    exact ⟨zi_nar _, rfl, hq⟩
  · have k5 : T a = 100 := by
      have := hw.1
      unfold zy_fm at this
      rw [if_neg k1, if_neg k2, if_neg k3, if_neg k4] at this
      split at this
      · assumption
      · omega
    have hdg : zy_dg T n (a + 1) := zy_wf_dg hw (j := 0) (by omega) (by rw [k5]; rfl)
    have hdg2 : zy_dg T n (a + 1 + 1) := zy_wf_dg hw (j := 1) (by omega) (by rw [k5]; rfl)
    have c0 := ct_num2 (X := X) (l := l) h hdg hdg2
    rw [← ea] at c0
    refine ⟨_, c0, ?_⟩
    rintro v σ' ⟨rfl, rfl⟩
    refine ⟨_, ct_tDays (X := X) (l := l) hl (zy_n99 hdg hdg2) hd ⟨k2, k3, k4, k1⟩, ?_⟩
    rintro v σ' ⟨rfl, hq⟩
    exact ⟨zi_nar _, rfl, hq⟩
theorem ct_tellTo (h : zy_tx T n I) (hl : zl_at 11 L (zl_ow L 6) I) (hd : L 10 0 ≤ 999) (hr : zy_run T n 96 0 = 0) : fw_Sem X l mX3_tellTo [.ref 34, .ref 11] (fw_sh, I) (fun r σ => r = some (.int (zp_I (zy_tell T n 97 L 0 0).1)) ∧ ∃ I', σ = (fw_sh, I') ∧ ((zy_tell T n 97 L 0 0).1 = 0 → zl_at 11 (zy_tell T n 97 L 0 0).2.1 (zl_ow (zy_tell T n 97 L 0 0).2.1 6) I' ∧ (zy_tell T n 97 L 0 0).2.1 10 0 ≤ 999 ∧ I' 34 2 = nI (zy_tell T n 97 L 0 0).2.2) ∧ zy_tx T n I' ∧ zf_fr [11, 12, 13, 14, 15, 16, 17, 18, 19, 20, 34] I I') := by
  obtain ⟨R, hR⟩ : ∃ R, R = zy_tell T n 97 L 0 0 := ⟨_, rfl⟩
  rw [← hR]
  have loop : ∀ k a m L1 I1, n - a + 1 ≤ k + 1 → k ≤ 96 → zy_tx T n I1 → zl_at 11 L1 (zl_ow L1 6) I1 → L1 10 0 ≤ 999 → zy_run T n k a = 0 → R = zy_tell T n (k + 1) L1 a m → a ≤ 96 → I1 34 2 = nI m → zf_fr [11, 12, 13, 14, 15, 16, 17, 18, 19, 20, 34] I I1 → fw_Go X l mX3_tellTo (fun r σ => r = some (.int (zp_I R.1)) ∧ ∃ I', σ = (fw_sh, I') ∧ (R.1 = 0 → zl_at 11 R.2.1 (zl_ow R.2.1 6) I' ∧ R.2.1 10 0 ≤ 999 ∧ I' 34 2 = nI R.2.2) ∧ zy_tx T n I' ∧ zf_fr [11, 12, 13, 14, 15, 16, 17, 18, 19, 20, 34] I I') 7 0 0 [some (.ref 34), some (.ref 11), some (.int (nI a))] [] (fw_sh, I1) := by
    intro k
    induction k with
    | zero =>
      intro a m L1 I1 hk hk96 htx hl1 hd1 hrun hRk ha hm hf
      have hna : ¬ a < n := by omega
      have hn := htx.2.2.1
      refine fw_from [7] 100 5 ok_X3_tellTo ⟨_, wc_X3_tellTo⟩ rfl ?_
      refine zq_le n a htx.1 rfl (fun _ => ?_) (fun z => absurd z hna)
      have : R = (0, L1, m) := by rw [hRk]; simp [zy_tell, hna]
      rw [this]
      exact ⟨rfl, I1, rfl, fun _ => ⟨hl1, hd1, hm⟩, htx, hf⟩
    | succ k ih =>
      intro a m L1 I1 hk hk96 htx hl1 hd1 hrun hRk ha hm hf
      have hn := htx.2.2.1
      by_cases han : a < n
      · obtain ⟨hw, hrun2⟩ := zy_run_wf han hrun
        have hf5 : zy_fm (T a) < 5 := by have := zy_fm_le (T a); omega
        have hfl := zy_fl_pos _ hf5 hw.1
        have t1 := htx.2.1 a han
        refine fw_from [7] 100 5 ok_X3_tellTo ⟨_, wc_X3_tellTo⟩ rfl ?_
        refine zq_le n a htx.1 rfl (fun z => absurd z (by omega)) (fun _ => ?_)
        refine ⟨_, ct_tSt (X := X) (l := l) htx hl1 hd1 hw, ?_⟩
        rintro v σ' ⟨rfl, I2, rfl, hz, hf2⟩
        have e1 : ∀ k', zy_tell T n (k' + 1) L1 a m = if zy_ok L1 T a = true then zy_tell T n k' (zy_ex L1 T a) (a + 1 + zy_fl (zy_fm (T a))) (m + 1) else (a + 1, L1, m) := fun k' => by simp only [zy_tell, han, if_true]
        rw [e1] at hRk
        refine zq_brn (zi_eq0 _) (fun g => ?_) (fun g => ?_)
        · have g : zy_ok L1 T a = true := by simpa using g
          rw [if_pos g] at hRk
          have htx2 := zy_fr htx hf2
          have hm2 : I2 34 2 = nI m := by rw [hf2 34 (by simp)]; exact hm
          have t2 : fw_up I2 34 2 (I2 34 2 + 1) 35 (nI a).toNatClampNeg = nI (T a) := by
            rw [fw_up_ne 35 (by omega), nI_clamp (by omega)]; exact htx2.2.1 a han
          refine And.intro (fw_in1 a 96 (by omega)) ?_
          have c2 := ct_formOf (X := X) (l := l) (I := fw_up I2 34 2 (I2 34 2 + 1)) (htx.2.2.2 a)
          rw [← t2] at c2
          obtain ⟨f, hf0⟩ : ∃ f, f = zy_fm (T a) := ⟨_, rfl⟩
          have key := ih (a + 1 + zy_fl f) (m + 1) (zy_ex L1 T a) (fw_up I2 34 2 (nI (m + 1))) (by omega) (by omega) ?_ ?_ (zy_ex_day g hd1) (by rw [hf0]; exact hrun2) (by rw [hf0]; exact hRk) ?_ fw_up_at ?_
          rotate_left
          · refine ⟨?_, fun j hj => ?_, htx2.2.2⟩
            · rw [fw_up_k (by omega)]; exact htx2.1
            · rw [fw_up_ne 35 (by omega)]; exact htx2.2.1 j hj
          · exact (hz g).keep (fun c _ _ => fw_up_ne c (by omega))
          · have := (hw.2 (zy_fl (zy_fm (T a)) - 1) (by omega)).1
            rw [hf0]; omega
          · exact (hf.tr (hf2.mono (by simp))).up (by simp)
          rw [← hf0] at c2 hfl hf5
          have c3 := ct_len (X := X) (l := l) (I := fw_up I2 34 2 (I2 34 2 + 1)) f (by omega)
          have hfp := hw.1
          rw [← hf0] at hfp
          refine ⟨_, c2, ?_⟩
          rintro v σ' ⟨rfl, rfl⟩
          rcases (show f = 1 ∨ f = 2 ∨ f = 3 ∨ f = 4 by omega) with rfl | rfl | rfl | rfl <;>
          · refine ⟨_, c3, ?_⟩
            rintro v σ' ⟨rfl, rfl⟩
            exact fw_sub key (by rw [show (1 : Int32) = nI 1 from rfl, nI_add, nI_add, Nat.add_assoc]) (by rw [hm2, nI_1])
        · rw [if_neg (by rw [g]; exact Bool.false_ne_true)] at hRk
          rw [hRk]
          exact ⟨by simp [zp_I], I2, rfl, fun z => absurd z (Nat.succ_ne_zero a), zy_fr htx hf2, hf.tr (hf2.mono (by simp))⟩
      · refine fw_from [7] 100 5 ok_X3_tellTo ⟨_, wc_X3_tellTo⟩ rfl ?_
        refine zq_le n a htx.1 rfl (fun _ => ?_) (fun z => absurd z han)
        have : R = (0, L1, m) := by rw [hRk]; simp [zy_tell, han]
        rw [this]
        exact ⟨rfl, I1, rfl, fun _ => ⟨hl1, hd1, hm⟩, htx, hf⟩
  refine fw_enter [7] 100 ok_X3_tellTo ⟨_, wc_X3_tellTo⟩ rfl rfl rfl ?_
  have hn := h.2.2.1
  have key := loop 96 0 0 L (fw_up I 34 2 0) (by omega) (by omega) ⟨by rw [fw_up_k (by omega)]; exact h.1, fun j hj => by rw [fw_up_ne 35 (by omega)]; exact h.2.1 j hj, h.2.2⟩ (hl.keep (fun c _ _ => fw_up_ne c (by omega))) hd hr hR (by omega) fw_up_at (zf_fr.rf.up (by simp))
  exact fw_sub key (by rfl) rfl
end zY4
section zY5
variable {X : Nat × (Nat → Int32)} {l : Launch} {I : Nat → Nat → Int32} {s : zS}
theorem zc_cl {I' : Nat → Nat → Int32} (h : zc_at s I) (hf : ∀ c, c ≤ 9 ∨ (21 ≤ c ∧ c ≤ 29) ∨ (35 ≤ c ∧ c ≤ 37) → I' c = I c) (h0 : I' 34 1 = nI 0) : zc_at (s.1, s.2.1, zs_cl s, s.2.2.2) I' := by
  obtain ⟨h1, h2, h3, h4, h5, h6, h7, h8, h9⟩ := h
  exact ⟨⟨h1.1, h1.2.1, Nat.zero_le _, h1.2.2.2.1, h1.2.2.2.2.1, h1.2.2.2.2.2.1, h1.2.2.2.2.2.2⟩, h2.keep (fun c _ _ => hf c (by omega)), by rw [hf 0 (by omega)]; exact h3, fun z => (h4 z).keep (fun c _ _ => hf c (by omega)), h0, fun j hj => absurd hj (Nat.not_lt_zero j), by rw [hf 0 (by omega)]; exact h7, fun j hj => by rw [hf 36 (by omega)]; exact h8 j hj, fun k hk => by rw [hf 37 (by omega)]; exact h9 k hk⟩
theorem zp_m1 {m : Nat} (h : m < 1000) : zp_I m = -1 ↔ m = 0 := by
  unfold zp_I
  by_cases e : m = 0
  · simp [e]
  · rw [if_neg e]; exact ⟨fun z => absurd z (nI_m1 (by omega)), fun z => absurd z e⟩
theorem zy_run_le {T : Nat → Nat} {n : Nat} : ∀ k a, zy_run T n k a ≤ n + 1
  | 0, a => by simp [zy_run]
  | k + 1, a => by
    simp only [zy_run]
    split
    · split
      · omega
      · split
        · exact zy_run_le k _
        · rename_i h1 h2 h3
          have hs := zl_f_sp (fun i => !(decide (a + 1 + i < n) && zy_ft (zy_fm (T a)) i (T (a + 1 + i)))) (zy_fl (zy_fm (T a)))
          have e : zy_j T n a = zl_f (fun i => !(decide (a + 1 + i < n) && zy_ft (zy_fm (T a)) i (T (a + 1 + i)))) (zy_fl (zy_fm (T a))) := rfl
          rw [← e] at hs
          by_cases h0 : zy_j T n a = 0
          · omega
          · have := hs.2.1 (zy_j T n a - 1) (by omega)
            have : a + 1 + (zy_j T n a - 1) < n := by
              by_cases h9 : a + 1 + (zy_j T n a - 1) < n
              · exact h9
              · simp [h9] at this
            omega
    · omega
theorem zy_tell_le {T : Nat → Nat} {n : Nat} : ∀ k L a m, (zy_tell T n k L a m).1 ≤ n
  | 0, L, a, m => by simp [zy_tell]
  | k + 1, L, a, m => by
    simp only [zy_tell]
    split
    · split
      · exact zy_tell_le k _ _ _
      · simp; omega
    · simp
theorem cs_land (h : zc_at s I) : zs_c X l mX5_land [.ref 0] I (zo_land s) := by
  have hl := h.2.1
  have h96 := h.1.2.2.1
  have h255 := h.1.2.2.2.1
  have hle : zy_odd (s.2.2.1 2) (s.2.2.1 1 0) ≤ 97 := by
    unfold zy_odd
    split
    · omega
    · have := zy_run_le (T := s.2.2.1 2) (n := s.2.2.1 1 0) 96 0; omega
  have hle2 := zy_tell_le (T := s.2.2.1 2) (n := s.2.2.1 1 0) 97 s.1 0 0
  refine fw_enter [] 100 ok_X5_land ⟨_, wc_X5_land⟩ rfl rfl rfl ?_
  refine ⟨_, ct_odd (X := X) (l := l) h, ?_⟩
  rintro v σ' ⟨rfl, rfl⟩
  refine zq_brn (zp_m1 (by omega)) (fun g => ?_) (fun g => ?_)
  · refine zq_br (zp_m1 (by omega)) (fun z => absurd z g) (fun _ => ?_)
    simp only [zo_land, g, if_false]
    have e : zp_I (zy_odd (s.2.2.1 2) (s.2.2.1 1 0)) = nI (zy_odd (s.2.2.1 2) (s.2.2.1 1 0) - 1) := by simp [zp_I, g]
    refine ⟨?_, fw_up I 34 1 (nI 0), rfl, zc_cl h (fun c hc => fw_up_ne c (by omega)) fw_up_at, zf_hi.rf.up (by omega)⟩
    rw [e]
  · have hrun : zy_run (s.2.2.1 2) (s.2.2.1 1 0) 96 0 = 0 := by
      unfold zy_odd at g
      split at g
      · cases g
      · exact g
    refine ⟨_, ct_copyFrom (X := X) (l := l) (d := 11) (s := 1) (by omega) (by omega) hl, ?_⟩
    rintro v σ' ⟨rfl, I2, rfl, hz2, hf2⟩
    refine ⟨_, ct_tellTo (X := X) (l := l) (T := s.2.2.1 2) (n := s.2.2.1 1 0) (I := I2) ⟨by rw [hf2 34 (by simp)]; exact h.2.2.2.2.1, fun j hj => by rw [hf2 35 (by simp)]; exact h.2.2.2.2.2.1 j hj, h96, h255⟩ hz2 h.1.1 hrun, ?_⟩
    rintro v σ' ⟨rfl, I3, rfl, hz3, htx3, hf3⟩
    have hfr : ∀ c, c ≤ 9 ∨ (21 ≤ c ∧ c ≤ 29) ∨ (35 ≤ c ∧ c ≤ 37) ∨ 38 ≤ c → fw_up I3 34 1 (nI 0) c = I c := fun c hc => by
      rw [fw_up_ne c (by omega), hf3 c (by simp; omega), hf2 c (by simp; omega)]
    refine And.intro (fun _ => ?_) (fun z => absurd ((zp_m1 (by omega)).mpr g) z)
    refine zq_br (zp_m1 (by omega)) (fun k => ?_) (fun k => ?_)
    · obtain ⟨hz, hday, hm⟩ := hz3 k
      refine ⟨_, ct_copyFrom (X := X) (l := l) (d := 1) (s := 11) (by omega) (by omega) (hz.keep (I' := fw_up I3 34 1 (nI 0)) (fun c _ _ => fw_up_ne c (by omega))), ?_⟩
      rintro v σ' ⟨rfl, I4, rfl, hz4, hf4⟩
      simp only [zo_land, g, k, if_true]
      refine ⟨?_, I4, rfl, ?_, ?_⟩
      · refine zr_e ?_
        show I4 34 2 = _
        rw [hf4 34 (by simp), fw_up_k (by omega)]; exact hm
      · exact zc_now (zc_cl (I' := fw_up I3 34 1 (nI 0)) h (fun c hc => hfr c (by omega)) fw_up_at) hz4 hday (fun c hc => hf4 c (by simp; omega))
      · intro c hc
        rw [hf4 c (by simp; omega)]; exact hfr c (by omega)
    · simp only [zo_land, g, k, if_true, if_false]
      have e : zp_I (zy_tell (s.2.2.1 2) (s.2.2.1 1 0) 97 s.1 0 0).1 = nI ((zy_tell (s.2.2.1 2) (s.2.2.1 1 0) 97 s.1 0 0).1 - 1) := by simp [zp_I, k]
      refine ⟨by rw [e], fw_up I3 34 1 (nI 0), rfl, zc_cl h (fun c hc => hfr c (by omega)) fw_up_at, fun c hc => hfr c (by omega)⟩
end zY5
