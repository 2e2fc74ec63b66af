theorem zl_mx_sp (f : Nat → Prop) [DecidablePred f] (g : Nat → Nat) : ∀ n, (∀ y, y < n → f y → g y + 1 ≤ zl_mx f g n) ∧ (zl_mx f g n = 0 ∨ ∃ y, y < n ∧ f y ∧ g y + 1 = zl_mx f g n)
  | 0 => ⟨fun y h => absurd h (by omega), Or.inl rfl⟩
  | n + 1 => by
    obtain ⟨h1, h2⟩ := zl_mx_sp f g n
    simp only [zl_mx]
    by_cases hn : f n
    · rw [if_pos hn]
      by_cases hl : zl_mx f g n < g n + 1
      · rw [if_pos hl]
        refine ⟨fun y hy hf => ?_, Or.inr ⟨n, by omega, hn, rfl⟩⟩
        by_cases e : y = n
        · subst e; omega
        · have := h1 y (by omega) hf; omega
      · rw [if_neg hl]
        refine ⟨fun y hy hf => ?_, ?_⟩
        · by_cases e : y = n
          · subst e; omega
          · exact h1 y (by omega) hf
        · rcases h2 with h2 | ⟨y, a, b, c⟩
          · omega
          · exact Or.inr ⟨y, by omega, b, c⟩
    · rw [if_neg hn]
      refine ⟨fun y hy hf => ?_, ?_⟩
      · by_cases e : y = n
        · subst e; exact absurd hf hn
        · exact h1 y (by omega) hf
      · rcases h2 with h2 | ⟨y, a, b, c⟩
        · exact Or.inl h2
        · exact Or.inr ⟨y, by omega, b, c⟩
theorem zl_dt_sp (gr : Nat → Nat) : ∀ j a acc, a ≤ zl_dt gr j a acc ∧ zl_dt gr j a acc ≤ a + j ∧ (∀ k, a + k < zl_dt gr j a acc → acc + zm_s (fun i => gr (a + 1 + i)) k < 9) ∧ (∀ k, zl_dt gr j a acc = a + k → k < j → 9 ≤ acc + zm_s (fun i => gr (a + 1 + i)) k)
  | 0, a, acc => by simp only [zl_dt]; exact ⟨Nat.le_refl _, by omega, fun k hk => by omega, fun k _ hk => by omega⟩
  | j + 1, a, acc => by
    simp only [zl_dt]
    by_cases h9 : 9 ≤ acc
    · rw [if_pos h9]
      exact ⟨Nat.le_refl _, by omega, fun k hk => by omega, fun k _ _ => by omega⟩
    · rw [if_neg h9]
      obtain ⟨h1, h2, h3, h4⟩ := zl_dt_sp gr j (a + 1) (acc + gr (a + 1))
      have e : ∀ k, acc + zm_s (fun i => gr (a + 1 + i)) (k + 1) = acc + gr (a + 1) + zm_s (fun i => gr (a + 1 + 1 + i)) k := fun k => by
        rw [zm_sh]
        have : zm_s (fun i => gr (a + 1 + (i + 1))) k = zm_s (fun i => gr (a + 1 + 1 + i)) k := zm_s_cong _ (fun i _ => by rw [show a + 1 + (i + 1) = a + 1 + 1 + i by omega])
        rw [this]
        simp only [Nat.add_zero]
        omega
      refine ⟨by omega, by omega, fun k hk => ?_, fun k hk hj => ?_⟩
      · cases k with
        | zero => simp only [zm_s]; omega
        | succ k => rw [e]; exact h3 k (by omega)
      · cases k with
        | zero => omega
        | succ k => rw [e]; exact h4 k (by omega) (by omega)
theorem zl_on_gs (L : Nat → Nat → Nat) (p k : Nat) : zm_s (fun i => zl_on L p (L 10 0 + (0 + 1 + i))) k = zl_gs L p k := by
  unfold zl_gs zl_on
  by_cases h : L 7 p = 0
  · simp only [h, if_true, Nat.zero_add]
  · simp only [h, if_false]
    induction k with
    | zero => rfl
    | succ k ih => simp only [zm_s, ih]
/-- a thistle on p, k days behind -/
theorem zl_ht_k {L : Nat → Nat → Nat} {ow : Nat → Nat} {p k : Nat} (hp : p < L 9 0) (h9 : ∀ y, y < 36 → L 0 y ≤ 9) : zl_ht (zo_pdk L ow k) ow p 36 = true ↔ (zl_mx (fun y => ow y = p) (fun y => L 0 y) 36 ≠ 0 ∧ 9 ≤ zl_mx (fun y => ow y = p) (fun y => L 0 y) 36 - 1 + zl_gs L p k) := by
  rw [zl_ht_t]
  obtain ⟨m1, m2⟩ := zl_mx_sp (fun y => ow y = p) (fun y => L 0 y) 36
  constructor
  · rintro ⟨y, hy, h1, h2⟩
    rw [zo_pdk_0 (h9 y hy), zl_pd_gs, h2, if_pos hp] at h1
    have := m1 y hy h2
    refine ⟨by omega, ?_⟩
    split at h1 <;> omega
  · rintro ⟨h1, h2⟩
    rcases m2 with m2 | ⟨y, hy, a, b⟩
    · exact absurd m2 h1
    · refine ⟨y, hy, ?_, a⟩
      rw [zo_pdk_0 (h9 y hy), zl_pd_gs, a, if_pos hp, if_neg (by omega)]
theorem zl_days_sp {L : Nat → Nat → Nat} {ow : Nat → Nat} {p : Nat} (hp : p < L 9 0) (h9 : ∀ y, y < 36 → L 0 y ≤ 9) : zl_days L ow p ≤ 100 ∧ (∀ k, k < zl_days L ow p → zl_ht (zo_pdk L ow k) ow p 36 = false) ∧ (zl_days L ow p < 100 → zl_ht (zo_pdk L ow (zl_days L ow p)) ow p 36 = true) := by
  have key : ∀ k, zl_ht (zo_pdk L ow k) ow p 36 = true ↔ _ := fun k => zl_ht_k (k := k) hp h9
  have keyf : ∀ k, ¬ (zl_mx (fun y => ow y = p) (fun y => L 0 y) 36 ≠ 0 ∧ 9 ≤ zl_mx (fun y => ow y = p) (fun y => L 0 y) 36 - 1 + zl_gs L p k) → zl_ht (zo_pdk L ow k) ow p 36 = false := fun k hk => by
    cases hz : zl_ht (zo_pdk L ow k) ow p 36
    · rfl
    · exact absurd ((key k).mp hz) hk
  unfold zl_days
  by_cases h0 : zl_mx (fun y => ow y = p) (fun y => L 0 y) 36 = 0
  · rw [if_pos h0]
    exact ⟨Nat.le_refl _, fun k _ => keyf k (fun z => z.1 h0), fun h => by omega⟩
  · rw [if_neg h0]
    obtain ⟨d1, d2, d3, d4⟩ := zl_dt_sp (fun a => zl_on L p (L 10 0 + a)) 100 0 (zl_mx (fun y => ow y = p) (fun y => L 0 y) 36 - 1)
    refine ⟨by omega, fun k hk => keyf k (fun z => ?_), fun hlt => (key _).mpr ⟨h0, ?_⟩⟩
    · have := d3 k (by omega)
      rw [zl_on_gs] at this
      omega
    · have := d4 _ (Nat.zero_add _).symm hlt
      rw [zl_on_gs] at this
      exact this
theorem zq_mxp_sp (f : Nat → Nat) : ∀ p, 1 ≤ (zq_mxp f (p + 1)).1 ∧ (zq_mxp f (p + 1)).1 ≤ p + 1 ∧ (zq_mxp f (p + 1)).2 = f ((zq_mxp f (p + 1)).1 - 1) + 1
  | 0 => by simp [zq_mxp]
  | p + 1 => by
    have ih := zq_mxp_sp f p
    rw [show zq_mxp f (p + 1 + 1) = if (zq_mxp f (p + 1)).2 < f (p + 1) + 1 then (p + 1 + 1, f (p + 1) + 1) else zq_mxp f (p + 1) from rfl]
    split
    · simp
    · exact ⟨ih.1, by omega, ih.2.2⟩
section zR11
variable {X : Nat × (Nat → Int32)} {l : Launch} {I : Nat → Nat → Int32} {s : zS} {w : Nat} {L : Nat → Nat → Nat}
theorem rt_firstOf (h : zm_l 6 L I) {p : Nat} (hp : p < L 9 0) (hd : L 10 0 ≤ 999) : fw_Sem X l mX6_firstOf [.ref 38, .int (nI p)] (fw_sh, I) (fun r σ => r = some (.int (if zl_days L (zl_ow L 6) p ≤ 99 then nI (zl_days L (zl_ow L 6) p) else -9)) ∧ ∃ I', σ = (fw_sh, I') ∧ zh 2 I I') := by
  obtain ⟨s1, s2, s3⟩ := zl_days_sp (ow := zl_ow L 6) hp h.1.2.2.1
  generalize zl_days L (zl_ow L 6) p = D at s1 s2 s3 ⊢
  refine fw_enter [9] 100 ok_X6_firstOf ⟨_, wc_X6_firstOf⟩ rfl rfl rfl ?_
  refine ⟨_, rt_thinks (X := X) (l := l) (I := I), ?_⟩
  rintro v' σ' ⟨rfl, I1, rfl, hK⟩
  have fin : ∀ I2 k, zgw 3 I1 I2 → ∀ v, v = (if D ≤ 99 then nI D else -9) → fw_Go X l mX6_firstOf (fun r σ => r = some (.int (if D ≤ 99 then nI D else -9)) ∧ ∃ I', σ = (fw_sh, I') ∧ zh 2 I I') 44 0 0 [some (.ref 38), some (.int (nI p)), some (.int v), some (.int (nI k))] [] (fw_sh, I2) := by
    intro I2 k hg v hv
    refine fw_from [] 100 23 ok_X6_firstOf ⟨_, wc_X6_firstOf⟩ rfl ?_
    refine ⟨_, rt_forgets (X := X) (l := l) (I := I2), ?_⟩
    rintro v' σ' ⟨rfl, I3, rfl, hB⟩
    exact ⟨zr_e hv, I3, rfl, zh_mk hK hg hB⟩
  have loop := zl_down (N := D) (G := fun k => ∀ I2, zm_l 6 (zo_pdk L (zl_ow L 6) k) I2 → zgw 3 I1 I2 → fw_Go X l mX6_firstOf (fun r σ => r = some (.int (if D ≤ 99 then nI D else -9)) ∧ ∃ I', σ = (fw_sh, I') ∧ zh 2 I I') 9 0 0 [some (.ref 38), some (.int (nI p)), some (.int (-9)), some (.int (nI k))] [] (fw_sh, I2)) (by
    intro I2 hz hg
    have c1 := rt_hasThistle (X := X) (l := l) hz (by omega) (p := p) (by rw [zo_pdk_k L _ _ 9 (by omega) (by omega)]; exact hp)
    rw [zo_pdk_ow] at c1
    refine fw_from [9, 44] 100 6 ok_X6_firstOf ⟨_, wc_X6_firstOf⟩ rfl ?_
    refine zq_lt 99 D rfl rfl (fun q => ?_) (fun q => ?_)
    · exact fw_sub (fin I2 D hg (-9) (by rw [if_neg (by omega)])) (by rfl) rfl
    refine And.intro (fun z => absurd z (by decide)) (fun _ => ?_)
    refine ⟨_, c1, ?_⟩
    rintro v' σ' ⟨rfl, rfl⟩
    rw [s3 (by omega)]
    refine zq_br (zi_eq0 _) (fun z => by cases z) (fun _ => ?_)
    refine ⟨_, rt_dayK (X := X) (l := l) (w := 6) (by omega) hz (by omega), ?_⟩
    rintro v' σ' ⟨rfl, I3, rfl, hz3, hg3⟩
    have go9 : fw_Go X l mX6_firstOf (fun r σ => r = some (.int (if D ≤ 99 then nI D else -9)) ∧ ∃ I', σ = (fw_sh, I') ∧ zh 2 I I') 9 0 0 [some (.ref 38), some (.int (nI p)), some (.int (nI D)), some (.int (nI (D + 1)))] [] (fw_sh, I3) := by
      refine fw_from [44] 100 6 ok_X6_firstOf ⟨_, wc_X6_firstOf⟩ rfl ?_
      have ev : nI D = if D ≤ 99 then nI D else -9 := by rw [if_pos q]
      refine zq_lt 99 (D + 1) rfl rfl (fun _ => ?_) (fun _ => ?_)
      · exact fw_sub (fin I3 (D + 1) (hg.tr hg3.w) (nI D) ev) (by rfl) rfl
      · refine zq_le 0 D rfl rfl (fun _ => ?_) (fun z => absurd z (by omega))
        exact fw_sub (fin I3 (D + 1) (hg.tr hg3.w) (nI D) ev) (by rfl) rfl
    exact fw_sub go9 (by simp only [nI_1]) rfl) (fun k hk ih => by
    intro I2 hz hg
    have c1 := rt_hasThistle (X := X) (l := l) hz (by omega) (p := p) (by rw [zo_pdk_k L _ _ 9 (by omega) (by omega)]; exact hp)
    rw [zo_pdk_ow] at c1
    refine fw_from [9, 44] 100 6 ok_X6_firstOf ⟨_, wc_X6_firstOf⟩ rfl ?_
    refine zq_lt 99 k rfl rfl (fun q => absurd q (by omega)) (fun q => ?_)
    refine And.intro (fun z => absurd z (by decide)) (fun _ => ?_)
    refine ⟨_, c1, ?_⟩
    rintro v' σ' ⟨rfl, rfl⟩
    rw [s2 k hk]
    refine zq_br (zi_eq0 _) (fun _ => ?_) (fun z => absurd rfl z)
    refine ⟨_, rt_dayK (X := X) (l := l) (w := 6) (by omega) hz (by omega), ?_⟩
    rintro v' σ' ⟨rfl, I3, rfl, hz3, hg3⟩
    exact fw_sub (ih I3 hz3 (hg.tr hg3.w)) (by simp only [nI_1]) rfl)
  exact fw_sub (loop 0 (by omega) I1 (h.K hK) (fun _ _ _ _ _ _ _ => rfl)) (by rfl) rfl
theorem cm_firstT (h : zm_at s I) (p : Int32) : zs_m X l mX6_firstThistle [.ref 38, .int p] I (zo_firstT s p) := by
  have hl := h.2.1
  have hP := hl.1.1
  refine fw_enter [] 100 ok_X6_firstThistle ⟨_, wc_X6_firstThistle⟩ rfl rfl rfl ?_
  refine ⟨_, rt_isPiece (X := X) (l := l) hl p, ?_⟩
  rintro v σ' ⟨rfl, rfl⟩
  refine zq_br (zi_eq0 _) (fun g => ?_) (fun g => ?_)
  · refine ⟨_, rt_no (X := X) (l := l) h (c := 1) (by omega) (by omega), fun v σ' hq => ?_⟩
    obtain ⟨rfl, I', rfl, h1, h2⟩ := hq
    exact zm_end (by simp [zo_firstT, g]) ⟨rfl, I', rfl, h1, h2⟩
  · have g : zb_in p (s.1 9 0) = true := by simpa using g
    obtain ⟨q, hq, rfl⟩ := zb_in_of g (by omega)
    refine ⟨_, rt_firstOf (X := X) (l := l) hl hq h.1.1, ?_⟩
    rintro v σ' ⟨rfl, I', rfl, hh⟩
    simp only [zo_firstT, g, nI_clamp (n := q) (by omega), if_true]
    exact ⟨rfl, I', rfl, hh.m h, hh.lo⟩
def zl_lt (d : Nat) : Nat := if d ≤ 99 then d else 1000
theorem rt_lateOf (h : zm_l 6 L I) {p : Nat} (hp : p < L 9 0) (hd : L 10 0 ≤ 999) : fw_Sem X l mX6_lateOf [.ref 38, .int (nI p)] (fw_sh, I) (fun r σ => r = some (.int (nI (zl_lt (zl_days L (zl_ow L 6) p)))) ∧ ∃ I', σ = (fw_sh, I') ∧ zh 2 I I') := by
  have c1 := fun (J : Nat → Nat → Int32) (hJ : zm_l 6 L J) => rt_firstOf (X := X) (l := l) hJ hp hd
  generalize zl_days L (zl_ow L 6) p = D at c1 ⊢
  refine fw_enter [] 100 ok_X6_lateOf ⟨_, wc_X6_lateOf⟩ rfl rfl rfl ?_
  refine ⟨_, c1 I h, ?_⟩
  rintro v σ' ⟨rfl, I1, rfl, h1⟩
  by_cases hD : D ≤ 99
  · rw [if_pos hD]
    refine zq_le 0 D rfl rfl (fun _ => ?_) (fun z => absurd z (by omega))
    refine ⟨_, c1 I1 (h.zh h1), ?_⟩
    rintro v σ' ⟨rfl, I2, rfl, h2⟩
    exact ⟨zr_e (by rw [if_pos hD, zl_lt, if_pos hD]), I2, rfl, h1.tr h2⟩
  · rw [if_neg hD]
    refine And.intro (fun z => absurd z (by decide)) (fun _ => ?_)
    exact ⟨zr_e (by rw [zl_lt, if_neg hD]; rfl), I1, rfl, h1⟩
theorem cm_longest (h : zm_at s I) : zs_m X l mX6_longest [.ref 38] I (zo_longest s) := by
  have hl := h.2.1
  have hP := hl.1.1
  have hd := h.1.1
  obtain ⟨f, hfd⟩ : ∃ f : Nat → Nat, f = fun p => zl_days s.1 (zl_ow s.1 6) p := ⟨_, rfl⟩
  have hf : ∀ p, f p ≤ 100 := by rw [hfd]; exact zl_days_le s.1 (zl_ow s.1 6)
  have cl : ∀ (J : Nat → Nat → Int32), zm_l 6 s.1 J → ∀ p, p < s.1 9 0 → fw_Sem X l mX6_lateOf [.ref 38, .int (nI p)] (fw_sh, J) (fun r σ => r = some (.int (nI (zl_lt (f p)))) ∧ ∃ I', σ = (fw_sh, I') ∧ zh 2 J I') := by
    rw [hfd]; exact fun J hJ p hp => rt_lateOf (X := X) (l := l) hJ hp hd
  simp only [zo_longest]
  rw [← hfd]
  have loop : ∀ m, s.1 9 0 = m + 1 → ∀ p, p ≤ m → ∀ I1, zh 2 I I1 → fw_Go X l mX6_longest (fun r σ => r = some (.int (z9_I (zq_mxp f (m + 1)).1)) ∧ ∃ I', σ = (fw_sh, I') ∧ zm_at s I' ∧ zf_lo I I') 16 0 0 [some (.ref 38), some (.int (nI ((zq_mxp f (p + 1)).1 - 1))), some (.int (nI (p + 1)))] [] (fw_sh, I1) := by
    intro m hm
    refine zl_down (N := m) (by
      intro I1 hs
      have hc := hs.m h
      have sp := zq_mxp_sp f m
      refine fw_from [16] 100 9 ok_X6_longest ⟨_, wc_X6_longest⟩ rfl ?_
      refine zq_le (s.1 9 0) (m + 1) hc.2.1.2.2.2.1 rfl (fun _ => ?_) (fun z => absurd z (by omega))
      exact ⟨zr_e (by unfold z9_I; rw [if_neg (by omega)]), I1, rfl, hc, hs.lo⟩) (fun p hp ih => by
      intro I1 hs
      have hc := hs.m h
      have sp := zq_mxp_sp f p
      have fa : f (p + 1) ≤ 100 := hf _
      have fb : f ((zq_mxp f (p + 1)).1 - 1) ≤ 100 := hf _
      refine fw_from [16] 100 9 ok_X6_longest ⟨_, wc_X6_longest⟩ rfl ?_
      refine zq_le (s.1 9 0) (p + 1) hc.2.1.2.2.2.1 rfl (fun z => absurd z (by omega)) (fun _ => ?_)
      refine ⟨_, cl I1 hc.2.1 (p + 1) (by omega), ?_⟩
      rintro v σ' ⟨rfl, I2, rfl, h2⟩
      refine ⟨_, cl I2 ((hs.tr h2).m h).2.1 ((zq_mxp f (p + 1)).1 - 1) (by omega), ?_⟩
      rintro v σ' ⟨rfl, I3, rfl, h3⟩
      have hs3 := (hs.tr h2).tr h3
      refine zq_le (zl_lt (f (p + 1))) (zl_lt (f ((zq_mxp f (p + 1)).1 - 1))) rfl rfl (fun k => ?_) (fun k => ?_) (by unfold zl_lt; split <;> omega) (by unfold zl_lt; split <;> omega)
      · have e : zq_mxp f (p + 1 + 1) = zq_mxp f (p + 1) := if_neg (by rw [sp.2.2]; unfold zl_lt at k; split at k <;> split at k <;> omega)
        have := ih I3 hs3
        rw [e] at this
        exact fw_sub this (by simp only [nI_1]) rfl
      · have e : zq_mxp f (p + 1 + 1) = (p + 1 + 1, f (p + 1) + 1) := if_pos (by rw [sp.2.2]; unfold zl_lt at k; split at k <;> split at k <;> omega)
        have := ih I3 hs3
        rw [e] at this
        exact fw_sub this (by simp only [nI_1]; rfl) rfl)
  refine fw_enter [16] 100 ok_X6_longest ⟨_, wc_X6_longest⟩ rfl rfl rfl ?_
  refine zq_ne (s.1 9 0) 0 hl.2.2.2.1 rfl (fun k => ?_) (fun k => ?_)
  · obtain ⟨m, hm⟩ : ∃ m, s.1 9 0 = m + 1 := ⟨s.1 9 0 - 1, by omega⟩
    rw [hm]
    refine fw_sub (loop m hm 0 (by omega) I zh.rf) ?_ rfl
    simp [zq_mxp]; exact ⟨rfl, rfl⟩
  · refine fw_from [] 100 9 ok_X6_longest ⟨_, wc_X6_longest⟩ rfl ?_
    refine zq_le (s.1 9 0) 1 hl.2.2.2.1 rfl (fun _ => ?_) (fun z => absurd z (by omega))
    rw [k]
    exact ⟨rfl, I, rfl, h, zf_lo.rf⟩
end zR11
