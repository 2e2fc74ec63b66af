/-- the cells of the reference's land, and their places in what is kept -/
def zv_in (a k : Nat) : Prop := (a = 40 ∧ k < 36) ∨ (41 ≤ a ∧ a ≤ 45 ∧ k < 6) ∨ (a = 38 ∧ 7 ≤ k ∧ k ≤ 9)
def zv_i (a k : Nat) : Nat := if a = 40 then k else if a = 38 then 66 + (k - 7) else 36 + 6 * (a - 41) + k
def zv_K (w : Nat) (I I' : Nat → Nat → Int32) : Prop := (∀ a k, zv_in a k → I' 50 (70 * w + zv_i a k) = I a k) ∧ ∀ a k, ¬ (a = 50 ∧ 70 * w ≤ k ∧ k < 70 * w + 69) → ¬ (a = 38 ∧ (k = 20 ∨ k = 21)) → I' a k = I a k
def zv_B (w : Nat) (I I' : Nat → Nat → Int32) : Prop := (∀ a k, zv_in a k → I' a k = I 50 (70 * w + zv_i a k)) ∧ ∀ a k, ¬ zv_in a k → ¬ (a = 38 ∧ (k = 20 ∨ k = 21)) → I' a k = I a k
/-- only the land, the rows of ways, and what is kept from w on may change -/
def zgw (w : Nat) (I I' : Nat → Nat → Int32) : Prop := ∀ a k, ¬ (40 ≤ a ∧ a ≤ 45) → ¬ (a = 38 ∧ 7 ≤ k ∧ k ≤ 9) → ¬ (51 ≤ a ∧ a ≤ 53) → ¬ (a = 50 ∧ 70 * w ≤ k) → ¬ (a = 38 ∧ (k = 20 ∨ k = 21)) → I' a k = I a k
/-- the land is as it was -/
def zh (w : Nat) (I I' : Nat → Nat → Int32) : Prop := ∀ a k, ¬ (a = 50 ∧ 70 * w ≤ k) → ¬ (a = 38 ∧ (k = 20 ∨ k = 21)) → ¬ (51 ≤ a ∧ a ≤ 53) → (a = 40 → k < 36) → (41 ≤ a ∧ a ≤ 45 → k < 6) → I' a k = I a k
theorem zh.rf {w : Nat} {I : Nat → Nat → Int32} : zh w I I := fun _ _ _ _ _ _ _ => rfl
theorem zh.tr {w : Nat} {I I' I'' : Nat → Nat → Int32} (h : zh w I I') (h2 : zh w I' I'') : zh w I I'' := fun a k h1 h3 h4 h5 h6 => (h2 a k h1 h3 h4 h5 h6).trans (h a k h1 h3 h4 h5 h6)
theorem zh.mono {w v : Nat} {I I' : Nat → Nat → Int32} (h : zh w I I') (hv : v ≤ w) : zh v I I' := fun a k h1 h3 h4 h5 h6 => h a k (by omega) h3 h4 h5 h6
theorem zg.w {w : Nat} {I I' : Nat → Nat → Int32} (h : zg I I') : zgw w I I' := fun a k h1 h2 h3 _ _ => h a k h1 h2 h3
theorem zh.w {w : Nat} {I I' : Nat → Nat → Int32} (h : zh w I I') : zgw w I I' := fun a k h1 h2 h3 h4 h5 => h a k h4 h5 h3 (by omega) (by omega)
theorem zgw.tr {w : Nat} {I I' I'' : Nat → Nat → Int32} (h : zgw w I I') (h2 : zgw w I' I'') : zgw w I I'' := fun a k h1 h3 h4 h5 h6 => (h2 a k h1 h3 h4 h5 h6).trans (h a k h1 h3 h4 h5 h6)
theorem zv_i_lt {a k : Nat} (h : zv_in a k) : zv_i a k < 69 := by
  unfold zv_in at h
  unfold zv_i
  repeat' split
  all_goals omega
theorem zh_mk {w : Nat} {I I1 I2 I3 : Nat → Nat → Int32} (hK : zv_K w I I1) (hg : zgw (w + 1) I1 I2) (hB : zv_B w I2 I3) : zh w I I3 := by
  intro a k h1 h2 h3 h4 h5
  by_cases hin : zv_in a k
  · have hlt := zv_i_lt hin
    rw [hB.1 a k hin, hg 50 (70 * w + zv_i a k) (by omega) (by omega) (by omega) (by omega) (by omega), hK.1 a k hin]
  · have hin2 := hin
    unfold zv_in at hin2
    rw [hB.2 a k hin h2, hg a k (by omega) (by omega) (by omega) (by omega) h2, hK.2 a k (by omega) h2]
theorem zm_l.K {w v : Nat} {L : Nat → Nat → Nat} {I I' : Nat → Nat → Int32} (h : zm_l v L I) (hK : zv_K w I I') : zm_l v L I' := h.keep (fun c k hc => hK.2 c k (by omega) (by omega))
theorem zm_l.zh {w v : Nat} {L : Nat → Nat → Nat} {I I' : Nat → Nat → Int32} (h : zm_l v L I) (hz : zh w I I') : zm_l v L I' := h.keep (fun c k hc => hz c k (by omega) (by omega) (by omega) (by omega) (by omega))
section zR3
variable {X : Nat × (Nat → Int32)} {l : Launch} {I : Nat → Nat → Int32}
theorem rt_keep1 {c ln cu : Nat} (hc : (c = 40 ∧ ln = 36) ∨ (41 ≤ c ∧ c ≤ 45 ∧ ln = 6)) (h20 : I 38 20 = 1) (h21 : I 38 21 = nI cu) (hcu : cu + ln ≤ 210) : fw_Sem X l mX6_passes [.ref 38, .ref c] (fw_sh, I) (fun r σ => r = none ∧ ∃ I', σ = (fw_sh, I') ∧ (∀ j, j < ln → I' 50 (cu + j) = I c j) ∧ I' 38 21 = nI (cu + ln) ∧ ∀ a k, ¬ (a = 50 ∧ cu ≤ k ∧ k < cu + ln) → ¬ (a = 38 ∧ k = 21) → I' a k = I a k) := by
  have loop := zl_down (N := ln) (G := fun m => ∀ I', (∀ j, j < m → I' 50 (cu + j) = I c j) → I' 38 21 = nI (cu + m) → (∀ a k, ¬ (a = 50 ∧ cu ≤ k ∧ k < cu + m) → ¬ (a = 38 ∧ k = 21) → I' a k = I a k) → fw_Go X l mX6_passes (fun r σ => r = none ∧ ∃ I', σ = (fw_sh, I') ∧ (∀ j, j < ln → I' 50 (cu + j) = I c j) ∧ I' 38 21 = nI (cu + ln) ∧ ∀ a k, ¬ (a = 50 ∧ cu ≤ k ∧ k < cu + ln) → ¬ (a = 38 ∧ k = 21) → I' a k = I a k) 2 0 0 [some (.ref 38), some (.ref c), some (.int (nI m))] [] (fw_sh, I')) (by
    intro I' h1 h2 h3
    rcases (show (c = 40 ∧ ln = 36) ∨ (c = 41 ∧ ln = 6) ∨ (c = 42 ∧ ln = 6) ∨ (c = 43 ∧ ln = 6) ∨ (c = 44 ∧ ln = 6) ∨ (c = 45 ∧ ln = 6) by omega) with ⟨rfl, rfl⟩ | ⟨rfl, rfl⟩ | ⟨rfl, rfl⟩ | ⟨rfl, rfl⟩ | ⟨rfl, rfl⟩ | ⟨rfl, rfl⟩
    · refine fw_from [2] 100 2 ok_X6_passes ⟨_, wc_X6_passes⟩ rfl ?_
      refine zq_le 36 36 rfl rfl (fun _ => ?_) (fun h => absurd h (by omega))
      exact ⟨rfl, I', rfl, h1, h2, h3⟩
    all_goals
      refine fw_from [2] 100 2 ok_X6_passes ⟨_, wc_X6_passes⟩ rfl ?_
      refine zq_le 6 6 rfl rfl (fun _ => ?_) (fun h => absurd h (by omega))
      exact ⟨rfl, I', rfl, h1, h2, h3⟩) (fun m hm ih => by
    intro I' h1 h2 h3
    have e20 : I' 38 20 = 1 := by rw [h3 38 20 (by omega) (by omega)]; exact h20
    have ecm : I' c m = I c m := h3 c m (by omega) (by omega)
    have key := ih (fw_up (fw_up I' 50 (cu + m) (I c m)) 38 21 (nI (cu + m + 1))) (fun j hj => by
      rw [fw_up_ne 50 (by omega)]
      by_cases e : j = m
      · subst e; rw [fw_up_at]
      · rw [fw_up_k (by omega)]; exact h1 j (by omega)) fw_up_at (fun a k ha hb => by
      rw [fw_up_p a k (by omega), fw_up_p a k (by omega)]; exact h3 a k (by omega) hb)
    have eI : ∀ x, x = I c m → fw_up (fw_up I' 50 (I' 38 21).toNatClampNeg x) 38 21 (fw_up I' 50 (I' 38 21).toNatClampNeg x 38 21 + 1) = fw_up (fw_up I' 50 (cu + m) (I c m)) 38 21 (nI (cu + m + 1)) := fun x hx => by
      rw [hx, fw_up_ne 38 (by omega), h2, nI_clamp (by omega), nI_1]
    have ecl : nI m = nI m := rfl
    rcases (show (c = 40 ∧ ln = 36) ∨ (c = 41 ∧ ln = 6) ∨ (c = 42 ∧ ln = 6) ∨ (c = 43 ∧ ln = 6) ∨ (c = 44 ∧ ln = 6) ∨ (c = 45 ∧ ln = 6) by omega) with ⟨rfl, rfl⟩ | ⟨rfl, rfl⟩ | ⟨rfl, rfl⟩ | ⟨rfl, rfl⟩ | ⟨rfl, rfl⟩ | ⟨rfl, rfl⟩
    · refine fw_from [2] 100 2 ok_X6_passes ⟨_, wc_X6_passes⟩ rfl ?_
      refine zq_le 36 m rfl rfl (fun h => absurd h (by omega)) (fun _ => ?_)
      refine And.intro (fun z => absurd (e20.symm.trans z) (by decide)) (fun _ => ?_)
      refine And.intro (fw_in1 m 36 hm) ?_
      refine And.intro (fw_in1 (cu + m) 210 (by omega) h2) ?_
      refine fw_sub key (by simp only [nI_1]) ?_
      exact Prod.ext rfl (eI _ (by rw [nI_clamp (by omega)]; exact ecm))
    all_goals
      refine fw_from [2] 100 2 ok_X6_passes ⟨_, wc_X6_passes⟩ rfl ?_
      refine zq_le 6 m rfl rfl (fun h => absurd h (by omega)) (fun _ => ?_)
      refine And.intro (fun z => absurd (e20.symm.trans z) (by decide)) (fun _ => ?_)
      refine And.intro (fw_in1 m 6 hm) ?_
      refine And.intro (fw_in1 (cu + m) 210 (by omega) h2) ?_
      refine fw_sub key (by simp only [nI_1]) ?_
      exact Prod.ext rfl (eI _ (by rw [nI_clamp (by omega)]; exact ecm)))
  refine fw_enter [2] 100 ok_X6_passes ⟨_, wc_X6_passes⟩ rfl rfl rfl ?_
  exact fw_sub (loop 0 (by omega) I (fun j hj => absurd hj (by omega)) h21 (fun a k _ _ => rfl)) (by rfl) rfl
theorem rt_back1 {c ln cu : Nat} (hc : (c = 40 ∧ ln = 36) ∨ (41 ≤ c ∧ c ≤ 45 ∧ ln = 6)) (h20 : I 38 20 = 0) (h21 : I 38 21 = nI cu) (hcu : cu + ln ≤ 210) : fw_Sem X l mX6_passes [.ref 38, .ref c] (fw_sh, I) (fun r σ => r = none ∧ ∃ I', σ = (fw_sh, I') ∧ (∀ j, j < ln → I' c j = I 50 (cu + j)) ∧ I' 38 21 = nI (cu + ln) ∧ ∀ a k, ¬ (a = c ∧ k < ln) → ¬ (a = 38 ∧ k = 21) → I' a k = I a k) := by
  have loop := zl_down (N := ln) (G := fun m => ∀ I', (∀ j, j < m → I' c j = I 50 (cu + j)) → I' 38 21 = nI (cu + m) → (∀ a k, ¬ (a = c ∧ k < m) → ¬ (a = 38 ∧ k = 21) → I' a k = I a k) → fw_Go X l mX6_passes (fun r σ => r = none ∧ ∃ I', σ = (fw_sh, I') ∧ (∀ j, j < ln → I' c j = I 50 (cu + j)) ∧ I' 38 21 = nI (cu + ln) ∧ ∀ a k, ¬ (a = c ∧ k < ln) → ¬ (a = 38 ∧ k = 21) → I' a k = I a k) 2 0 0 [some (.ref 38), some (.ref c), some (.int (nI m))] [] (fw_sh, I')) (by
    intro I' h1 h2 h3
    rcases (show (c = 40 ∧ ln = 36) ∨ (c = 41 ∧ ln = 6) ∨ (c = 42 ∧ ln = 6) ∨ (c = 43 ∧ ln = 6) ∨ (c = 44 ∧ ln = 6) ∨ (c = 45 ∧ ln = 6) by omega) with ⟨rfl, rfl⟩ | ⟨rfl, rfl⟩ | ⟨rfl, rfl⟩ | ⟨rfl, rfl⟩ | ⟨rfl, rfl⟩ | ⟨rfl, rfl⟩
    · refine fw_from [2] 100 2 ok_X6_passes ⟨_, wc_X6_passes⟩ rfl ?_
      refine zq_le 36 36 rfl rfl (fun _ => ?_) (fun h => absurd h (by omega))
      exact ⟨rfl, I', rfl, h1, h2, h3⟩
    all_goals
      refine fw_from [2] 100 2 ok_X6_passes ⟨_, wc_X6_passes⟩ rfl ?_
      refine zq_le 6 6 rfl rfl (fun _ => ?_) (fun h => absurd h (by omega))
      exact ⟨rfl, I', rfl, h1, h2, h3⟩) (fun m hm ih => by
    intro I' h1 h2 h3
    have e20 : I' 38 20 = 0 := by rw [h3 38 20 (by omega) (by omega)]; exact h20
    have ecm : I' 50 (cu + m) = I 50 (cu + m) := h3 50 (cu + m) (by omega) (by omega)
    have key := ih (fw_up (fw_up I' c m (I 50 (cu + m))) 38 21 (nI (cu + m + 1))) (fun j hj => by
      rw [fw_up_ne c (by omega)]
      by_cases e : j = m
      · subst e; rw [fw_up_at]
      · rw [fw_up_k (by omega)]; exact h1 j (by omega)) fw_up_at (fun a k ha hb => by
      rw [fw_up_p a k (by omega), fw_up_p a k (by omega)]; exact h3 a k (by omega) hb)
    have eI : fw_up (fw_up I' c (nI m).toNatClampNeg (I' 50 (I' 38 21).toNatClampNeg)) 38 21 (fw_up I' c (nI m).toNatClampNeg (I' 50 (I' 38 21).toNatClampNeg) 38 21 + 1) = fw_up (fw_up I' c m (I 50 (cu + m))) 38 21 (nI (cu + m + 1)) := by
      rw [fw_up_ne 38 (by omega), h2, nI_clamp (n := cu + m) (by omega), ecm, nI_clamp (by omega), nI_1]
    rcases (show (c = 40 ∧ ln = 36) ∨ (c = 41 ∧ ln = 6) ∨ (c = 42 ∧ ln = 6) ∨ (c = 43 ∧ ln = 6) ∨ (c = 44 ∧ ln = 6) ∨ (c = 45 ∧ ln = 6) by omega) with ⟨rfl, rfl⟩ | ⟨rfl, rfl⟩ | ⟨rfl, rfl⟩ | ⟨rfl, rfl⟩ | ⟨rfl, rfl⟩ | ⟨rfl, rfl⟩
    · refine fw_from [2] 100 2 ok_X6_passes ⟨_, wc_X6_passes⟩ rfl ?_
      refine zq_le 36 m rfl rfl (fun h => absurd h (by omega)) (fun _ => ?_)
      refine And.intro (fun _ => ?_) (fun z => absurd e20 z)
      refine And.intro (fw_in1 (cu + m) 210 (by omega) h2) ?_
      refine And.intro (fw_in1 m 36 hm) ?_
      refine fw_sub key (by simp only [nI_1]) ?_
      exact Prod.ext rfl eI
    all_goals
      refine fw_from [2] 100 2 ok_X6_passes ⟨_, wc_X6_passes⟩ rfl ?_
      refine zq_le 6 m rfl rfl (fun h => absurd h (by omega)) (fun _ => ?_)
      refine And.intro (fun _ => ?_) (fun z => absurd e20 z)
      refine And.intro (fw_in1 (cu + m) 210 (by omega) h2) ?_
      refine And.intro (fw_in1 m 6 hm) ?_
      refine fw_sub key (by simp only [nI_1]) ?_
      exact Prod.ext rfl eI)
  refine fw_enter [2] 100 ok_X6_passes ⟨_, wc_X6_passes⟩ rfl rfl rfl ?_
  exact fw_sub (loop 0 (by omega) I (fun j hj => absurd hj (by omega)) h21 (fun a k _ _ => rfl)) (by rfl) rfl
theorem rt_one1 {cu : Nat} (v : Int32) (h20 : I 38 20 = 1) (h21 : I 38 21 = nI cu) (hcu : cu < 210) : fw_Sem X l mX6_passOne [.ref 38, .int v] (fw_sh, I) (fun r σ => r = some (.int v) ∧ σ = (fw_sh, fw_up (fw_up I 50 cu v) 38 21 (nI (cu + 1)))) := by
  refine fw_enter [] 100 ok_X6_passOne ⟨_, wc_X6_passOne⟩ rfl rfl rfl ?_
  refine And.intro (fun z => absurd (h20.symm.trans z) (by decide)) (fun _ => ?_)
  refine And.intro (fun z => absurd (h20.symm.trans z) (by decide)) (fun _ => ?_)
  refine And.intro (fw_in1 cu 210 hcu h21) ?_
  refine ⟨rfl, Prod.ext rfl ?_⟩
  show fw_up (fw_up I 50 (I 38 21).toNatClampNeg v) 38 21 (fw_up I 50 (I 38 21).toNatClampNeg v 38 21 + 1) = _
  rw [fw_up_ne 38 (by omega), h21, nI_clamp (by omega), nI_1]
theorem rt_one0 {cu : Nat} (v : Int32) (h20 : I 38 20 = 0) (h21 : I 38 21 = nI cu) (hcu : cu < 210) : fw_Sem X l mX6_passOne [.ref 38, .int v] (fw_sh, I) (fun r σ => r = some (.int (I 50 cu)) ∧ σ = (fw_sh, fw_up I 38 21 (nI (cu + 1)))) := by
  refine fw_enter [] 100 ok_X6_passOne ⟨_, wc_X6_passOne⟩ rfl rfl rfl ?_
  refine And.intro (fun _ => ?_) (fun z => absurd h20 z)
  refine And.intro (fw_in1 cu 210 hcu h21) ?_
  refine And.intro (fun _ => ?_) (fun z => absurd h20 z)
  refine ⟨zr_e ?_, Prod.ext rfl ?_⟩
  · show I 50 (I 38 21).toNatClampNeg = _
    rw [h21, nI_clamp (by omega)]
  · show fw_up I 38 21 (I 38 21 + 1) = _
    rw [h21, nI_1]
def zv_IK (w m : Nat) (I J : Nat → Nat → Int32) : Prop := (∀ a k, zv_in a k → zv_i a k < m → J 50 (70 * w + zv_i a k) = I a k) ∧ J 38 21 = nI (70 * w + m) ∧ J 38 20 = 1 ∧ ∀ a k, ¬ (a = 50 ∧ 70 * w ≤ k ∧ k < 70 * w + 69) → ¬ (a = 38 ∧ (k = 20 ∨ k = 21)) → J a k = I a k
theorem rt_kp {w c m ln : Nat} {J : Nat → Nat → Int32} (hw : w ≤ 2) (hc : (c = 40 ∧ m = 0 ∧ ln = 36) ∨ (41 ≤ c ∧ c ≤ 45 ∧ m = 36 + 6 * (c - 41) ∧ ln = 6)) (h : zv_IK w m I J) : fw_Sem X l mX6_passes [.ref 38, .ref c] (fw_sh, J) (fun r σ => r = none ∧ ∃ J', σ = (fw_sh, J') ∧ zv_IK w (m + ln) I J') := by
  refine fw_mono (rt_keep1 (X := X) (l := l) (c := c) (ln := ln) (cu := 70 * w + m) (by omega) h.2.2.1 h.2.1 (by omega)) ?_
  rintro v σ' ⟨rfl, I', rfl, g1, g2, g3⟩
  refine ⟨rfl, I', rfl, fun a k hin hlt => ?_, by rw [g2, Nat.add_assoc], ?_, fun a k h1 h2 => ?_⟩
  · by_cases hm : zv_i a k < m
    · rw [g3 50 _ (by omega) (by omega)]; exact h.1 a k hin hm
    · have hin2 := hin
      unfold zv_in at hin2
      have e : a = c ∧ zv_i a k = m + k ∧ k < ln := by
        unfold zv_i at hlt hm ⊢
        split at hlt
        · rename_i e4; simp only [e4, if_true] at hm ⊢; omega
        · rename_i e4
          rw [if_neg e4] at hm ⊢
          split at hlt
          · rename_i e5; simp only [e5, if_true] at hm ⊢; omega
          · rename_i e5; rw [if_neg e5] at hm ⊢; omega
      rw [e.2.1, ← Nat.add_assoc, g1 k e.2.2, e.1]
      exact h.2.2.2 c k (by omega) (by omega)
  · rw [g3 38 20 (by omega) (by omega)]; exact h.2.2.1
  · rw [g3 a k (by omega) (by omega)]; exact h.2.2.2 a k h1 h2
theorem rt_ko {w k : Nat} {J : Nat → Nat → Int32} (hk : 7 ≤ k ∧ k ≤ 9) (h : zv_IK w (66 + (k - 7)) I J) (J' : Nat → Nat → Int32) (hJ : J' = fw_up (fw_up (fw_up J 50 (70 * w + (66 + (k - 7))) (J 38 k)) 38 21 (nI (70 * w + (66 + (k - 7)) + 1))) 38 k (J 38 k)) : zv_IK w (66 + (k - 7) + 1) I J' := by
  have ek : J 38 k = I 38 k := h.2.2.2 38 k (by omega) (by omega)
  refine ⟨fun a k' hin hlt => ?_, ?_, ?_, fun a k' h1 h2 => ?_⟩
  · rw [hJ, fw_up_ne 50 (by omega), fw_up_ne 50 (by omega)]
    by_cases hm : zv_i a k' < 66 + (k - 7)
    · rw [fw_up_k (by omega)]; exact h.1 a k' hin hm
    · have e : a = 38 ∧ k' = k := by
        unfold zv_in at hin
        unfold zv_i at hlt hm
        repeat' split at hlt
        all_goals (repeat' split at hm) <;> omega
      have ei : zv_i a k' = 66 + (k - 7) := by unfold zv_i; rw [if_neg (by omega), if_pos e.1, e.2]
      rw [ei, fw_up_at, e.1, e.2, ek]
  · rw [hJ, fw_up_k (by omega), fw_up_at, Nat.add_assoc]
  · rw [hJ, fw_up_k (by omega), fw_up_k (by omega), fw_up_ne 38 (by omega)]; exact h.2.2.1
  · rw [hJ]
    by_cases e : a = 38 ∧ k' = k
    · rw [e.1, e.2, fw_up_at, ek]
    · rw [fw_up_p a k' (by omega), fw_up_p a k' (by omega), fw_up_p a k' (by omega)]; exact h.2.2.2 a k' h1 h2
theorem rt_keepAll {w : Nat} (hw : w ≤ 2) : fw_Sem X l mX6_passesAll [.ref 38, .int (nI w), .int 1] (fw_sh, I) (fun r σ => r = none ∧ ∃ I', σ = (fw_sh, I') ∧ zv_K w I I') := by
  have e70 : nI 70 * nI w = nI (70 * w) := pk_mul 70 w
  refine fw_enter [] 100 ok_X6_passesAll ⟨_, wc_X6_passesAll⟩ rfl rfl rfl ?_
  refine And.intro (Or.inr rfl) ?_
  have i0 : zv_IK w 0 I (fw_up (fw_up I 38 21 (nI 70 * nI w)) 38 20 1) := ⟨fun a k _ h => absurd h (by omega), by rw [fw_up_k (by omega), fw_up_at, e70]; rfl, fw_up_at, fun a k h1 h2 => by rw [fw_up_p a k (by omega), fw_up_p a k (by omega)]⟩
  refine ⟨_, rt_kp (X := X) (l := l) (c := 40) (m := 0) (ln := 36) hw (by omega) i0, ?_⟩
  rintro v σ' ⟨rfl, I1, rfl, i1⟩
  refine ⟨_, rt_kp (X := X) (l := l) (c := 41) (m := 36) (ln := 6) hw (by omega) i1, ?_⟩
  rintro v σ' ⟨rfl, I2, rfl, i2⟩
  refine ⟨_, rt_kp (X := X) (l := l) (c := 42) (m := 42) (ln := 6) hw (by omega) i2, ?_⟩
  rintro v σ' ⟨rfl, I3, rfl, i3⟩
  refine ⟨_, rt_kp (X := X) (l := l) (c := 43) (m := 48) (ln := 6) hw (by omega) i3, ?_⟩
  rintro v σ' ⟨rfl, I4, rfl, i4⟩
  refine ⟨_, rt_kp (X := X) (l := l) (c := 44) (m := 54) (ln := 6) hw (by omega) i4, ?_⟩
  rintro v σ' ⟨rfl, I5, rfl, i5⟩
  refine ⟨_, rt_kp (X := X) (l := l) (c := 45) (m := 60) (ln := 6) hw (by omega) i5, ?_⟩
  rintro v σ' ⟨rfl, I6, rfl, i6⟩
  refine ⟨_, rt_one1 (X := X) (l := l) (cu := 70 * w + 66) (I6 38 7) i6.2.2.1 i6.2.1 (by omega), ?_⟩
  rintro v σ' ⟨rfl, rfl⟩
  have i7 := rt_ko (k := 7) (by omega) i6 _ rfl
  refine ⟨_, rt_one1 (X := X) (l := l) (cu := 70 * w + 67) _ i7.2.2.1 i7.2.1 (by omega), ?_⟩
  rintro v σ' ⟨rfl, rfl⟩
  have i8 := rt_ko (k := 8) (by omega) i7 _ rfl
  refine ⟨_, rt_one1 (X := X) (l := l) (cu := 70 * w + 68) _ i8.2.2.1 i8.2.1 (by omega), ?_⟩
  rintro v σ' ⟨rfl, rfl⟩
  have i9 := rt_ko (k := 9) (by omega) i8 _ rfl
  exact ⟨rfl, _, rfl, fun a k hin => i9.1 a k hin (zv_i_lt hin), i9.2.2.2⟩
def zv_IB (w m : Nat) (I J : Nat → Nat → Int32) : Prop := (∀ a k, zv_in a k → zv_i a k < m → J a k = I 50 (70 * w + zv_i a k)) ∧ J 38 21 = nI (70 * w + m) ∧ J 38 20 = 0 ∧ ∀ a k, ¬ (zv_in a k ∧ zv_i a k < m) → ¬ (a = 38 ∧ (k = 20 ∨ k = 21)) → J a k = I a k
theorem zv_50 {k : Nat} : ¬ zv_in 50 k := by unfold zv_in; omega
theorem zv_r {c m ln a k : Nat} (hc : (c = 40 ∧ m = 0 ∧ ln = 36) ∨ (41 ≤ c ∧ c ≤ 45 ∧ m = 36 + 6 * (c - 41) ∧ ln = 6)) (hin : zv_in a k) : (a = c ∧ k < ln ↔ m ≤ zv_i a k ∧ zv_i a k < m + ln) ∧ (a = c → zv_i a k = m + k) := by
  unfold zv_in at hin
  unfold zv_i
  repeat' split
  all_goals omega
theorem rt_bp {w c m ln : Nat} {J : Nat → Nat → Int32} (hw : w ≤ 2) (hc : (c = 40 ∧ m = 0 ∧ ln = 36) ∨ (41 ≤ c ∧ c ≤ 45 ∧ m = 36 + 6 * (c - 41) ∧ ln = 6)) (h : zv_IB w m I J) : fw_Sem X l mX6_passes [.ref 38, .ref c] (fw_sh, J) (fun r σ => r = none ∧ ∃ J', σ = (fw_sh, J') ∧ zv_IB w (m + ln) I J') := by
  refine fw_mono (rt_back1 (X := X) (l := l) (c := c) (ln := ln) (cu := 70 * w + m) (by omega) h.2.2.1 h.2.1 (by omega)) ?_
  rintro v σ' ⟨rfl, I', rfl, g1, g2, g3⟩
  refine ⟨rfl, I', rfl, fun a k hin hlt => ?_, by rw [g2, Nat.add_assoc], ?_, fun a k h1 h2 => ?_⟩
  · obtain ⟨r1, r2⟩ := zv_r hc hin
    have hin2 := hin
    unfold zv_in at hin2
    by_cases hm : zv_i a k < m
    · rw [g3 a k (by omega) (by omega)]; exact h.1 a k hin hm
    · have e := r1.mpr ⟨by omega, hlt⟩
      rw [r2 e.1, e.1, g1 k e.2, h.2.2.2 50 _ (fun z => zv_50 z.1) (by omega), Nat.add_assoc]
  · rw [g3 38 20 (by omega) (by omega)]; exact h.2.2.1
  · have hn : ¬ (a = c ∧ k < ln) := fun z => h1 (by
      have hin : zv_in a k := by unfold zv_in; omega
      exact ⟨hin, ((zv_r hc hin).1.mp z).2⟩)
    rw [g3 a k hn (by omega)]
    refine h.2.2.2 a k (fun z => h1 ⟨z.1, by omega⟩) h2
theorem rt_bo {w k : Nat} {J : Nat → Nat → Int32} (hk : 7 ≤ k ∧ k ≤ 9) (h : zv_IB w (66 + (k - 7)) I J) (J' : Nat → Nat → Int32) (hJ : J' = fw_up (fw_up J 38 21 (nI (70 * w + (66 + (k - 7)) + 1))) 38 k (J 50 (70 * w + (66 + (k - 7))))) : zv_IB w (66 + (k - 7) + 1) I J' := by
  have e50 : J 50 (70 * w + (66 + (k - 7))) = I 50 (70 * w + (66 + (k - 7))) := h.2.2.2 50 _ (fun z => zv_50 z.1) (by omega)
  have ei : zv_i 38 k = 66 + (k - 7) := by unfold zv_i; rw [if_neg (by omega), if_pos rfl]
  have hink : zv_in 38 k := Or.inr (Or.inr ⟨rfl, hk⟩)
  have r : ∀ a k', zv_in a k' → zv_i a k' < 66 + (k - 7) + 1 → ¬ zv_i a k' < 66 + (k - 7) → a = 38 ∧ k' = k := by
    intro a k' hin hlt hm
    unfold zv_in at hin
    unfold zv_i at hlt hm
    repeat' split at hlt
    all_goals (repeat' split at hm) <;> omega
  refine ⟨fun a k' hin hlt => ?_, ?_, ?_, fun a k' h1 h2 => ?_⟩
  · rw [hJ]
    by_cases e : a = 38 ∧ k' = k
    · rw [e.1, e.2, fw_up_at, e50, ei]
    · have hm : zv_i a k' < 66 + (k - 7) := by
        by_cases hm : zv_i a k' < 66 + (k - 7)
        · exact hm
        · exact absurd (r a k' hin hlt hm) e
      have hin2 := hin
      unfold zv_in at hin2
      rw [fw_up_p a k' (by omega), fw_up_p a k' (by omega)]; exact h.1 a k' hin hm
  · rw [hJ, fw_up_k (by omega), fw_up_at, Nat.add_assoc]
  · rw [hJ, fw_up_k (by omega), fw_up_k (by omega)]; exact h.2.2.1
  · have e : ¬ (a = 38 ∧ k' = k) := fun z => h1 (by rw [z.1, z.2]; exact ⟨hink, by rw [ei]; omega⟩)
    rw [hJ, fw_up_p a k' (by omega), fw_up_p a k' (by omega)]
    exact h.2.2.2 a k' (fun z => h1 ⟨z.1, by omega⟩) h2
theorem rt_backAll {w : Nat} (hw : w ≤ 2) : fw_Sem X l mX6_passesAll [.ref 38, .int (nI w), .int 0] (fw_sh, I) (fun r σ => r = none ∧ ∃ I', σ = (fw_sh, I') ∧ zv_B w I I') := by
  have e70 : nI 70 * nI w = nI (70 * w) := pk_mul 70 w
  refine fw_enter [] 100 ok_X6_passesAll ⟨_, wc_X6_passesAll⟩ rfl rfl rfl ?_
  refine And.intro (Or.inl rfl) ?_
  have i0 : zv_IB w 0 I (fw_up (fw_up I 38 21 (nI 70 * nI w)) 38 20 0) := ⟨fun a k _ h => absurd h (by omega), by rw [fw_up_k (by omega), fw_up_at, e70]; rfl, fw_up_at, fun a k h1 h2 => by rw [fw_up_p a k (by omega), fw_up_p a k (by omega)]⟩
  refine ⟨_, rt_bp (X := X) (l := l) (c := 40) (m := 0) (ln := 36) hw (by omega) i0, ?_⟩
  rintro v σ' ⟨rfl, I1, rfl, i1⟩
  refine ⟨_, rt_bp (X := X) (l := l) (c := 41) (m := 36) (ln := 6) hw (by omega) i1, ?_⟩
  rintro v σ' ⟨rfl, I2, rfl, i2⟩
  refine ⟨_, rt_bp (X := X) (l := l) (c := 42) (m := 42) (ln := 6) hw (by omega) i2, ?_⟩
  rintro v σ' ⟨rfl, I3, rfl, i3⟩
  refine ⟨_, rt_bp (X := X) (l := l) (c := 43) (m := 48) (ln := 6) hw (by omega) i3, ?_⟩
  rintro v σ' ⟨rfl, I4, rfl, i4⟩
  refine ⟨_, rt_bp (X := X) (l := l) (c := 44) (m := 54) (ln := 6) hw (by omega) i4, ?_⟩
  rintro v σ' ⟨rfl, I5, rfl, i5⟩
  refine ⟨_, rt_bp (X := X) (l := l) (c := 45) (m := 60) (ln := 6) hw (by omega) i5, ?_⟩
  rintro v σ' ⟨rfl, I6, rfl, i6⟩
  refine ⟨_, rt_one0 (X := X) (l := l) (cu := 70 * w + 66) (I6 38 7) i6.2.2.1 i6.2.1 (by omega), ?_⟩
  rintro v σ' ⟨rfl, rfl⟩
  have i7 := rt_bo (k := 7) (by omega) i6 _ rfl
  refine ⟨_, rt_one0 (X := X) (l := l) (cu := 70 * w + 67) _ i7.2.2.1 i7.2.1 (by omega), ?_⟩
  rintro v σ' ⟨rfl, rfl⟩
  have i8 := rt_bo (k := 8) (by omega) i7 _ rfl
  refine ⟨_, rt_one0 (X := X) (l := l) (cu := 70 * w + 68) _ i8.2.2.1 i8.2.1 (by omega), ?_⟩
  rintro v σ' ⟨rfl, rfl⟩
  have i9 := rt_bo (k := 9) (by omega) i8 _ rfl
  exact ⟨rfl, _, rfl, fun a k hin => i9.1 a k hin (zv_i_lt hin), fun a k h1 h2 => i9.2.2.2 a k (fun z => h1 z.1) h2⟩
theorem rt_thinks : fw_Sem X l mX6_thinks [.ref 38] (fw_sh, I) (fun r σ => r = none ∧ ∃ I', σ = (fw_sh, I') ∧ zv_K 2 I I') := by
  refine fw_enter [] 100 ok_X6_thinks ⟨_, wc_X6_thinks⟩ rfl rfl rfl ?_
  refine ⟨_, rt_keepAll (X := X) (l := l) (I := I) (w := 2) (by omega), ?_⟩
  rintro v σ' ⟨rfl, I1, rfl, h⟩
  exact ⟨rfl, I1, rfl, h⟩
theorem rt_forgets : fw_Sem X l mX6_forgets [.ref 38] (fw_sh, I) (fun r σ => r = none ∧ ∃ I', σ = (fw_sh, I') ∧ zv_B 2 I I') := by
  refine fw_enter [] 100 ok_X6_forgets ⟨_, wc_X6_forgets⟩ rfl rfl rfl ?_
  refine ⟨_, rt_backAll (X := X) (l := l) (I := I) (w := 2) (by omega), ?_⟩
  rintro v σ' ⟨rfl, I1, rfl, h⟩
  exact ⟨rfl, I1, rfl, h⟩
end zR3
