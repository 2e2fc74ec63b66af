section zW
variable {X : Nat × (Nat → Int32)} {l : Launch} {I : Nat → Nat → Int32} {d : Nat} {L : Nat → Nat → Nat} {ow : Nat → Nat}
theorem zl_at.w {I' : Nat → Nat → Int32} (h : zl_at d L ow I) (hf : zf_fr [32, 33] I I') : zl_at d L ow I' := by
  have hd := h.1
  refine h.keep (fun c hc1 hc2 => hf c (by simp; omega))
theorem ct_spread (h : zl_at d L ow I) {s : zb_T} (hs : zb_ok s) (hw : zw_at s I) {y : Nat} (hy : y < 36) (hy1 : s.1 y + 1 ≤ s.2.2) : fw_Sem X l mX4_spread [.ref 31, .ref d, .int (nI y), .int (nI s.2.2)] (fw_sh, I) (fun r σ => r = some (.int (nI (zb_it (zl_op L ow) y 4 s).2.2)) ∧ ∃ I', σ = (fw_sh, I') ∧ zw_at (zb_it (zl_op L ow) y 4 s) I' ∧ zf_fr [32, 33] I I') := by
  have loop := zl_down (N := 4) (G := fun w => ∀ I' v6, zw_at (zb_it (zl_op L ow) y w s) I' → zf_fr [32, 33] I I' → fw_Go X l mX4_spread (fun r σ => r = some (.int (nI (zb_it (zl_op L ow) y 4 s).2.2)) ∧ ∃ I', σ = (fw_sh, I') ∧ zw_at (zb_it (zl_op L ow) y 4 s) I' ∧ zf_fr [32, 33] I I') 6 0 0 [some (.ref 31), some (.ref d), some (.int (nI y)), some (.int (nI s.2.2)), some (.int (nI (zb_it (zl_op L ow) y w s).2.2)), some (.int (nI w)), v6] [] (fw_sh, I')) (by
    intro I' v6 hw' hf
    refine fw_from [6] 100 4 ok_X4_spread ⟨_, wc_X4_spread⟩ rfl ?_
    refine zq_le 4 4 rfl rfl (fun _ => ?_) (fun h => absurd h (by omega))
    exact ⟨rfl, I', rfl, hw', hf⟩) (fun w hw4 ih => by
    intro I' v6 hw' hf
    obtain ⟨g1, g2, g3⟩ := zb_it_ok (op := zl_op L ow) hs hy1 w
    have gle := g1.le
    have h' := h.w hf
    have c1 := ct_beside (X := X) (l := l) (I := I') hy hw4
    have stay : ¬ zb_c (zl_op L ow) y w (zb_it (zl_op L ow) y w s) → fw_Go X l mX4_spread (fun r σ => r = some (.int (nI (zb_it (zl_op L ow) y 4 s).2.2)) ∧ ∃ I', σ = (fw_sh, I') ∧ zw_at (zb_it (zl_op L ow) y 4 s) I' ∧ zf_fr [32, 33] I I') 6 0 0 [some (.ref 31), some (.ref d), some (.int (nI y)), some (.int (nI s.2.2)), some (.int (nI (zb_it (zl_op L ow) y w s).2.2)), some (.int (nI (w + 1))), some (.int (zo_I 36 (zl_be y w)))] [] (fw_sh, I') := fun hc => by
      have e : zb_it (zl_op L ow) y (w + 1) s = zb_it (zl_op L ow) y w s := zb_1_n hc
      have := ih I' (some (.int (zo_I 36 (zl_be y w)))) (by rw [e]; exact hw') hf
      rw [e] at this
      exact this
    refine fw_from [6] 100 4 ok_X4_spread ⟨_, wc_X4_spread⟩ rfl ?_
    refine zq_le 4 w rfl rfl (fun h => absurd h (by omega)) (fun _ => ?_)
    refine ⟨_, c1, ?_⟩
    rintro v σ' ⟨rfl, rfl⟩
    refine zq_br (c := zo_I 36 (zl_be y w) = -1) (d := ¬ zl_be y w < 36) ?_ (fun g => ?_) (fun g => ?_)
    · by_cases hb : zl_be y w < 36
      · simp only [zo_some hb, hb, not_true, iff_false]; exact nI_m1 (by omega)
      · simp [zo_none hb, hb]
    · exact fw_sub (stay (fun z => g z.1)) (by simp only [nI_1]) rfl
    have g : zl_be y w < 36 := Decidable.not_not.mp g
    have b1 := zo_some g
    have hfn := g1.2.1 _ g
    refine And.intro (fw_in1 (zl_be y w) 36 g b1) ?_
    refine zq_ne ((zb_it (zl_op L ow) y w s).1 (zl_be y w)) 36 ?_ rfl (fun k2 => ?_) (fun k2 => ?_)
    · show I' 32 (zo_I 36 (zl_be y w)).toNatClampNeg = _
      rw [b1]; exact zq_rd (hw'.1 _ g)
    · exact fw_sub (stay (fun z => k2 z.2.1)) (by simp only [nI_1]) rfl
    have hm := g1.lt g k2
    refine zq_le 36 (zb_it (zl_op L ow) y w s).2.2 rfl rfl (fun z => absurd z (by omega)) (fun _ => ?_)
    have c2 := ct_isOpen (X := X) (l := l) h' g
    rw [← b1] at c2
    rcases h.1 with rfl | rfl | rfl <;>
    · refine ⟨_, c2, ?_⟩
      rintro v σ' ⟨rfl, rfl⟩
      refine zq_br (zi_eq0 _) (fun k3 => ?_) (fun k3 => ?_)
      · exact fw_sub (stay (fun z => by have z2 := z.2.2; rw [k3] at z2; cases z2)) (by simp only [nI_1]) rfl
      have hc : zb_c (zl_op L ow) y w (zb_it (zl_op L ow) y w s) := ⟨g, k2, by simpa using k3⟩
      have e : zb_it (zl_op L ow) y (w + 1) s = zb_p y w (zb_it (zl_op L ow) y w s) := zb_1_y hc
      refine And.intro (fw_in1 y 36 hy) ?_
      refine And.intro (fw_in1 (zl_be y w) 36 g b1) ?_
      refine And.intro (fw_in1 (zb_it (zl_op L ow) y w s).2.2 36 hm) ?_
      have key := ih (fw_up (fw_up I' 32 (zl_be y w) (nI ((zb_it (zl_op L ow) y w s).1 y + 1))) 33 (zb_it (zl_op L ow) y w s).2.2 (nI (zl_be y w))) (some (.int (zo_I 36 (zl_be y w)))) ?_ ((hf.up (by simp)).up (by simp))
      · refine fw_sub key ?_ ?_
        · rw [e]; simp only [nI_1, zb_p]
        · show (fw_sh, fw_up (fw_up I' 32 (zo_I 36 (zl_be y w)).toNatClampNeg (I' 32 (nI y).toNatClampNeg + 1)) 33 _ (zo_I 36 (zl_be y w))) = _
          rw [b1, zq_rd (hw'.1 y hy), nI_clamp (by omega), nI_clamp (by omega), nI_1]
      · rw [e]
        refine ⟨fun z hz => ?_, fun i hi => ?_⟩
        · rw [fw_up_ne 32 (by omega)]
          by_cases hzz : z = zl_be y w
          · subst hzz; rw [fw_up_at]; simp [zb_p, zb_set]
          · rw [fw_up_k hzz, hw'.1 z hz]; simp [zb_p, zb_set, hzz]
        · by_cases hii : i = (zb_it (zl_op L ow) y w s).2.2
          · subst hii; rw [fw_up_at]; simp [zb_p, zb_set]
          · rw [fw_up_k hii, fw_up_ne 33 (by omega), hw'.2 i (by simp only [zb_p] at hi; omega)]; simp [zb_p, zb_set, hii])
  refine fw_enter [6] 100 ok_X4_spread ⟨_, wc_X4_spread⟩ rfl rfl rfl ?_
  exact fw_sub (loop 0 (by omega) I none hw zf_fr.rf) (by rfl) rfl
theorem ct_measure (h : zl_at d L ow I) {a : Nat} (ha : a < 36) : fw_Sem X l mX4_measureFrom [.ref 31, .ref d, .int (nI a)] (fw_sh, I) (fun r σ => r = none ∧ ∃ I', σ = (fw_sh, I') ∧ (∀ y, y < 36 → I' 32 y = nI (zb_far (zl_op L ow) a y)) ∧ zf_fr [32, 33] I I') := by
  have loop2 : ∀ f k, k + f = 36 → ∀ (s : zb_T) I', zb_ok s → zw_at s I' → zf_fr [32, 33] I I' → fw_Go X l mX4_measureFrom (fun r σ => r = none ∧ ∃ I', σ = (fw_sh, I') ∧ (∀ y, y < 36 → I' 32 y = nI ((zb_run (zl_op L ow) f k s).1 y)) ∧ zf_fr [32, 33] I I') 50 0 0 [some (.ref 31), some (.ref d), some (.int (nI a)), some (.int (nI s.2.2)), some (.int (nI k))] [] (fw_sh, I') := by
    intro f
    induction f with
    | zero =>
      intro k hk s I' hs hw hf
      have hle := hs.le
      refine fw_from [50] 100 31 ok_X4_measureFrom ⟨_, wc_X4_measureFrom⟩ rfl ?_
      refine zq_le s.2.2 k rfl rfl (fun _ => ?_) (fun z => absurd z (by omega))
      exact ⟨rfl, I', rfl, hw.1, hf⟩
    | succ f ih =>
      intro k hk s I' hs hw hf
      have hle := hs.le
      refine fw_from [50] 100 31 ok_X4_measureFrom ⟨_, wc_X4_measureFrom⟩ rfl ?_
      refine zq_le s.2.2 k rfl rfl (fun g => ?_) (fun g => ?_)
      · exact ⟨rfl, I', rfl, by simp only [zb_run, show ¬ k < s.2.2 by omega, if_false]; exact hw.1, hf⟩
      refine zq_le 36 k rfl rfl (fun z => absurd z (by omega)) (fun _ => ?_)
      refine And.intro (fw_in1 k 36 (by omega)) ?_
      have hq := hs.2.2 k g
      have c1 := ct_spread (X := X) (l := l) (h.w hf) hs hw hq.1 (by omega)
      rw [← zq_rd (hw.2 k g)] at c1
      rcases h.1 with rfl | rfl | rfl <;>
      · refine ⟨_, c1, ?_⟩
        rintro v σ' ⟨rfl, J, rfl, hJ, hJf⟩
        have e := ih (k + 1) (by omega) _ J (zb_it_ok (op := zl_op L ow) hs (by omega : s.1 (s.2.1 k) + 1 ≤ s.2.2) 4).1 hJ (hf.tr hJf)
        simp only [zb_run, g, if_true]
        exact fw_sub e (by simp only [nI_1]) rfl
  have loop1 := zl_down (N := 36) (G := fun y => ∀ I', zf_fr [32, 33] I I' → (∀ j, j < y → I' 32 j = nI 36) → fw_Go X l mX4_measureFrom (fun r σ => r = none ∧ ∃ I', σ = (fw_sh, I') ∧ (∀ y, y < 36 → I' 32 y = nI (zb_far (zl_op L ow) a y)) ∧ zf_fr [32, 33] I I') 2 0 0 [some (.ref 31), some (.ref d), some (.int (nI a)), some (.int (nI y)), none] [] (fw_sh, I')) (by
    intro I' hf hr
    have c1 := ct_isOpen (X := X) (l := l) (h.w hf) ha
    refine fw_from [2, 50] 100 2 ok_X4_measureFrom ⟨_, wc_X4_measureFrom⟩ rfl ?_
    refine zq_le 36 36 rfl rfl (fun _ => ?_) (fun h => absurd h (by omega))
    rcases h.1 with rfl | rfl | rfl <;>
    · refine ⟨_, c1, ?_⟩
      rintro v σ' ⟨rfl, rfl⟩
      refine zq_brn (zi_eq0 _) (fun g => ?_) (fun g => ?_)
      · have g : zl_op L ow a = true := by simpa using g
        refine And.intro (fw_in1 a 36 ha) ?_
        refine And.intro (fw_in1 0 36 (by omega)) ?_
        have e := loop2 36 0 (by omega) (zb_0 a) (fw_up (fw_up I' 32 a 0) 33 0 (nI a)) (zb_0_ok ha) ⟨fun z hz => ?_, fun i hi => ?_⟩ ((hf.up (by simp)).up (by simp))
        · have e2 : zb_far (zl_op L ow) a = (zb_run (zl_op L ow) 36 0 (zb_0 a)).1 := by simp [zb_far, g]
          rw [e2]
          exact fw_sub e (by rfl) (by rw [nI_clamp (by omega)]; rfl)
        · rw [fw_up_ne 32 (by omega)]
          by_cases hz2 : z = a
          · subst hz2; rw [fw_up_at]; simp [zb_0]; rfl
          · rw [fw_up_k hz2, hr z hz]; simp [zb_0, hz2]
        · have : i = 0 := by simp only [zb_0] at hi; omega
          subst this
          rw [fw_up_at]; rfl
      · exact ⟨rfl, I', rfl, fun z hz => by rw [hr z hz]; simp [zb_far, g], hf⟩) (fun y hy ih => by
    intro I' hf hr
    refine fw_from [2, 50] 100 2 ok_X4_measureFrom ⟨_, wc_X4_measureFrom⟩ rfl ?_
    refine zq_le 36 y rfl rfl (fun h => absurd h (by omega)) (fun _ => ?_)
    refine And.intro (fw_in1 y 36 hy) ?_
    refine fw_sub (ih (fw_up I' 32 y (nI 36)) (hf.up (by simp)) (fun j hj => ?_)) (by simp only [nI_1]) (by rw [nI_clamp (by omega)]; rfl)
    by_cases hjy : j = y
    · subst hjy; rw [fw_up_at]
    · rw [fw_up_k hjy]; exact hr j (by omega))
  refine fw_enter [2] 100 ok_X4_measureFrom ⟨_, wc_X4_measureFrom⟩ rfl rfl rfl ?_
  exact fw_sub (loop1 0 (by omega) I zf_fr.rf (fun j hj => absurd hj (by omega))) (by rfl) rfl
end zW
