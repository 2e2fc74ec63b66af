def zy_A (T : Nat → Nat) : Nat → Nat
  | 0 => 0
  | k + 1 => zy_A T k + 1 + zy_fl (zy_fm (T (zy_A T k)))
/-- the first m statements are read -/
def zy_Rec (T : Nat → Nat) (n m : Nat) (I : Nat → Nat → Int32) : Prop := ∀ k, k < m → I 47 k = nI (T (zy_A T k)) ∧ I 48 k = nI (zy_A T k) ∧ (zy_wf T n (zy_A T k) ∧ zy_A T k < n) ∧ ∀ j, j < zy_tn T (zy_A T k) → I 49 (5 * k + j) = nI (zy_tv T (zy_A T k) j)
theorem zy_A_le {T : Nat → Nat} {n : Nat} : ∀ m, (∀ k, k < m → zy_wf T n (zy_A T k)) → 3 * m ≤ zy_A T m ∧ (0 < m → zy_A T m ≤ n)
  | 0, _ => by simp [zy_A]
  | m + 1, h => by
    have ih := zy_A_le m (fun k hk => h k (by omega))
    have hw := h m (by omega)
    have hfl := zy_fl_pos _ (by have := zy_fm_le (T (zy_A T m)); omega) hw.1
    have := (hw.2 (zy_fl (zy_fm (T (zy_A T m))) - 1) (by omega)).1
    simp only [zy_A]
    omega
theorem zy_tn_le (T : Nat → Nat) (a : Nat) : zy_tn T a ≤ 5 := by
  unfold zy_tn
  repeat' split
  all_goals omega
section zR20
variable {X : Nat × (Nat → Int32)} {l : Launch} {I : Nat → Nat → Int32} {s : zS} {L : Nat → Nat → Nat} {T : Nat → Nat} {n : Nat}
theorem zm_cl (h : zm_at s I) : zm_at (s.1, s.2.1, zs_cl s, s.2.2.2) (fw_up I 38 15 (nI 0)) := by
  obtain ⟨h1, h2, h3, h4, h5, h6, h7, h8, h9⟩ := h
  refine ⟨⟨h1.1, h1.2.1, Nat.zero_le _, h1.2.2.2.1, h1.2.2.2.2.1, h1.2.2.2.2.2.1, h1.2.2.2.2.2.2⟩, h2.keep (fun a k _ => fw_up_p a k (by omega)), ?_, fun z => (h4 z).keep (fun k hk => by rw [fw_up_ne _ (by omega)]), fw_up_at, fun j hj => absurd hj (Nat.not_lt_zero j), ?_, fun j hj => ?_, fun k hk => ?_⟩
  · rw [fw_up_k (by omega)]; exact h3
  · rw [fw_up_k (by omega)]; exact h7
  · rw [fw_up_ne _ (by omega)]; exact h8 j hj
  · rw [fw_up_ne _ (by omega)]; exact h9 k hk
theorem cm_land (h : zm_at s I) : zs_m X l mX6_land [.ref 38] I (zo_land s) := by
  have hl := h.2.1
  have hd := h.1.1
  obtain ⟨T, hTd⟩ : ∃ T, T = s.2.2.1 2 := ⟨_, rfl⟩
  obtain ⟨n, hnd⟩ : ∃ n, n = s.2.2.1 1 0 := ⟨_, rfl⟩
  have rx : zy_rx T n I := ⟨by rw [hnd]; exact h.2.2.2.2.1, fun j hj => by rw [hTd]; rw [hnd] at hj; exact h.2.2.2.2.2.1 j hj, by rw [hnd]; exact h.1.2.2.1, by rw [hTd]; exact h.1.2.2.2.1⟩
  have hn := rx.2.2.1
  have h255 := rx.2.2.2
  obtain ⟨O, hO⟩ : ∃ O, O = zo_land s := ⟨_, rfl⟩
  have eO : O = if zy_odd T n = 0 then (if (zy_tell T n 97 s.1 0 0).1 = 0 then (nI (zy_tell T n 97 s.1 0 0).2.2, (zy_tell T n 97 s.1 0 0).2.1, s.2.1, zs_cl s, s.2.2.2) else (-2000 - nI ((zy_tell T n 97 s.1 0 0).1 - 1), s.1, s.2.1, zs_cl s, s.2.2.2)) else (-1000 - nI (zy_odd T n - 1), s.1, s.2.1, zs_cl s, s.2.2.2) := by
    rw [hO, hTd, hnd]; rfl
  rw [← hO]
  -- all is read: what is told comes
  have phase2 : ∀ m I1, 0 < m → m ≤ 32 → zqf I I1 → I1 38 17 = nI m → zy_Rec T n m I1 → ¬ zy_A T m < n → zy_odd T n = 0 → fw_Go X l mX6_land (fun r σ => r = some (.int O.1) ∧ ∃ I', σ = (fw_sh, I') ∧ zm_at O.2 I' ∧ zf_lo I I') 60 0 0 [some (.ref 38), some (.int 1), none] [] (fw_sh, I1) := by
    intro m I1 hm0 hm hf1 h17 hrec hend hodd
    rw [if_pos hodd] at eO
    obtain ⟨R, hR⟩ : ∃ R, R = zy_tell T n 97 s.1 0 0 := ⟨_, rfl⟩
    rw [← hR] at eO
    have hcl : zm_at (s.1, s.2.1, zs_cl s, s.2.2.2) (fw_up I1 38 15 (nI 0)) := zm_keep (zm_cl h) (fun a k q1 q2 q3 q4 q5 q6 q7 => by
      by_cases e : a = 38 ∧ k = 15
      · rw [e.1, e.2, fw_up_at, fw_up_at]
      · rw [fw_up_p a k (by omega), fw_up_p a k (by omega)]; exact hf1 a k (by omega) (by omega))
    have hlo1 : zf_lo I (fw_up I1 38 15 (nI 0)) := fun c hc => funext fun k => by rw [fw_up_ne c (by omega)]; exact hf1 c k (by omega) (by omega)
    obtain ⟨J0, hJ0⟩ : ∃ J0, J0 = fw_up I1 38 15 (nI 0) := ⟨_, rfl⟩
    have cK := rt_keepAll (X := X) (l := l) (I := fw_up I1 38 15 (nI 0)) (w := 1) (by omega)
    refine fw_from [86] 100 32 ok_X6_land ⟨_, wc_X6_land⟩ rfl ?_
    refine And.intro (fun _ => ?_) (fun z => absurd z (by decide))
    refine ⟨_, cK, ?_⟩
    rintro v σ' ⟨rfl, J1, rfl, hK⟩
    rw [← hJ0] at hK hcl hlo1
    have f01 : ∀ J2, zgw 2 J1 J2 → ∀ a k, 46 ≤ a → a ≤ 49 → J2 a k = I1 a k := fun J2 hg a k h1 h2 => by
      rw [hg a k (by omega) (by omega) (by omega) (by omega) (by omega), hK.2 a k (by omega) (by omega), hJ0, fw_up_ne a (by omega)]
    have f17 : ∀ J2, zgw 2 J1 J2 → J2 38 17 = nI m := fun J2 hg => by
      rw [hg 38 17 (by omega) (by omega) (by omega) (by omega) (by omega), hK.2 38 17 (by omega) (by omega), hJ0, fw_up_k (by omega)]; exact h17
    have loop := zl_down (N := m) (G := fun k => ∀ J2 Lk, zm_l 6 Lk J2 → Lk 10 0 ≤ 999 → zgw 2 J1 J2 → R = zy_tell T n (97 - k) Lk (zy_A T k) k → fw_Go X l mX6_land (fun r σ => r = some (.int O.1) ∧ ∃ I', σ = (fw_sh, I') ∧ zm_at O.2 I' ∧ zf_lo I I') 86 0 0 [some (.ref 38), some (.int 1), some (.int (nI k))] [] (fw_sh, J2)) (by
      intro J2 Lk hz hdk hg hRk
      have eR : R = (0, Lk, m) := by
        rw [hRk]
        obtain ⟨f, hf⟩ : ∃ f, 97 - m = f + 1 := ⟨96 - m, by omega⟩
        rw [hf]
        simp only [zy_tell, hend, if_false]
      have eO2 : O = (nI m, Lk, s.2.1, zs_cl s, s.2.2.2) := by rw [eO, eR]; rfl
      refine fw_from [86] 100 48 ok_X6_land ⟨_, wc_X6_land⟩ rfl ?_
      refine zq_le m m (f17 J2 hg) rfl (fun _ => ?_) (fun z => absurd z (by omega))
      rw [eO2]
      refine ⟨zr_e (f17 J2 hg), J2, rfl, zm_now (s := (s.1, s.2.1, zs_cl s, s.2.2.2)) hcl hz hdk (fun a k q1 q2 q3 q4 q5 => ?_), ?_⟩
      · rw [hg a k q1 q2 q3 (by omega) q5, hK.2 a k (by omega) q5]
      · intro c hc
        funext k
        rw [hg c k (by omega) (by omega) (by omega) (by omega) (by omega), hK.2 c k (by omega) (by omega), hlo1 c hc]) (fun k hk ih => by
      intro J2 Lk hz hdk hg hRk
      obtain ⟨r1, r2, ⟨r3, r3b⟩, r4⟩ := hrec k hk
      have htn := zy_tn_le T (zy_A T k)
      have hfl := zy_fl_pos _ (by have := zy_fm_le (T (zy_A T k)); omega) r3.1
      have cc := rt_comes (X := X) (l := l) (T := T) (n := n) hz hdk (k := k) (a := zy_A T k) (by omega) (by rw [f01 J2 hg 47 k (by omega) (by omega)]; exact r1) r3 h255 (fun j hj => by rw [f01 J2 hg 49 _ (by omega) (by omega)]; exact r4 j hj)
      obtain ⟨f, hf⟩ : ∃ f, 97 - k = f + 1 := ⟨96 - k, by omega⟩
      have hf2 : 97 - (k + 1) = f := by omega
      rw [hf] at hRk
      have e1 : zy_tell T n (f + 1) Lk (zy_A T k) k = if zy_ok Lk T (zy_A T k) = true then zy_tell T n f (zy_ex Lk T (zy_A T k)) (zy_A T k + 1 + zy_fl (zy_fm (T (zy_A T k)))) (k + 1) else (zy_A T k + 1, Lk, k) := by simp only [zy_tell, r3b, if_true]
      rw [e1] at hRk
      refine fw_from [86] 100 48 ok_X6_land ⟨_, wc_X6_land⟩ rfl ?_
      refine zq_le m k (f17 J2 hg) rfl (fun z => absurd z (by omega)) (fun _ => ?_)
      refine ⟨_, cc, ?_⟩
      rintro v σ' ⟨rfl, J3, rfl, hz3, hg3⟩
      refine zq_br (zi_eq0 _) (fun g => ?_) (fun g => ?_)
      · rw [if_neg (by rw [g]; exact Bool.false_ne_true)] at hRk
        have eO2 : O = (-2000 - nI (zy_A T k), s.1, s.2.1, zs_cl s, s.2.2.2) := by rw [eO, hRk]; rfl
        refine ⟨_, rt_backAll (X := X) (l := l) (I := J3) (w := 1) (by omega), ?_⟩
        rintro v σ' ⟨rfl, J4, rfl, hB⟩
        have hh : zh 1 J0 J4 := zh_mk hK (hg.tr hg3.w) hB
        refine And.intro (fw_in1 k 48 (by omega)) ?_
        rw [eO2]
        refine ⟨zr_e ?_, J4, rfl, hh.m hcl, hlo1.tr hh.lo⟩
        show -2000 - J4 48 (nI k).toNatClampNeg = _
        rw [nI_clamp (by omega), hh 48 k (by omega) (by omega) (by omega) (by omega) (by omega), hJ0, fw_up_ne 48 (by omega), r2]
      · have g : zy_ok Lk T (zy_A T k) = true := by simpa using g
        rw [if_pos g] at hRk
        exact fw_sub (ih J3 _ (hz3 g) (zy_ex_day g hdk) (hg.tr hg3.w) (by rw [hf2]; exact hRk)) (by simp only [nI_1]) rfl)
    exact fw_sub (loop 0 (by omega) J1 s.1 (hcl.2.1.K hK) hd (fun _ _ _ _ _ _ _ => rfl) hR) (by rfl) rfl
  -- an odd letter
  have badEnd : ∀ e I1, zqf I I1 → I1 38 16 = nI e → zy_odd T n = e + 1 → fw_Go X l mX6_land (fun r σ => r = some (.int O.1) ∧ ∃ I', σ = (fw_sh, I') ∧ zm_at O.2 I' ∧ zf_lo I I') 12 0 0 [some (.ref 38), some (.int 0), none] [] (fw_sh, I1) := by
    intro e I1 hf1 h16 hodd
    have eO2 : O = (-1000 - nI e, s.1, s.2.1, zs_cl s, s.2.2.2) := by rw [eO, if_neg (by omega), hodd]; rfl
    refine fw_from [] 100 8 ok_X6_land ⟨_, wc_X6_land⟩ rfl ?_
    refine And.intro (fun _ => ?_) (fun z => absurd rfl z)
    refine And.intro (fun z => absurd rfl z) (fun _ => ?_)
    rw [eO2]
    refine ⟨zr_e ?_, fw_up I1 38 15 (nI 0), rfl, zm_keep (zm_cl h) (fun a k q1 q2 q3 q4 q5 q6 q7 => ?_), fun c hc => funext fun k => ?_⟩
    · show -1000 - fw_up I1 38 15 0 38 16 = _
      rw [fw_up_k (by omega), h16]
    · by_cases e : a = 38 ∧ k = 15
      · rw [e.1, e.2, fw_up_at, fw_up_at]
      · rw [fw_up_p a k (by omega), fw_up_p a k (by omega)]; exact hf1 a k (by omega) (by omega)
    · rw [fw_up_ne c (by omega)]; exact hf1 c k (by omega) (by omega)
  have phase1 : ∀ r m I1, m + r = 33 → zqf I I1 → I1 38 16 = nI (zy_A T m) → I1 38 17 = nI m → zy_Rec T n m I1 → (0 < n → zy_odd T n = zy_run T n (96 - m) (zy_A T m)) → fw_Go X l mX6_land (fun r σ => r = some (.int O.1) ∧ ∃ I', σ = (fw_sh, I') ∧ zm_at O.2 I' ∧ zf_lo I I') 12 0 0 [some (.ref 38), some (.int 1), none] [] (fw_sh, I1) := by
    intro r
    induction r with
    | zero =>
      intro m I1 hm hf1 h16 h17 hrec hrun
      have hA := zy_A_le m (fun k hk => (hrec k hk).2.2.1.1)
      have := hA.2 (by omega)
      omega
    | succ r ih =>
      intro m I1 hm hf1 h16 h17 hrec hrun
      have hA := zy_A_le m (fun k hk => (hrec k hk).2.2.1.1)
      have hA96 : zy_A T m ≤ 96 := by
        by_cases h0 : m = 0
        · subst h0; simp [zy_A]
        · have := hA.2 (by omega); omega
      have rx1 := rx.f hf1
      have cs := rt_state (X := X) (l := l) rx1 h16 h17 hA96 (by omega)
      have h15 := rx1.1
      have step : zy_A T m < n ∨ m = 0 → fw_Go X l mX6_land (fun r σ => r = some (.int O.1) ∧ ∃ I', σ = (fw_sh, I') ∧ zm_at O.2 I' ∧ zf_lo I I') 34 0 0 [some (.ref 38), some (.int 1), none] [] (fw_sh, I1) := by
        intro hor
        refine fw_from [12] 100 18 ok_X6_land ⟨_, wc_X6_land⟩ rfl ?_
        refine ⟨_, cs, ?_⟩
        rintro v σ' ⟨I2, rfl, F2, (⟨rfl, a1, a2, a3, a4, a5, a6⟩ | ⟨rfl, e, e1, e2, e3⟩)⟩
        · refine And.intro (fun z => absurd z (by decide)) (fun _ => ?_)
          have g17 : I2 38 17 = nI m := by rw [F2 38 17 (by omega) (by omega) (by omega) (by omega)]; exact h17
          have hzf : zqf I (fw_up I2 38 17 (nI (m + 1))) := fun a k q1 q2 => by rw [fw_up_p a k (by omega), F2 a k (by omega) (by omega) (by omega) (by omega)]; exact hf1 a k q1 q2
          have hj := zy_j_all a2.2
          refine fw_sub (ih (m + 1) (fw_up I2 38 17 (nI (m + 1))) (by omega) hzf ?_ fw_up_at (fun k hk => ?_) (fun h0 => ?_)) (by rfl) ?_
          · rw [fw_up_k (by omega), a3]; rfl
          · rw [fw_up_ne 47 (by omega), fw_up_ne 48 (by omega), fw_up_ne 49 (by omega)]
            by_cases e : k = m
            · subst e; exact ⟨a4, a5, ⟨a2, a1⟩, a6⟩
            · obtain ⟨r1, r2, r3, r4⟩ := hrec k (by omega)
              have htn := zy_tn_le T (zy_A T k)
              refine ⟨?_, ?_, r3, fun j hj => ?_⟩
              · rw [F2 47 k (by omega) (by omega) (by omega) (by omega)]; exact r1
              · rw [F2 48 k (by omega) (by omega) (by omega) (by omega)]; exact r2
              · rw [F2 49 _ (by omega) (by omega) (by omega) (by omega)]; exact r4 j hj
          · rw [hrun h0]
            obtain ⟨f, hf⟩ : ∃ f, 96 - m = f + 1 := ⟨95 - m, by omega⟩
            rw [hf, show 96 - (m + 1) = f by omega]
            have := a2.1
            simp only [zy_run, a1, if_true]
            rw [if_neg (by omega), if_pos hj]; rfl
          · dsimp only
            rw [g17, nI_1]
        · refine And.intro (fun _ => ?_) (fun z => absurd rfl z)
          have g17 : I2 38 17 = nI m := by rw [F2 38 17 (by omega) (by omega) (by omega) (by omega)]; exact h17
          have hodd : zy_odd T n = e + 1 := by
            by_cases han : zy_A T m < n
            · rw [hrun (by omega)]
              obtain ⟨f, hf⟩ : ∃ f, 96 - m = f + 1 := ⟨95 - m, by omega⟩
              rw [hf]; exact e2.1 han f
            · have hm0 : m = 0 := hor.resolve_left han
              have hA0 : zy_A T m = 0 := by rw [hm0]; rfl
              have he := e2.2 han
              unfold zy_odd
              rw [if_pos (by omega)]; omega
          refine fw_sub (badEnd e (fw_up I2 38 17 (nI m)) (fun a k q1 q2 => by rw [fw_up_p a k (by omega), F2 a k (by omega) (by omega) (by omega) (by omega)]; exact hf1 a k q1 q2) (by rw [fw_up_k (by omega)]; exact e3) hodd) (by rfl) ?_
          dsimp only
          rw [g17, show (0 : Int32) = nI 0 from rfl, nI_add, Nat.add_zero]
      refine fw_from [34, 60] 100 8 ok_X6_land ⟨_, wc_X6_land⟩ rfl ?_
      refine And.intro (fun z => absurd z (by decide)) (fun _ => ?_)
      refine zq_lt (zy_A T m) n h16 h15 (fun han => ?_) (fun han => ?_)
      · exact fw_sub (step (Or.inl han)) (by rfl) rfl
      · refine zq_ne m 0 h17 rfl (fun hm0 => ?_) (fun hm0 => ?_)
        · have hnpos : 0 < n := by
            obtain ⟨-, -, ⟨-, q⟩, -⟩ := hrec 0 (by omega)
            omega
          refine fw_sub (phase2 m I1 (by omega) (by omega) hf1 h17 hrec (by omega) ?_) (by rfl) rfl
          rw [hrun hnpos]
          obtain ⟨f, hf⟩ : ∃ f, 96 - m = f + 1 := ⟨95 - m, by omega⟩
          rw [hf]
          simp only [zy_run]
          rw [if_neg (by omega)]
        · exact fw_sub (step (Or.inr hm0)) (by rfl) rfl
  refine fw_enter [12] 100 ok_X6_land ⟨_, wc_X6_land⟩ rfl rfl rfl ?_
  refine fw_sub (phase1 33 0 (fw_up (fw_up I 38 16 0) 38 17 0) (by omega) (fun a k q1 q2 => by rw [fw_up_p a k (by omega), fw_up_p a k (by omega)]) (by rw [fw_up_k (by omega), fw_up_at]; rfl) (by rw [fw_up_at]; rfl) (fun k hk => absurd hk (by omega)) (fun h0 => ?_)) (by rfl) rfl
  unfold zy_odd
  rw [if_neg (by omega)]; rfl
end zR20
