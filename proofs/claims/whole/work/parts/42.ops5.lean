section zZ2
variable {X : Nat × (Nat → Int32)} {l : Launch} {I : Nat → Nat → Int32} {s : zS}
theorem cs_piece (h : zc_at s I) (p w : Int32) : zs_c X l mX5_piece [.ref 0, .int p, .int w] I (zo_piece s p w) := by
  have hl := h.2.1
  have hP := hl.2.1.1
  have c1 := ct_hasPiece (X := X) (l := l) hl p
  have no : ∀ c, 1 ≤ c → c ≤ 6 → zo_piece s p w = zx_no s c → fw_Go X l mX5_piece (fun r σ => r = some (.int (zo_piece s p w).1) ∧ ∃ I', σ = (fw_sh, I') ∧ zc_at (zo_piece s p w).2 I' ∧ zf_hi I I') 21 0 0 [some (.ref 0), some (.int p), some (.int w), none] [.int (zn_g c)] (fw_sh, I) := by
    intro c hc1 hc6 e
    refine fw_from [] 100 10 ok_X5_piece ⟨_, wc_X5_piece⟩ rfl ?_
    refine zq_br (zn_g0 hc6) (fun z => absurd z (by omega)) (fun _ => ?_)
    refine ⟨_, ct_no (X := X) (l := l) h hc1 hc6, fun v σ' hq => ?_⟩
    obtain ⟨rfl, I', rfl, h1, h2⟩ := hq
    exact zc_end e ⟨rfl, I', rfl, h1, h2⟩
  refine fw_enter [21] 100 ok_X5_piece ⟨_, wc_X5_piece⟩ rfl rfl rfl ?_
  refine ⟨_, c1, ?_⟩
  rintro v σ' ⟨rfl, rfl⟩
  refine zq_brn (zi_eq0 _) (fun g => ?_) (fun g => ?_)
  · have g : zb_in p (s.1 9 0) = true := by simpa using g
    refine ⟨_, ct_oth (X := X) (l := l) (I := I) w 6, ?_⟩
    rintro v' σ' ⟨rfl, rfl⟩
    by_cases hk : zk_oth w 6 = 0
    · obtain ⟨q, hq, rfl⟩ := zb_in_of g (by omega)
      obtain ⟨j, hj, rfl⟩ := zk_oth_sp hk
      have ec := nI_clamp (n := q) (by omega)
      have ej := nI_clamp (n := j) (by omega)
      have w7 := hl.2.1.2.2.2 q hq
      have rd := fun k hk1 hk2 => hl.2.2.2.2.1 k hk1 hk2 q hq
      have done : ∀ v, (j = 6 → v = nI (zm_s (fun y => if zl_ow s.1 6 y = q then 1 else 0) 36)) → (j ≠ 6 → v = nI (s.1 (j + 2) q)) → (some (Value.int v) = some (.int (zo_piece s (nI q) (nI j)).1)) ∧ ∃ I', (fw_sh, I) = (fw_sh, I') ∧ zc_at (zo_piece s (nI q) (nI j)).2 I' ∧ zf_hi I I' := by
        intro v hv1 hv2
        simp only [zo_piece, g, hk, ec, ej, if_true]
        refine ⟨zr_e ?_, I, rfl, h, zf_hi.rf⟩
        split
        · exact hv1 (by assumption)
        · exact hv2 (by assumption)
      rw [hk]
      refine fw_from [] 100 10 ok_X5_piece ⟨_, wc_X5_piece⟩ rfl ?_
      refine zq_br (zn_g0 (show 0 ≤ 6 by omega)) (fun _ => ?_) (fun z => absurd rfl z)
      refine zq_eq j 0 rfl rfl (fun z => ?_) (fun z0 => ?_)
      · refine And.intro (fw_in1 q 6 (by omega)) ?_
        exact done _ (fun z6 => by omega) (fun _ => by subst z; exact zq_rd (rd 2 (by omega) (by omega)))
      refine zq_eq j 1 rfl rfl (fun z => ?_) (fun z1 => ?_)
      · refine And.intro (fw_in1 q 6 (by omega)) ?_
        exact done _ (fun z6 => by omega) (fun _ => by subst z; exact zq_rd (rd 3 (by omega) (by omega)))
      refine zq_eq j 2 rfl rfl (fun z => ?_) (fun z2 => ?_)
      · refine And.intro (fw_in1 q 6 (by omega)) ?_
        exact done _ (fun z6 => by omega) (fun _ => by subst z; exact zq_rd (rd 4 (by omega) (by omega)))
      refine zq_eq j 3 rfl rfl (fun z => ?_) (fun z3 => ?_)
      · refine And.intro (fw_in1 q 6 (by omega)) ?_
        exact done _ (fun z6 => by omega) (fun _ => by subst z; exact zq_rd (rd 5 (by omega) (by omega)))
      refine zq_eq j 4 rfl rfl (fun z => ?_) (fun z4 => ?_)
      · refine And.intro (fw_in1 q 6 (by omega)) ?_
        exact done _ (fun z6 => by omega) (fun _ => by subst z; exact zq_rd (rd 6 (by omega) (by omega)))
      refine zq_eq j 5 rfl rfl (fun z => ?_) (fun z5 => ?_)
      · refine And.intro (fw_in1 q 6 (by omega)) ?_
        refine zq_eq (s.1 7 q) 0 (zq_rd (rd 7 (by omega) (by omega))) rfl (fun k => ?_) (fun k => ?_)
        · exact done _ (fun z6 => by omega) (fun _ => by subst z; rw [k]; rfl)
        · exact done _ (fun z6 => by omega) (fun _ => by subst z; rw [show s.1 (5 + 2) q = 1 by show s.1 7 q = 1; omega]; rfl)
      refine ⟨_, ct_yardsOf (X := X) (l := l) hl hq, ?_⟩
      rintro v σ' ⟨rfl, rfl⟩
      exact done _ (fun _ => rfl) (fun z6 => by omega)
    · exact fw_sub2 (no (zk_oth w 6) (by omega) zk_oth_le (by simp [zo_piece, g, hk])) (by rfl) (by rfl) rfl
  · exact fw_sub2 (no 1 (by omega) (by omega) (by simp [zo_piece, g])) (by rfl) (by rfl) rfl
theorem cs_count (h : zc_at s I) (w : Int32) : zs_c X l mX5_count [.ref 0, .int w] I (zo_count s w) := by
  obtain ⟨h1, h2, h3, h4, h5, h6, h7, h8, h9⟩ := id h
  have e10 : (10 : Int32).toInt = 10 := rfl
  have e16 : (16 : Int32).toInt = 16 := rfl
  have small : ¬ (10 < w.toInt ∧ w.toInt ≤ 16) → fw_Go X l mX5_count (fun r σ => r = some (.int (zo_count s w).1) ∧ ∃ I', σ = (fw_sh, I') ∧ zc_at (zo_count s w).2 I' ∧ zf_hi I I') 22 0 0 [some (.ref 0), some (.int w)] [] (fw_sh, I) := by
    intro hn
    refine fw_from [] 100 13 ok_X5_count ⟨_, wc_X5_count⟩ rfl ?_
    have tst : ∀ j : Nat, j < 8 → (w = nI j ↔ w.toInt = (j : Int)) := fun j hj => by rw [zt_eq, nI_toInt (by omega)]
    have cl : w.toNatClampNeg = w.toInt.toNat := rfl
    refine zq_br (tst 0 (by omega)) (fun z => ?_) (fun z0 => ?_)
    · refine ⟨zr_e (h2.2.2.2.2.2.1.trans ?_), I, rfl, h, zf_hi.rf⟩
      simp [zo_count, hn, zb_in, cl, z]
    refine zq_br (tst 1 (by omega)) (fun z => ?_) (fun z1 => ?_)
    · refine ⟨zr_e (h2.2.2.2.2.2.2.1.trans ?_), I, rfl, h, zf_hi.rf⟩
      simp [zo_count, hn, zb_in, cl, z]
    refine zq_br (tst 2 (by omega)) (fun z => ?_) (fun z2 => ?_)
    · refine ⟨_, ct_allGrown (X := X) (l := l) h2, ?_⟩
      rintro v σ' ⟨rfl, rfl⟩
      refine ⟨zr_e ?_, I, rfl, h, zf_hi.rf⟩
      simp [zo_count, hn, zb_in, cl, z]
    refine zq_br (tst 3 (by omega)) (fun z => ?_) (fun z3 => ?_)
    · refine ⟨_, ct_countThistles (X := X) (l := l) h2, ?_⟩
      rintro v σ' ⟨rfl, rfl⟩
      refine ⟨zr_e ?_, I, rfl, h, zf_hi.rf⟩
      simp [zo_count, hn, zb_in, cl, z]
    refine zq_br (tst 4 (by omega)) (fun z => ?_) (fun z4 => ?_)
    · refine ⟨_, ct_countOpen (X := X) (l := l) h2, ?_⟩
      rintro v σ' ⟨rfl, rfl⟩
      refine ⟨zr_e ?_, I, rfl, h, zf_hi.rf⟩
      simp [zo_count, hn, zb_in, cl, z]
    refine zq_br (tst 5 (by omega)) (fun z => ?_) (fun z5 => ?_)
    · refine ⟨_, ct_rolledBits (X := X) (l := l) h2, ?_⟩
      rintro v σ' ⟨rfl, rfl⟩
      refine ⟨zr_e ?_, I, rfl, h, zf_hi.rf⟩
      simp [zo_count, hn, zb_in, cl, z]
    refine zq_br (tst 6 (by omega)) (fun z => ?_) (fun z6 => ?_)
    · refine ⟨zr_e (h7.trans ?_), I, rfl, h, zf_hi.rf⟩
      simp [zo_count, hn, zb_in, cl, z]
    refine zq_br (tst 7 (by omega)) (fun z => ?_) (fun z7 => ?_)
    · refine ⟨zr_e (h5.trans ?_), I, rfl, h, zf_hi.rf⟩
      simp [zo_count, hn, zb_in, cl, z]
    · refine ⟨zr_e ?_, I, rfl, h, zf_hi.rf⟩
      have : ¬ (0 ≤ w.toInt ∧ w.toInt < 8) := by omega
      simp [zo_count, hn, zb_in, this]
  refine fw_enter [22] 100 ok_X5_count ⟨_, wc_X5_count⟩ rfl rfl rfl ?_
  refine zq_br (zt_le w 10) (fun g => ?_) (fun g => ?_)
  · exact fw_sub (small (by omega)) (by rfl) rfl
  refine zq_br (zt_lt 16 w) (fun g2 => ?_) (fun g2 => ?_)
  · exact fw_sub (small (by omega)) (by rfl) rfl
  have hw : w = nI w.toInt.toNat := Int32.toInt_inj.mp (by rw [nI_toInt (by omega)]; omega)
  have hs : w - 10 = nI (w.toInt.toNat - 10) := by rw [hw, show (10 : Int32) = nI 10 from rfl, pk_sub (by omega), ← hw]
  refine And.intro (fw_in1 (w.toInt.toNat - 10) 7 (by omega) hs) ?_
  refine ⟨zr_e ?_, I, rfl, h, zf_hi.rf⟩
  show I 37 (w - 10).toNatClampNeg = _
  rw [hs, nI_clamp (by omega), h9 _ (by omega)]
  simp only [zo_count, show (10 < w.toInt ∧ w.toInt ≤ 16) by omega, and_self, if_true]
theorem cs_row (h : zc_at s I) (v : Int32) : zs_c X l mX5_row [.ref 0, .int v] I (zo_row s v) := by
  obtain ⟨h1, h2, h3, h4, h5, h6, h7, h8, h9⟩ := id h
  have hlen := h1.2.2.2.2.1
  have main : ∀ c2, c2 = (if s.2.2.1 3 0 < 16 then 0 else 6) → fw_Go X l mX5_row (fun r σ => r = some (.int (zo_row s v).1) ∧ ∃ I', σ = (fw_sh, I') ∧ zc_at (zo_row s v).2 I' ∧ zf_hi I I') 22 0 0 [some (.ref 0), some (.int v), none] [.int (zn_g c2), .int (zn_g (zk_out v 0 99))] (fw_sh, I) := by
    intro c2 hc2
    have hc6 : c2 ≤ 6 := by split at hc2 <;> omega
    refine fw_from [] 100 11 ok_X5_row ⟨_, wc_X5_row⟩ rfl ?_
    refine ⟨_, ct_first (X := X) (l := l) (I := I) zk_out_le, ?_⟩
    rintro v' σ' ⟨rfl, rfl⟩
    refine zq_br (zn_g0 (zk_first_le zk_out_le hc6)) (fun hk => ?_) (fun hk => ?_)
    · obtain ⟨hk1, hk2⟩ := zk_first0 hk
      have hlt : s.2.2.1 3 0 < 16 := by
        rw [hk2] at hc2
        split at hc2
        · assumption
        · cases hc2
      obtain ⟨j, hj1, hj, rfl⟩ := zk_out_sp hk1
      have ej := nI_clamp (n := j) (by omega)
      have ix : (I 0 7).toNatClampNeg = s.2.2.1 3 0 := by rw [h7, nI_clamp (by omega)]
      have eo : zo_row s (nI j) = (nI (s.2.2.1 3 0 + 1), s.1, s.2.1, (fun k i => if k = 3 then s.2.2.1 3 i + 1 else if k = 4 ∧ i = s.2.2.1 3 0 then j else s.2.2.1 k i), s.2.2.2) := by
        simp only [zo_row, hk1, hlt, if_true, zk_first, ej]
      rw [eo]
      refine And.intro (fw_in1 (s.2.2.1 3 0) 16 hlt h7) ?_
      have rw7 : ∀ x, fw_up I 36 (I 0 7).toNatClampNeg x 0 7 = nI (s.2.2.1 3 0) := fun x => by rw [fw_up_ne 0 (by omega)]; exact h7
      have e7 : fw_up (fw_up I 36 (I 0 7).toNatClampNeg (nI j)) 0 7 (fw_up I 36 (I 0 7).toNatClampNeg (nI j) 0 7 + 1) 0 7 = nI (s.2.2.1 3 0 + 1) := by rw [fw_up_at, rw7, nI_1]
      refine ⟨zr_e ?_, _, rfl, ?_, (zf_hi.rf.up (by omega)).up (by omega)⟩
      · exact e7
      · have row : ∀ c, c ≠ 0 → c ≠ 36 → fw_up (fw_up I 36 (I 0 7).toNatClampNeg (nI j)) 0 7 (fw_up I 36 (I 0 7).toNatClampNeg (nI j) 0 7 + 1) c = I c := fun c hc hc2 => by rw [fw_up_ne c hc, fw_up_ne c hc2]
        refine ⟨⟨h1.1, by simpa using h1.2.1, by simpa using h1.2.2.1, by simpa using h1.2.2.2.1, by simp; omega, fun i => ?_, by simpa using h1.2.2.2.2.2.2⟩, h2.keep (fun c _ _ => row c (by omega) (by omega)), ?_, fun z => (h4 (by simpa using z)).keep (fun c _ _ => row c (by omega) (by omega)), ?_, fun i hi => ?_, ?_, fun i hi => ?_, fun k hk => ?_⟩
        · have := h1.2.2.2.2.2.1 i
          simp only []
          simp
          split <;> omega
        · show fw_up (fw_up I 36 _ _) 0 7 _ 0 3 = _
          rw [fw_up_k (by omega), fw_up_ne 0 (by omega)]; simpa using h3
        · rw [row 34 (by omega) (by omega)]; simpa using h5
        · rw [row 35 (by omega) (by omega)]; simpa using h6 i (by simpa using hi)
        · exact e7.trans (by simp)
        · show fw_up (fw_up I 36 (I 0 7).toNatClampNeg (nI j)) 0 7 _ 36 i = _
          rw [fw_up_ne 36 (by omega), ix]
          by_cases hi2 : i = s.2.2.1 3 0
          · subst hi2; rw [fw_up_at]; simp
          · rw [fw_up_k hi2, h8 i (by simp at hi; omega)]; simp [hi2]
        · rw [row 37 (by omega) (by omega)]; exact h9 k hk
    · have e : zo_row s v = zx_no s (zk_first (zk_out v 0 99) c2) := by rw [hc2] at hk ⊢; simp [zo_row, hk]
      refine ⟨_, ct_no (X := X) (l := l) h (by omega) (zk_first_le zk_out_le hc6), fun v σ' hq => ?_⟩
      obtain ⟨rfl, I', rfl, h1, h2⟩ := hq
      exact zc_end e ⟨rfl, I', rfl, h1, h2⟩
  refine fw_enter [22] 100 ok_X5_row ⟨_, wc_X5_row⟩ rfl rfl rfl ?_
  refine ⟨_, ct_out (X := X) (l := l) (I := I) v 0 99, ?_⟩
  rintro v' σ' ⟨rfl, rfl⟩
  refine zq_lt (s.2.2.1 3 0) 16 h7 rfl (fun g => ?_) (fun g => ?_)
  · exact fw_sub2 (main 0 (by simp [g])) (by rfl) (by rfl) rfl
  · exact fw_sub2 (main 6 (by simp [show ¬ s.2.2.1 3 0 < 16 by omega])) (by rfl) (by rfl) rfl
end zZ2
