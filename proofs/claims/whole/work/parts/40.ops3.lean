def zl_tn (L : Nat → Nat → Nat) (p a b : Nat) : Nat → Nat → Nat := fun k j => if j = p ∧ k = 2 then a else if j = p ∧ k = 3 then b else L k j
def zo_turn (s : zS) (p k f : Int32) : Int32 × zS :=
  if zb_in p (s.1 9 0) then (if zk_first (zk_oth k 5) (zk_out f 0 9) = 0 then (nI (10 * s.1 2 p.toNatClampNeg + s.1 3 p.toNatClampNeg), zl_tn s.1 p.toNatClampNeg k.toNatClampNeg f.toNatClampNeg, s.2) else zx_no s (zk_first (zk_oth k 5) (zk_out f 0 9))) else zx_no s 1
def zo_days (s : zS) (n : Int32) : Int32 × zS :=
  if zk_out n 1 60 = 0 then (if s.1 10 0 + n.toNatClampNeg ≤ 999 then (nI (zm_s (fun y => if zl_pd s.1 (zl_ow s.1 6) n.toNatClampNeg 0 y = 9 then 1 else 0) 36), zl_pd s.1 (zl_ow s.1 6) n.toNatClampNeg, s.2) else zx_no s 6) else zx_no s (zk_out n 1 60)
def zo_thist (s : zS) (n w : Int32) : Int32 × zS :=
  if zk_first (zk_out n 0 99) (zk_oth w 1) = 0 then ((if w.toNatClampNeg = 0 then nI (zm_s (fun y => if zl_pd s.1 (zl_ow s.1 6) n.toNatClampNeg 0 y = 9 then 1 else 0) 36) else nI (zm_s (fun y => if zl_op (zl_pd s.1 (zl_ow s.1 6) n.toNatClampNeg) (zl_ow s.1 6) y then 1 else 0) 36)), s) else zx_no s (zk_first (zk_out n 0 99) (zk_oth w 1))
def zo_row (s : zS) (v : Int32) : Int32 × zS :=
  if zk_first (zk_out v 0 99) (if s.2.2.1 3 0 < 16 then 0 else 6) = 0 then (nI (s.2.2.1 3 0 + 1), s.1, s.2.1, (fun k j => if k = 3 then s.2.2.1 3 j + 1 else if k = 4 ∧ j = s.2.2.1 3 0 then v.toNatClampNeg else s.2.2.1 k j), s.2.2.2)
  else zx_no s (zk_first (zk_out v 0 99) (if s.2.2.1 3 0 < 16 then 0 else 6))
theorem zk_first0 {a b : Nat} (h : zk_first a b = 0) : a = 0 ∧ b = 0 := by
  unfold zk_first at h
  split at h
  · exact ⟨by assumption, h⟩
  · exact absurd h (by assumption)
section zY
variable {X : Nat × (Nat → Int32)} {l : Launch} {I : Nat → Nat → Int32} {s : zS}
theorem cs_makes (h : zc_at s I) (y v : Int32) : zs_c X l mX5_makes [.ref 0, .int y, .int v] I (zo_makes s y v) := by
  have hl := h.2.1
  have c1 := ct_isYard (X := X) (l := l) (I := I) y
  have no : ∀ c, 1 ≤ c → c ≤ 6 → zo_makes s y v = zx_no s c → fw_Go X l mX5_makes (fun r σ => r = some (.int (zo_makes s y v).1) ∧ ∃ I', σ = (fw_sh, I') ∧ zc_at (zo_makes s y v).2 I' ∧ zf_hi I I') 18 0 0 [some (.ref 0), some (.int y), some (.int v), none, none] [.int (zn_g c)] (fw_sh, I) := by
    intro c hc1 hc6 e
    refine fw_from [] 100 9 ok_X5_makes ⟨_, wc_X5_makes⟩ rfl ?_
    refine zq_br (zn_g0 hc6) (fun z => absurd z (by omega)) (fun _ => ?_)
    refine ⟨_, ct_no (X := X) (l := l) h hc1 hc6, fun v σ' hq => ?_⟩
    obtain ⟨rfl, I', rfl, h1, h2⟩ := hq
    exact zc_end e ⟨rfl, I', rfl, h1, h2⟩
  refine fw_enter [18] 100 ok_X5_makes ⟨_, wc_X5_makes⟩ rfl rfl rfl ?_
  refine ⟨_, c1, ?_⟩
  rintro v' σ' ⟨rfl, rfl⟩
  refine zq_brn (zi_eq0 _) (fun g => ?_) (fun g => ?_)
  · have g : zb_in y 36 = true := by simpa using g
    refine ⟨_, ct_out (X := X) (l := l) (I := I) v 0 9, ?_⟩
    rintro v' σ' ⟨rfl, rfl⟩
    by_cases hk : zk_out v 0 9 = 0
    · obtain ⟨q, hq, rfl⟩ := zb_in_of g (by omega)
      obtain ⟨j, hj1, hj, rfl⟩ := zk_out_sp hk
      have ec := nI_clamp (n := q) (by omega)
      have ej := nI_clamp (n := j) (by omega)
      rw [hk]
      refine fw_from [] 100 9 ok_X5_makes ⟨_, wc_X5_makes⟩ rfl ?_
      refine zq_br (zn_g0 (show 0 ≤ 6 by omega)) (fun _ => ?_) (fun z => absurd rfl z)
      refine And.intro (fw_in1 q 36 hq) ?_
      refine And.intro (fw_in1 q 36 hq) ?_
      simp only [zo_makes, g, hk, ec, ej, if_true]
      have hf : zf_fr [2] I (fw_up I 2 q (nI j)) := zf_fr.rf.up (by simp)
      have e0 : zl_ow (zl_mk s.1 q j) 6 = zl_ow s.1 6 := zl_ow_congr (by funext z; simp [zl_mk]) (by funext z; simp [zl_mk]) (by funext z; simp [zl_mk]) (by funext z; simp [zl_mk]) 6
      refine ⟨zr_e (hl.2.2.1 q hq), _, rfl, zc_now h ?_ (by simpa [zl_mk] using h.1.1) (fun c hc => hf c (by simp; omega)), hf.hi (by simp)⟩
      obtain ⟨hd, hw, h0, h1, h2, h3, h4, h5⟩ := id hl
      rw [e0]
      refine ⟨hd, ⟨by simpa [zl_mk] using hw.1, by simpa [zl_mk] using hw.2.1, fun z hz => ?_, fun p hp => ?_⟩, fun z hz => ?_, fun z hz => ?_, fun k hk1 hk2 p hp => ?_, ?_, ?_, fun p hp => ?_⟩
      · have := hw.2.2.1 z hz
        simp only [zl_mk]; split <;> omega
      · have := hw.2.2.2 p (by simpa [zl_mk] using hp)
        simpa [zl_mk] using this
      · by_cases hzq : z = q
        · subst hzq; rw [fw_up_at]; simp [zl_mk]
        · rw [fw_up_k hzq]; simpa [zl_mk, hzq] using h0 z hz
      · rw [fw_up_ne 3 (by omega)]; simpa [zl_mk] using h1 z hz
      · rw [fw_up_ne (1 + 1 + k) (by omega)]; simpa [zl_mk, show ¬ k = 0 by omega] using h2 k hk1 hk2 p (by simpa [zl_mk] using hp)
      · rw [fw_up_ne 1 (by omega)]; simpa [zl_mk] using h3
      · rw [fw_up_ne 1 (by omega)]; simpa [zl_mk] using h4
      · rw [fw_up_ne 9 (by omega)]; exact h5 p hp
    · exact fw_sub2 (no (zk_out v 0 9) (by omega) zk_out_le (by simp [zo_makes, g, hk])) (by rfl) (by rfl) rfl
  · exact fw_sub2 (no 1 (by omega) (by omega) (by simp [zo_makes, g])) (by rfl) (by rfl) rfl
theorem cs_image (h : zc_at s I) : zs_c X l mX5_image [.ref 0] I (zo_image s) := by
  obtain ⟨h1, h2, h3, h4, h5, h6, h7, h8, h9⟩ := id h
  refine fw_enter [] 100 ok_X5_image ⟨_, wc_X5_image⟩ rfl rfl rfl ?_
  refine ⟨_, ct_copyFrom (X := X) (l := l) (d := 21) (s := 1) (by omega) (by omega) h2, ?_⟩
  rintro v σ' ⟨rfl, I', rfl, hz, hf⟩
  refine And.intro (Or.inr rfl) ?_
  have r1 : ∀ c, c ≠ 0 → (c < 21 ∨ 29 < c) → fw_up I' 0 3 1 c = I c := fun c hc hc2 => by rw [fw_up_ne c hc, hf c (by simp; omega)]
  refine ⟨zr_e ?_, _, rfl, ⟨⟨h1.1, by simp [zo_image], by simpa [zo_image] using h1.2.2.1, by simpa [zo_image] using h1.2.2.2.1, by simpa [zo_image] using h1.2.2.2.2.1, by simpa [zo_image] using h1.2.2.2.2.2.1, fun _ => h1.1⟩, h2.keep (fun c hc1 hc2 => r1 c (by omega) (by omega)), ?_, fun _ => ?_, ?_, fun j hj => ?_, ?_, fun j hj => ?_, fun k hk => ?_⟩, fun c hc => r1 c (by omega) (by omega)⟩
  · show fw_up I' 0 3 1 1 10 = nI (s.1 10 0)
    rw [r1 1 (by omega) (by omega)]; exact h2.2.2.2.2.2.2.1
  · rw [fw_up_at]; simp [zo_image]; rfl
  · exact hz.keep (fun c hc1 hc2 => by rw [fw_up_ne c (by omega)])
  · rw [r1 34 (by omega) (by omega)]; simpa [zo_image] using h5
  · rw [r1 35 (by omega) (by omega)]; simpa [zo_image] using h6 j (by simpa [zo_image] using hj)
  · rw [fw_up_k (by omega)]; show I' 0 7 = _; rw [hf 0 (by simp)]; simpa [zo_image] using h7
  · rw [r1 36 (by omega) (by omega)]; simpa [zo_image] using h8 j (by simpa [zo_image] using hj)
  · rw [r1 37 (by omega) (by omega)]; exact h9 k hk
theorem cs_on (h : zc_at s I) : zs_c X l mX5_on [.ref 0] I (zo_on s) := by
  obtain ⟨h1, h2, h3, h4, h5, h6, h7, h8, h9⟩ := id h
  refine fw_enter [] 100 ok_X5_on ⟨_, wc_X5_on⟩ rfl rfl rfl ?_
  refine zq_ne (s.2.2.1 0 0) 0 h3 rfl (fun g => ?_) (fun g => ?_) (by have := h1.2.1; omega)
  · have g1 : s.2.2.1 0 0 = 1 := by have := h1.2.1; omega
    have hi := h4 g1
    refine ⟨_, ct_copyFrom (X := X) (l := l) (d := 1) (s := 21) (by omega) (by omega) hi, ?_⟩
    rintro v σ' ⟨rfl, I', rfl, hz, hf⟩
    simp only [zo_on, g1, if_true]
    exact ⟨zr_e hz.2.2.2.2.2.2.1, I', rfl, zc_now h hz (h1.2.2.2.2.2.2 g1) (fun c hc => hf c (by simp; omega)), hf.hi (by simp)⟩
  · simp only [zo_on, g, if_false, show ¬ (0 : Nat) = 1 by omega]
    refine ⟨_, ct_no (X := X) (l := l) h (c := 3) (by omega) (by omega), fun v σ' hq => ?_⟩
    obtain ⟨rfl, I', rfl, h1, h2⟩ := hq
    exact ⟨rfl, I', rfl, h1, h2⟩
theorem cs_thist (h : zc_at s I) (n w : Int32) : zs_c X l mX5_thistles [.ref 0, .int n, .int w] I (zo_thist s n w) := by
  have hl := h.2.1
  refine fw_enter [15] 100 ok_X5_thistles ⟨_, wc_X5_thistles⟩ rfl rfl rfl ?_
  refine ⟨_, ct_out (X := X) (l := l) (I := I) n 0 99, ?_⟩
  rintro v' σ' ⟨rfl, rfl⟩
  refine ⟨_, ct_oth (X := X) (l := l) (I := I) w 1, ?_⟩
  rintro v' σ' ⟨rfl, rfl⟩
  refine ⟨_, ct_first (X := X) (l := l) (I := I) zk_out_le, ?_⟩
  rintro v' σ' ⟨rfl, rfl⟩
  refine fw_from [] 100 8 ok_X5_thistles ⟨_, wc_X5_thistles⟩ rfl ?_
  refine zq_br (zn_g0 (zk_first_le zk_out_le zk_oth_le)) (fun hk => ?_) (fun hk => ?_)
  · obtain ⟨hk1, hk2⟩ := zk_first0 hk
    obtain ⟨j, hj1, hj, rfl⟩ := zk_out_sp hk1
    obtain ⟨q, hq, rfl⟩ := zk_oth_sp hk2
    have eq := nI_clamp (n := q) (by omega)
    have ej := nI_clamp (n := j) (by omega)
    refine ⟨_, ct_copyFrom (X := X) (l := l) (d := 11) (s := 1) (by omega) (by omega) hl, ?_⟩
    rintro v σ' ⟨rfl, I1, rfl, hz1, hf1⟩
    refine ⟨_, ct_passDays (X := X) (l := l) hz1 (N := j) (by omega) (by have := h.1.1; omega), ?_⟩
    rintro v σ' ⟨rfl, I2, rfl, hz2, hf2⟩
    have hC : zc_at s I2 := zc_keep h (fun c hc => by rw [hf2 c (by simp; omega), hf1 c (by simp; omega)])
    have hH : zf_hi I I2 := (hf1.hi (by simp)).tr (hf2.hi (by simp))
    simp only [zo_thist, hk, ej, eq, if_true]
    refine zq_ne q 0 rfl rfl (fun g => ?_) (fun g => ?_)
    · refine ⟨_, ct_countOpen (X := X) (l := l) hz2, ?_⟩
      rintro v σ' ⟨rfl, rfl⟩
      simp only [g, if_false]
      exact ⟨rfl, I2, rfl, hC, hH⟩
    · refine ⟨_, ct_countThistles (X := X) (l := l) hz2, ?_⟩
      rintro v σ' ⟨rfl, rfl⟩
      simp only [g, if_true]
      exact ⟨rfl, I2, rfl, hC, hH⟩
  · have e : zo_thist s n w = zx_no s (zk_first (zk_out n 0 99) (zk_oth w 1)) := by simp [zo_thist, hk]
    refine ⟨_, ct_no (X := X) (l := l) h (by omega) (zk_first_le zk_out_le zk_oth_le), fun v σ' hq => ?_⟩
    obtain ⟨rfl, I', rfl, h1, h2⟩ := hq
    exact zc_end e ⟨rfl, I', rfl, h1, h2⟩
end zY
