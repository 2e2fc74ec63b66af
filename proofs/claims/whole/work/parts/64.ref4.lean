theorem zb_ext : ∀ a, a < 64 → ∀ b, b < 64 → (∀ p, p < 6 → zb_bt a p = zb_bt b p) → a = b := by decide +kernel
def zb_x (m p : Nat) : Nat := if zb_bt m p = 1 then m - 2 ^ p else m + 2 ^ p
theorem zb_xx : ∀ m, m < 64 → ∀ p, p < 6 → (nI m ^^^ ((1 : Int32) <<< (nI p &&& 31)) = nI (zb_x m p) ∧ zb_x m p < 64 ∧ ∀ q, q < 6 → zb_bt (zb_x m p) q = if q = p then 1 - zb_bt m q else zb_bt m q) := by decide +kernel
def zb_w (m p b : Nat) : Nat := if zb_bt m p = 1 then m - 2 ^ p + b * 2 ^ p else m + b * 2 ^ p
theorem zb_ww : ∀ m, m < 64 → ∀ p, p < 6 → ∀ b, b < 2 → ((nI m &&& (((1 : Int32) <<< (nI p &&& 31)) ^^^ (-1))) ||| (nI b <<< (nI p &&& 31)) = nI (zb_w m p b) ∧ zb_w m p b < 64 ∧ ∀ q, q < 6 → zb_bt (zb_w m p b) q = if q = p then b else zb_bt m q) := by decide +kernel
theorem zb_w0 : ∀ m, m < 64 → ∀ p, p < 6 → (nI m &&& (((1 : Int32) <<< (nI p &&& 31)) ^^^ (-1))) = nI (zb_w m p 0) := by decide +kernel
theorem zl_rb_eq {L : Nat → Nat → Nat} {P m : Nat} (hP : P ≤ 6) (hm : m < 64) (h : ∀ q, q < 6 → zb_bt m q = if q < P ∧ L 7 q ≠ 0 then 1 else 0) : zl_rb L P = m := by
  have h1 := zl_rb_lt L P
  have h2 : 2 ^ P ≤ 2 ^ 6 := Nat.pow_le_pow_right (by omega) hP
  refine zb_ext _ (by omega) _ hm (fun p hp => ?_)
  rw [zb_rb_bt L P p hP hp, h p hp]
theorem zm_r7 {w : Nat} {L L' : Nat → Nat → Nat} {I : Nat → Nat → Int32} {x : Int32} (h : zm_l w L I) (hk : ∀ k, k ≠ 7 → L' k = L k) (h7 : ∀ p, p < L 9 0 → L' 7 p ≤ 1) (hx : x = nI (zl_rb L' (L 9 0))) : zm_l w L' (fw_up I 38 8 x) := by
  obtain ⟨hw, a2, a3, a4, a5, a6, a7⟩ := h
  have e9 : L' 9 0 = L 9 0 := by rw [hk 9 (by omega)]
  refine ⟨⟨by rw [e9]; exact hw.1, by rw [hk 10 (by omega)]; exact hw.2.1, fun y hy => by rw [hk 0 (by omega)]; exact hw.2.2.1 y hy, fun p hp => ?_⟩, fun y hy => by rw [hk 0 (by omega), fw_up_ne _ (by omega)]; exact a2 y hy, fun k h1 h2 p hp => by rw [hk k (by omega), fw_up_ne _ (by omega)]; exact a3 k h1 h2 p (by rw [← e9]; exact hp), by rw [e9, fw_up_k (by omega)]; exact a4, by rw [e9, fw_up_at]; exact hx, by rw [hk 10 (by omega), fw_up_k (by omega)]; exact a6, by rw [fw_up_k (by omega)]; exact a7⟩
  have q := hw.2.2.2 p (by rw [← e9]; exact hp)
  rw [hk 2 (by omega), hk 3 (by omega), hk 4 (by omega), hk 5 (by omega), hk 6 (by omega)]
  exact ⟨q.1, q.2.1, q.2.2.1, q.2.2.2.1, q.2.2.2.2.1, q.2.2.2.2.2.1, q.2.2.2.2.2.2.1, h7 p (by rw [← e9]; exact hp)⟩
theorem zl_rb_to {L : Nat → Nat → Nat} {p : Nat} (hP : L 9 0 ≤ 6) (hp : p < L 9 0) (h7 : ∀ q, q < L 9 0 → L 7 q ≤ 1) : zl_rb (zl_to L p) (L 9 0) = zb_x (zl_rb L (L 9 0)) p := by
  have hx := zb_xx (zl_rb L (L 9 0)) (zl_rb64 hP) p (by omega)
  refine zl_rb_eq hP hx.2.1 (fun q hq => ?_)
  rw [hx.2.2 q hq, zb_rb_bt L (L 9 0) q hP hq]
  by_cases e : q = p
  · subst e
    have := h7 q hp
    rw [if_pos rfl]
    by_cases h0 : L 7 q = 0
    · simp [h0, hp, zl_to]
    · simp [h0, hp, zl_to]; omega
  · simp [e, zl_to]
section zR5
variable {X : Nat × (Nat → Int32)} {l : Launch} {I : Nat → Nat → Int32} {s : zS} {w : Nat} {L : Nat → Nat → Nat}
theorem cm_yard (h : zm_at s I) (y w : Int32) : zs_m X l mX6_yard [.ref 38, .int y, .int w] I (zo_yard s y w) := by
  have hl := h.2.1
  have hP := hl.1.1
  refine fw_enter [] 100 ok_X6_yard ⟨_, wc_X6_yard⟩ rfl rfl rfl ?_
  refine ⟨_, rt_isYard (X := X) (l := l) (I := I) y, ?_⟩
  rintro v σ' ⟨rfl, rfl⟩
  refine zq_brn (zi_eq0 _) (fun g => ?_) (fun g => ?_)
  · have g : zb_in y 36 = true := by simpa using g
    obtain ⟨q, hq, rfl⟩ := zb_in_of g (by omega)
    have ec := nI_clamp (n := q) (by omega)
    by_cases hk : zk_oth w 2 = 0
    · obtain ⟨j, hj, rfl⟩ := zk_oth_sp hk
      have ew := nI_clamp (n := j) (by omega)
      have eo : zo_yard s (nI q) (nI j) = ((if j = 0 then nI (s.1 0 q) else if j = 1 then (if zl_ow s.1 6 q < s.1 9 0 then nI (zl_ow s.1 6 q) else -9) else zi (zl_op s.1 (zl_ow s.1 6) q)), s) := by simp only [zo_yard, g, hk, ec, ew, if_true]
      rw [eo]
      refine zq_ne j 0 rfl rfl (fun j0 => ?_) (fun j0 => ?_)
      · refine zq_ne j 1 rfl rfl (fun j1 => ?_) (fun j1 => ?_)
        · refine zq_ne j 2 rfl rfl (fun j2 => absurd j2 (by omega)) (fun j2 => ?_)
          refine ⟨_, rt_isOpen (X := X) (l := l) hl (by omega) hq, ?_⟩
          rintro v σ' ⟨rfl, rfl⟩
          rw [if_neg j0, if_neg j1]
          refine zq_br (zi_eq0 _) (fun k => ?_) (fun k => ?_)
          · rw [k]; exact ⟨rfl, I, rfl, h, zf_lo.rf⟩
          · rw [show zl_op s.1 (zl_ow s.1 6) q = true by simpa using k]; exact ⟨rfl, I, rfl, h, zf_lo.rf⟩
        · refine ⟨_, rt_ownerOf (X := X) (l := l) hl hq (by omega), ?_⟩
          rintro v σ' ⟨rfl, rfl⟩
          rw [if_neg j0, if_pos j1]
          exact ⟨rfl, I, rfl, h, zf_lo.rf⟩
      · refine And.intro (fw_in1 q 36 hq) ?_
        rw [if_pos j0]
        exact ⟨zr_e (zq_rd (hl.2.1 q hq)), I, rfl, h, zf_lo.rf⟩
    · refine And.intro (fun _ => ?_) (fun z => absurd (by rw [z]; decide) hk)
      refine And.intro (fun _ => ?_) (fun z => absurd (by rw [z]; decide) hk)
      refine And.intro (fun _ => ?_) (fun z => absurd (by rw [z]; decide) hk)
      refine ⟨_, rt_no (X := X) (l := l) h (c := 2) (by omega) (by omega), fun v σ' hq2 => ?_⟩
      obtain ⟨rfl, I', rfl, h1, h2⟩ := hq2
      exact zm_end (by simp only [zo_yard, g, hk, if_true, if_false]; rw [zk_oth2 hk]) ⟨rfl, I', rfl, h1, h2⟩
  · refine ⟨_, rt_no (X := X) (l := l) h (c := 1) (by omega) (by omega), fun v σ' hq2 => ?_⟩
    obtain ⟨rfl, I', rfl, h1, h2⟩ := hq2
    exact zm_end (by simp [zo_yard, g]) ⟨rfl, I', rfl, h1, h2⟩
theorem cm_piece (h : zm_at s I) (p w : Int32) : zs_m X l mX6_piece [.ref 38, .int p, .int w] I (zo_piece s p w) := by
  have hl := h.2.1
  have hP := hl.1.1
  have f := hl.2.2.1
  refine fw_enter [] 100 ok_X6_piece ⟨_, wc_X6_piece⟩ rfl rfl rfl ?_
  refine ⟨_, rt_isPiece (X := X) (l := l) hl p, ?_⟩
  rintro v σ' ⟨rfl, rfl⟩
  refine zq_brn (zi_eq0 _) (fun g => ?_) (fun g => ?_)
  · have g : zb_in p (s.1 9 0) = true := by simpa using g
    obtain ⟨q, hq, rfl⟩ := zb_in_of g (by omega)
    have ec := nI_clamp (n := q) (by omega)
    by_cases hk : zk_oth w 6 = 0
    · obtain ⟨j, hj, rfl⟩ := zk_oth_sp hk
      have ew := nI_clamp (n := j) (by omega)
      have eo : zo_piece s (nI q) (nI j) = ((if j = 6 then nI (zm_s (fun y => if zl_ow s.1 6 y = q then 1 else 0) 36) else nI (s.1 (j + 2) q)), s) := by simp only [zo_piece, g, hk, ec, ew, if_true]
      rw [eo]
      refine zq_eq j 0 rfl rfl (fun z => ?_) (fun z0 => ?_)
      · subst z
        refine And.intro (fw_in1 q 6 (by omega)) ?_
        exact ⟨zr_e (zq_rd (f 2 (by omega) (by omega) q hq)), I, rfl, h, zf_lo.rf⟩
      refine zq_eq j 1 rfl rfl (fun z => ?_) (fun z1 => ?_)
      · subst z
        refine And.intro (fw_in1 q 6 (by omega)) ?_
        exact ⟨zr_e (zq_rd (f 3 (by omega) (by omega) q hq)), I, rfl, h, zf_lo.rf⟩
      refine zq_eq j 2 rfl rfl (fun z => ?_) (fun z2 => ?_)
      · subst z
        refine And.intro (fw_in1 q 6 (by omega)) ?_
        exact ⟨zr_e (zq_rd (f 4 (by omega) (by omega) q hq)), I, rfl, h, zf_lo.rf⟩
      refine zq_eq j 3 rfl rfl (fun z => ?_) (fun z3 => ?_)
      · subst z
        refine And.intro (fw_in1 q 6 (by omega)) ?_
        exact ⟨zr_e (zq_rd (f 5 (by omega) (by omega) q hq)), I, rfl, h, zf_lo.rf⟩
      refine zq_eq j 4 rfl rfl (fun z => ?_) (fun z4 => ?_)
      · subst z
        refine And.intro (fw_in1 q 6 (by omega)) ?_
        exact ⟨zr_e (zq_rd (f 6 (by omega) (by omega) q hq)), I, rfl, h, zf_lo.rf⟩
      refine zq_eq j 5 rfl rfl (fun z => ?_) (fun z5 => ?_)
      · subst z
        refine ⟨zr_e ?_, I, rfl, h, zf_lo.rf⟩
        show (I 38 8 >>> (nI q &&& 31)) &&& 1 = nI (s.1 7 q)
        rw [hl.2.2.2.2.1, zb_shr _ (by have := zl_rb64 hP; omega) q (by omega), zb_rb1 hP hq (hl.1.2.2.2 q hq).2.2.2.2.2.2.2]
      refine zq_eq j 6 rfl rfl (fun z => ?_) (fun z6 => absurd (show j = 6 by omega) z6)
      refine ⟨_, rt_manyOf (X := X) (l := l) hl (by omega) hq, ?_⟩
      rintro v σ' ⟨rfl, rfl⟩
      rw [if_pos z]
      exact ⟨rfl, I, rfl, h, zf_lo.rf⟩
    · refine And.intro (fun z => absurd (by rw [z]; decide) hk) (fun _ => ?_)
      refine And.intro (fun z => absurd (by rw [z]; decide) hk) (fun _ => ?_)
      refine And.intro (fun z => absurd (by rw [z]; decide) hk) (fun _ => ?_)
      refine And.intro (fun z => absurd (by rw [z]; decide) hk) (fun _ => ?_)
      refine And.intro (fun z => absurd (by rw [z]; decide) hk) (fun _ => ?_)
      refine And.intro (fun z => absurd (by rw [z]; decide) hk) (fun _ => ?_)
      refine And.intro (fun z => absurd (by rw [z]; decide) hk) (fun _ => ?_)
      refine ⟨_, rt_no (X := X) (l := l) h (c := 2) (by omega) (by omega), fun v σ' hq2 => ?_⟩
      obtain ⟨rfl, I', rfl, h1, h2⟩ := hq2
      exact zm_end (by simp only [zo_piece, g, hk, if_true, if_false]; rw [zk_oth2 hk]) ⟨rfl, I', rfl, h1, h2⟩
  · refine ⟨_, rt_no (X := X) (l := l) h (c := 1) (by omega) (by omega), fun v σ' hq2 => ?_⟩
    obtain ⟨rfl, I', rfl, h1, h2⟩ := hq2
    exact zm_end (by simp [zo_piece, g]) ⟨rfl, I', rfl, h1, h2⟩
theorem cm_grows (h : zm_at s I) (p n : Int32) : zs_m X l mX6_grows [.ref 38, .int p, .int n] I (zo_grows s p n) := by
  have hl := h.2.1
  have hP := hl.1.1
  have no : ∀ c, 1 ≤ c → c ≤ 6 → zo_grows s p n = zx_no s c → fw_Go X l mX6_grows (fun r σ => r = some (.int (zo_grows s p n).1) ∧ ∃ I', σ = (fw_sh, I') ∧ zm_at (zo_grows s p n).2 I' ∧ zf_lo I I') 20 0 0 [some (.ref 38), some (.int p), some (.int n), none] [.int (zn_g c)] (fw_sh, I) := by
    intro c hc1 hc6 e
    refine fw_from [] 100 10 ok_X6_grows ⟨_, wc_X6_grows⟩ rfl ?_
    refine zq_br (zn_g0 hc6) (fun z => absurd z (by omega)) (fun _ => ?_)
    refine ⟨_, rt_no (X := X) (l := l) h hc1 hc6, fun v σ' hq => ?_⟩
    obtain ⟨rfl, I', rfl, h1, h2⟩ := hq
    exact zm_end e ⟨rfl, I', rfl, h1, h2⟩
  refine fw_enter [20] 100 ok_X6_grows ⟨_, wc_X6_grows⟩ rfl rfl rfl ?_
  refine ⟨_, rt_isPiece (X := X) (l := l) hl p, ?_⟩
  rintro v σ' ⟨rfl, rfl⟩
  refine zq_brn (zi_eq0 _) (fun g => ?_) (fun g => ?_)
  · have g : zb_in p (s.1 9 0) = true := by simpa using g
    refine ⟨_, rt_bound (X := X) (l := l) (I := I) n 1 999, ?_⟩
    rintro v σ' ⟨rfl, rfl⟩
    by_cases hk : zk_out n 1 999 = 0
    · obtain ⟨q, hq, rfl⟩ := zb_in_of g (by omega)
      obtain ⟨j, hj1, hj, rfl⟩ := zk_out_sp hk
      have ec := nI_clamp (n := q) (by omega)
      have ej := nI_clamp (n := j) (by omega)
      rw [hk]
      refine fw_from [] 100 10 ok_X6_grows ⟨_, wc_X6_grows⟩ rfl ?_
      refine zq_br (zn_g0 (show 0 ≤ 6 by omega)) (fun _ => ?_) (fun z => absurd rfl z)
      refine ⟨_, rt_growsBy (X := X) (l := l) hl hq (by omega : j < 100000), ?_⟩
      rintro v σ' ⟨rfl, rfl⟩
      simp only [zo_grows, g, hk, ec, ej, if_true]
      exact ⟨rfl, I, rfl, h, zf_lo.rf⟩
    · exact fw_sub2 (no (zk_out n 1 999) (by omega) zk_out_le (by simp [zo_grows, g, hk])) (by rfl) (by rfl) rfl
  · exact fw_sub2 (no 1 (by omega) (by omega) (by simp [zo_grows, g])) (by rfl) (by rfl) rfl
theorem cm_makes (h : zm_at s I) (y v : Int32) : zs_m X l mX6_makes [.ref 38, .int y, .int v] I (zo_makes s y v) := by
  have hl := h.2.1
  have no : ∀ c, 1 ≤ c → c ≤ 6 → zo_makes s y v = zx_no s c → fw_Go X l mX6_makes (fun r σ => r = some (.int (zo_makes s y v).1) ∧ ∃ I', σ = (fw_sh, I') ∧ zm_at (zo_makes s y v).2 I' ∧ zf_lo I I') 18 0 0 [some (.ref 38), some (.int y), some (.int v), none, none] [.int (zn_g c)] (fw_sh, I) := by
    intro c hc1 hc6 e
    refine fw_from [] 100 9 ok_X6_makes ⟨_, wc_X6_makes⟩ rfl ?_
    refine zq_br (zn_g0 hc6) (fun z => absurd z (by omega)) (fun _ => ?_)
    refine ⟨_, rt_no (X := X) (l := l) h hc1 hc6, fun v σ' hq => ?_⟩
    obtain ⟨rfl, I', rfl, h1, h2⟩ := hq
    exact zm_end e ⟨rfl, I', rfl, h1, h2⟩
  refine fw_enter [18] 100 ok_X6_makes ⟨_, wc_X6_makes⟩ rfl rfl rfl ?_
  refine ⟨_, rt_isYard (X := X) (l := l) (I := I) y, ?_⟩
  rintro v' σ' ⟨rfl, rfl⟩
  refine zq_brn (zi_eq0 _) (fun g => ?_) (fun g => ?_)
  · have g : zb_in y 36 = true := by simpa using g
    refine ⟨_, rt_bound (X := X) (l := l) (I := I) v 0 9, ?_⟩
    rintro v' σ' ⟨rfl, rfl⟩
    by_cases hk : zk_out v 0 9 = 0
    · obtain ⟨q, hq, rfl⟩ := zb_in_of g (by omega)
      obtain ⟨j, hj1, hj, rfl⟩ := zk_out_sp hk
      have ec := nI_clamp (n := q) (by omega)
      have ej := nI_clamp (n := j) (by omega)
      rw [hk]
      refine fw_from [] 100 9 ok_X6_makes ⟨_, wc_X6_makes⟩ rfl ?_
      refine zq_br (zn_g0 (show 0 ≤ 6 by omega)) (fun _ => ?_) (fun z => absurd rfl z)
      refine And.intro (fw_in1 q 36 hq) ?_
      refine And.intro (fw_in1 q 36 hq) ?_
      simp only [zo_makes, g, hk, ec, ej, if_true]
      refine ⟨zr_e (hl.2.1 q hq), fw_up I 40 q (nI j), rfl, zm_now h (zm_mk hl hj) h.1.1 ((zg.rf.up (by omega)).w), zf_lo.rf.up (by omega)⟩
    · exact fw_sub2 (no (zk_out v 0 9) (by omega) zk_out_le (by simp [zo_makes, g, hk])) (by rfl) (by rfl) rfl
  · exact fw_sub2 (no 1 (by omega) (by omega) (by simp [zo_makes, g])) (by rfl) (by rfl) rfl
theorem cm_rolls (h : zm_at s I) (p : Int32) : zs_m X l mX6_rolls [.ref 38, .int p] I (zo_rolls s p) := by
  have hl := h.2.1
  have hP := hl.1.1
  have h64 := zl_rb64 hP
  refine fw_enter [] 100 ok_X6_rolls ⟨_, wc_X6_rolls⟩ rfl rfl rfl ?_
  refine ⟨_, rt_isPiece (X := X) (l := l) hl p, ?_⟩
  rintro v' σ' ⟨rfl, rfl⟩
  refine zq_brn (zi_eq0 _) (fun g => ?_) (fun g => ?_)
  · have g : zb_in p (s.1 9 0) = true := by simpa using g
    obtain ⟨q, hq, rfl⟩ := zb_in_of g (by omega)
    have ec := nI_clamp (n := q) (by omega)
    have h7 : ∀ q, q < s.1 9 0 → s.1 7 q ≤ 1 := fun q hq => (hl.1.2.2.2 q hq).2.2.2.2.2.2.2
    have hx := zb_xx (zl_rb s.1 (s.1 9 0)) h64 q (by omega)
    have et := zl_rb_to hP hq h7
    have ev : I 38 8 ^^^ ((1 : Int32) <<< (nI q &&& 31)) = nI (zl_rb (zl_to s.1 q) (s.1 9 0)) := by rw [hl.2.2.2.2.1, hx.1, et]
    have hz : zm_l 6 (zl_to s.1 q) (fw_up I 38 8 (I 38 8 ^^^ ((1 : Int32) <<< (nI q &&& 31)))) := zm_r7 hl (fun k hk => by funext j; simp [zl_to, hk]) (fun p hp => by
      have := h7 p hp
      have := h7 q hq
      simp only [zl_to, true_and]
      split <;> omega) ev
    simp only [zo_rolls, g, ec, if_true]
    refine ⟨zr_e ?_, _, rfl, zm_now h hz h.1.1 ((zg.rf.up (by omega)).w), zf_lo.rf.up (by omega)⟩
    show (fw_up I 38 8 (I 38 8 ^^^ ((1 : Int32) <<< (nI q &&& 31))) 38 8 >>> (nI q &&& 31)) &&& 1 = _
    rw [fw_up_at, ev, et, zb_shr _ (by omega) q (by omega)]
    have hb := hx.2.2 q (by omega)
    rw [if_pos rfl] at hb
    have hr := zb_rb1 hP hq (h7 q hq)
    unfold zb_bt at hb
    rw [hb, hr]
  · refine ⟨_, rt_no (X := X) (l := l) h (c := 1) (by omega) (by omega), fun v σ' hq2 => ?_⟩
    obtain ⟨rfl, I', rfl, h1, h2⟩ := hq2
    exact zm_end (by simp [zo_rolls, g]) ⟨rfl, I', rfl, h1, h2⟩
theorem cm_treads (h : zm_at s I) (p : Int32) : zs_m X l mX6_treads [.ref 38, .int p] I (zo_treads s p) := by
  have hl := h.2.1
  have hP := hl.1.1
  have no : ∀ c, 1 ≤ c → c ≤ 6 → zo_treads s p = zx_no s c → fw_Go X l mX6_treads (fun r σ => r = some (.int (zo_treads s p).1) ∧ ∃ I', σ = (fw_sh, I') ∧ zm_at (zo_treads s p).2 I' ∧ zf_lo I I') 29 0 0 [some (.ref 38), some (.int p), none, none] [.int (zn_g c)] (fw_sh, I) := by
    intro c hc1 hc6 e
    refine fw_from [] 100 14 ok_X6_treads ⟨_, wc_X6_treads⟩ rfl ?_
    refine zq_br (zn_g0 hc6) (fun z => absurd z (by omega)) (fun _ => ?_)
    refine ⟨_, rt_no (X := X) (l := l) h hc1 hc6, fun v σ' hq => ?_⟩
    obtain ⟨rfl, I', rfl, h1, h2⟩ := hq
    exact zm_end e ⟨rfl, I', rfl, h1, h2⟩
  refine fw_enter [29] 100 ok_X6_treads ⟨_, wc_X6_treads⟩ rfl rfl rfl ?_
  refine ⟨_, rt_isPiece (X := X) (l := l) hl p, ?_⟩
  rintro v' σ' ⟨rfl, rfl⟩
  refine zq_brn (zi_eq0 _) (fun g => ?_) (fun g => ?_)
  · have g : zb_in p (s.1 9 0) = true := by simpa using g
    obtain ⟨q, hq, rfl⟩ := zb_in_of g (by omega)
    have ec := nI_clamp (n := q) (by omega)
    have w7 := (hl.1.2.2.2 q hq).2.2.2.2.2.2.2
    refine ⟨_, rt_rolled (X := X) (l := l) hl hq, ?_⟩
    rintro v' σ' ⟨rfl, rfl⟩
    refine zq_br (zi_eq0 _) (fun k => ?_) (fun k => ?_)
    · have k : ¬ s.1 7 q = 1 := by simpa using k
      have k0 : s.1 7 q = 0 := by omega
      refine fw_from [] 100 14 ok_X6_treads ⟨_, wc_X6_treads⟩ rfl ?_
      refine And.intro (fun _ => ?_) (fun z => absurd rfl z)
      refine ⟨_, rt_hayOf (X := X) (l := l) hl (by omega) hq, ?_⟩
      rintro v' σ' ⟨rfl, rfl⟩
      refine ⟨_, rt_trod (X := X) (l := l) hl (by omega) hq, ?_⟩
      rintro v' σ' ⟨rfl, I', rfl, hz, hf⟩
      simp only [zo_treads, g, ec, k0, if_true]
      exact ⟨rfl, I', rfl, zm_now h hz h.1.1 hf.w, (hf.w (w := 0)).lo⟩
    · have k : s.1 7 q = 1 := by simpa using k
      exact fw_sub2 (no 3 (by omega) (by omega) (by simp [zo_treads, g, ec, k])) (by rfl) (by rfl) rfl
  · exact fw_sub2 (no 1 (by omega) (by omega) (by simp [zo_treads, g])) (by rfl) (by rfl) rfl
theorem cm_turn (h : zm_at s I) (p k f : Int32) : zs_m X l mX6_turn [.ref 38, .int p, .int k, .int f] I (zo_turn s p k f) := by
  have hl := h.2.1
  have hP := hl.1.1
  have no : ∀ c, 1 ≤ c → c ≤ 6 → zo_turn s p k f = zx_no s c → fw_Go X l mX6_turn (fun r σ => r = some (.int (zo_turn s p k f).1) ∧ ∃ I', σ = (fw_sh, I') ∧ zm_at (zo_turn s p k f).2 I' ∧ zf_lo I I') 33 0 0 [some (.ref 38), some (.int p), some (.int k), some (.int f), none, none] [.int (zn_g c)] (fw_sh, I) := by
    intro c hc1 hc6 e
    refine fw_from [] 100 17 ok_X6_turn ⟨_, wc_X6_turn⟩ rfl ?_
    refine zq_br (zn_g0 hc6) (fun z => absurd z (by omega)) (fun _ => ?_)
    refine ⟨_, rt_no (X := X) (l := l) h hc1 hc6, fun v σ' hq => ?_⟩
    obtain ⟨rfl, I', rfl, h1, h2⟩ := hq
    exact zm_end e ⟨rfl, I', rfl, h1, h2⟩
  refine fw_enter [33] 100 ok_X6_turn ⟨_, wc_X6_turn⟩ rfl rfl rfl ?_
  refine ⟨_, rt_isPiece (X := X) (l := l) hl p, ?_⟩
  rintro v' σ' ⟨rfl, rfl⟩
  refine zq_brn (zi_eq0 _) (fun g => ?_) (fun g => ?_)
  · have g : zb_in p (s.1 9 0) = true := by simpa using g
    obtain ⟨q, hq, rfl⟩ := zb_in_of g (by omega)
    have ec := nI_clamp (n := q) (by omega)
    refine ⟨_, rt_oth (X := X) (l := l) (I := I) k 5, ?_⟩
    rintro v' σ' ⟨rfl, rfl⟩
    refine zq_brn (zi_eq0 _) (fun g1 => ?_) (fun g1 => ?_)
    · have g1 : zk_oth k 5 = 0 := by simpa using g1
      refine ⟨_, rt_bound (X := X) (l := l) (I := I) f 0 9, ?_⟩
      rintro v' σ' ⟨rfl, rfl⟩
      have e1 : zk_first (zk_oth k 5) (zk_out f 0 9) = zk_out f 0 9 := by unfold zk_first; rw [if_pos g1]
      by_cases hk : zk_out f 0 9 = 0
      · obtain ⟨a, ha, rfl⟩ := zk_oth_sp g1
        obtain ⟨b, hb1, hb, rfl⟩ := zk_out_sp hk
        have ea := nI_clamp (n := a) (by omega)
        have eb := nI_clamp (n := b) (by omega)
        rw [hk]
        refine fw_from [] 100 17 ok_X6_turn ⟨_, wc_X6_turn⟩ rfl ?_
        refine zq_br (zn_g0 (show 0 ≤ 6 by omega)) (fun _ => ?_) (fun z => absurd rfl z)
        refine And.intro (fw_in1 q 6 (by omega)) ?_
        refine And.intro (fw_in1 q 6 (by omega)) ?_
        refine And.intro (fw_in1 q 6 (by omega)) ?_
        refine And.intro (fw_in1 q 6 (by omega)) ?_
        have e2 := e1.trans hk
        have eo : zo_turn s (nI q) (nI a) (nI b) = (nI (10 * s.1 2 q + s.1 3 q), zl_tn s.1 q a b, s.2) := by simp only [zo_turn, g, ec, ea, eb, e2, if_true]
        rw [eo]
        have q2 : I 41 (nI q).toNatClampNeg = nI (s.1 2 q) := zq_rd (hl.2.2.1 2 (by omega) (by omega) q hq)
        have q3 : I 42 (nI q).toNatClampNeg = nI (s.1 3 q) := zq_rd (hl.2.2.1 3 (by omega) (by omega) q hq)
        have hz : zm_l 6 (zl_tn s.1 q a b) (fw_up (fw_up I 41 q (nI a)) 42 q (nI b)) := by
          obtain ⟨a1, a2, a3, a4, a5, a6, a7⟩ := hl
          have eR : ∀ k, k ≠ 2 → k ≠ 3 → zl_tn s.1 q a b k = s.1 k := fun k h2 h3 => by funext j; simp [zl_tn, h2, h3]
          have e9 : zl_tn s.1 q a b 9 0 = s.1 9 0 := by rw [eR 9 (by omega) (by omega)]
          refine ⟨⟨by rw [e9]; exact hP, by rw [eR 10 (by omega) (by omega)]; exact a1.2.1, fun y hy => by rw [eR 0 (by omega) (by omega)]; exact a1.2.2.1 y hy, fun p hp => ?_⟩, fun y hy => ?_, fun k h1 h2 p hp => ?_, ?_, ?_, ?_, ?_⟩
          · rw [e9] at hp
            have wp := a1.2.2.2 p hp
            rw [eR 4 (by omega) (by omega), eR 5 (by omega) (by omega), eR 6 (by omega) (by omega), eR 7 (by omega) (by omega)]
            refine ⟨?_, ?_, wp.2.2⟩
            · simp only [zl_tn]; split
              · omega
              · rw [if_neg (by omega)]; exact wp.1
            · simp only [zl_tn]; rw [if_neg (by omega)]; split
              · omega
              · exact wp.2.1
          · rw [eR 0 (by omega) (by omega), fw_up_ne _ (by omega), fw_up_ne _ (by omega)]; exact a2 y hy
          · rw [e9] at hp
            by_cases k2 : k = 2
            · subst k2
              rw [fw_up_ne _ (by omega)]
              by_cases ep : p = q
              · subst ep; simp [zl_tn, fw_up_at]
              · rw [fw_up_k ep]; simp only [zl_tn, ep, false_and, if_false]; exact a3 2 (by omega) (by omega) p hp
            · by_cases k3 : k = 3
              · subst k3
                by_cases ep : p = q
                · subst ep; simp [zl_tn, fw_up_at]
                · rw [fw_up_k ep, fw_up_ne _ (by omega)]; simp only [zl_tn, ep, false_and, if_false]; exact a3 3 (by omega) (by omega) p hp
              · rw [eR k k2 k3, fw_up_ne _ (by omega), fw_up_ne _ (by omega)]; exact a3 k h1 h2 p hp
          · rw [e9, fw_up_ne _ (by omega), fw_up_ne _ (by omega)]; exact a4
          · rw [e9, fw_up_ne _ (by omega), fw_up_ne _ (by omega), a5]
            congr 1
            exact zm_s_cong _ (fun p _ => by rw [eR 7 (by omega) (by omega)])
          · rw [eR 10 (by omega) (by omega), fw_up_ne _ (by omega), fw_up_ne _ (by omega)]; exact a6
          · rw [fw_up_ne _ (by omega), fw_up_ne _ (by omega)]; exact a7
        refine ⟨zr_e ?_, fw_up (fw_up I 41 q (nI a)) 42 q (nI b), ?_, zm_now h hz (by simpa [zl_tn] using h.1.1) (((zg.rf.up (by omega)).up (by omega)).w), (zf_lo.rf.up (by omega)).up (by omega)⟩
        · show nI 10 * I 41 (nI q).toNatClampNeg + I 42 (nI q).toNatClampNeg = _
          rw [q2, q3, pk_mul, nI_add]
        · show (fw_sh, fw_up (fw_up I 41 (nI q).toNatClampNeg (nI a)) 42 (nI q).toNatClampNeg (nI b)) = _
          rw [ec]
      · exact fw_sub2 (no (zk_out f 0 9) (by omega) zk_out_le (by simp only [zo_turn, g, e1, hk, if_true, if_false])) (by rfl) (by rfl) rfl
    · have g1 : ¬ zk_oth k 5 = 0 := by simpa using g1
      have e1 : zk_first (zk_oth k 5) (zk_out f 0 9) = 2 := by unfold zk_first; rw [if_neg g1, zk_oth2 g1]
      exact fw_sub2 (no 2 (by omega) (by omega) (by simp only [zo_turn, g, e1, if_true]; rw [if_neg (by omega)])) (by rfl) (by rfl) rfl
  · exact fw_sub2 (no 1 (by omega) (by omega) (by simp [zo_turn, g])) (by rfl) (by rfl) rfl
theorem cm_days (h : zm_at s I) (n : Int32) : zs_m X l mX6_days [.ref 38, .int n] I (zo_days s n) := by
  have hl := h.2.1
  have hd := h.1.1
  have h9 := hl.2.2.2.2.2.1
  have no : ∀ c, 1 ≤ c → c ≤ 6 → zo_days s n = zx_no s c → fw_Go X l mX6_days (fun r σ => r = some (.int (zo_days s n).1) ∧ ∃ I', σ = (fw_sh, I') ∧ zm_at (zo_days s n).2 I' ∧ zf_lo I I') 27 0 0 [some (.ref 38), some (.int n), some (.int (zn_g c))] [] (fw_sh, I) := by
    intro c hc1 hc6 e
    refine fw_from [] 100 15 ok_X6_days ⟨_, wc_X6_days⟩ rfl ?_
    refine zq_br (zn_g0 hc6) (fun z => absurd z (by omega)) (fun _ => ?_)
    refine ⟨_, rt_no (X := X) (l := l) h hc1 hc6, fun v σ' hq => ?_⟩
    obtain ⟨rfl, I', rfl, h1, h2⟩ := hq
    exact zm_end e ⟨rfl, I', rfl, h1, h2⟩
  refine fw_enter [27] 100 ok_X6_days ⟨_, wc_X6_days⟩ rfl rfl rfl ?_
  refine ⟨_, rt_bound (X := X) (l := l) (I := I) n 1 60, ?_⟩
  rintro v' σ' ⟨rfl, rfl⟩
  refine zq_brn (zn_g0 zk_out_le) (fun k => ?_) (fun k => ?_)
  · exact fw_sub (no (zk_out n 1 60) (by omega) zk_out_le (by simp only [zo_days, k, if_false])) (by rfl) rfl
  · obtain ⟨j, hj1, hj, rfl⟩ := zk_out_sp k
    have ej := nI_clamp (n := j) (by omega)
    have ed : I 38 9 + nI j = nI (s.1 10 0 + j) := by rw [h9, nI_add]
    refine zq_le (s.1 10 0 + j) 999 ed rfl (fun k2 => ?_) (fun k2 => ?_)
    · rw [k]
      refine fw_from [] 100 15 ok_X6_days ⟨_, wc_X6_days⟩ rfl ?_
      refine And.intro (fun _ => ?_) (fun z => absurd rfl z)
      refine ⟨_, rt_goesN (X := X) (l := l) (w := 6) (by omega) (by omega) hl (by omega), ?_⟩
      rintro v' σ' ⟨rfl, I', rfl, hz, hf⟩
      refine ⟨_, rt_thistles (X := X) (l := l) hz, ?_⟩
      rintro v' σ' ⟨rfl, rfl⟩
      simp only [zo_days, k, ej, k2, if_true]
      exact ⟨rfl, I', rfl, zm_now h hz (by simp [zl_pd]; omega) hf.w, (hf.w (w := 0)).lo⟩
    · exact fw_sub (no 6 (by omega) (by omega) (by simp only [zo_days, k, ej, if_true]; rw [if_neg (by omega)])) (by rfl) rfl
theorem cm_behind (h : zm_at s I) (y n : Int32) : zs_m X l mX6_behind [.ref 38, .int y, .int n] I (zo_behind s y n) := by
  have hl := h.2.1
  have hd := h.1.1
  have no : ∀ c, 1 ≤ c → c ≤ 6 → zo_behind s y n = zx_no s c → fw_Go X l mX6_behind (fun r σ => r = some (.int (zo_behind s y n).1) ∧ ∃ I', σ = (fw_sh, I') ∧ zm_at (zo_behind s y n).2 I' ∧ zf_lo I I') 15 0 0 [some (.ref 38), some (.int y), some (.int n), none, none] [.int (zn_g c)] (fw_sh, I) := by
    intro c hc1 hc6 e
    refine fw_from [] 100 7 ok_X6_behind ⟨_, wc_X6_behind⟩ rfl ?_
    refine zq_br (zn_g0 hc6) (fun z => absurd z (by omega)) (fun _ => ?_)
    refine ⟨_, rt_no (X := X) (l := l) h hc1 hc6, fun v σ' hq => ?_⟩
    obtain ⟨rfl, I', rfl, h1, h2⟩ := hq
    exact zm_end e ⟨rfl, I', rfl, h1, h2⟩
  refine fw_enter [15] 100 ok_X6_behind ⟨_, wc_X6_behind⟩ rfl rfl rfl ?_
  refine ⟨_, rt_isYard (X := X) (l := l) (I := I) y, ?_⟩
  rintro v' σ' ⟨rfl, rfl⟩
  refine zq_brn (zi_eq0 _) (fun g => ?_) (fun g => ?_)
  · have g : zb_in y 36 = true := by simpa using g
    refine ⟨_, rt_notDays (X := X) (l := l) (I := I) n, ?_⟩
    rintro v' σ' ⟨rfl, rfl⟩
    by_cases hk : zk_out n 0 99 = 0
    · obtain ⟨q, hq, rfl⟩ := zb_in_of g (by omega)
      obtain ⟨j, hj1, hj, rfl⟩ := zk_out_sp hk
      have ec := nI_clamp (n := q) (by omega)
      have ej := nI_clamp (n := j) (by omega)
      rw [hk]
      refine fw_from [] 100 7 ok_X6_behind ⟨_, wc_X6_behind⟩ rfl ?_
      refine zq_br (zn_g0 (show 0 ≤ 6 by omega)) (fun _ => ?_) (fun z => absurd rfl z)
      refine ⟨_, rt_thinks (X := X) (l := l) (I := I), ?_⟩
      rintro v' σ' ⟨rfl, I1, rfl, hK⟩
      refine ⟨_, rt_goesN (X := X) (l := l) (w := 6) (by omega) (by omega) (hl.K hK) (by omega), ?_⟩
      rintro v' σ' ⟨rfl, I2, rfl, hz, hf⟩
      refine And.intro (fw_in1 q 36 hq) ?_
      refine ⟨_, rt_forgets (X := X) (l := l) (I := I2), ?_⟩
      rintro v' σ' ⟨rfl, I3, rfl, hB⟩
      have hh := zh_mk hK hf.w hB
      simp only [zo_behind, g, hk, ec, ej, if_true]
      refine ⟨zr_e ?_, I3, rfl, hh.m h, hh.lo⟩
      exact (hz.2.1 q hq)
    · exact fw_sub2 (no (zk_out n 0 99) (by omega) zk_out_le (by simp [zo_behind, g, hk])) (by rfl) (by rfl) rfl
  · exact fw_sub2 (no 1 (by omega) (by omega) (by simp [zo_behind, g])) (by rfl) (by rfl) rfl
theorem rt_thIn (hl : zm_l 6 L I) {n : Nat} (hn : n ≤ 200) (hd : L 10 0 ≤ 999) : fw_Sem X l mX6_thistlesIn [.ref 38, .int (nI n)] (fw_sh, I) (fun r σ => r = some (.int (nI (zm_s (fun y => if zl_pd L (zl_ow L 6) n 0 y = 9 then 1 else 0) 36))) ∧ ∃ I', σ = (fw_sh, I') ∧ zh 2 I I') := by
  refine fw_enter [] 100 ok_X6_thistlesIn ⟨_, wc_X6_thistlesIn⟩ rfl rfl rfl ?_
  refine ⟨_, rt_thinks (X := X) (l := l) (I := I), ?_⟩
  rintro v' σ' ⟨rfl, I1, rfl, hK⟩
  refine ⟨_, rt_goesN (X := X) (l := l) (w := 6) (by omega) (by omega) (hl.K hK) (by omega), ?_⟩
  rintro v' σ' ⟨rfl, I2, rfl, hz, hf⟩
  refine ⟨_, rt_thistles (X := X) (l := l) hz, ?_⟩
  rintro v' σ' ⟨rfl, rfl⟩
  refine ⟨_, rt_forgets (X := X) (l := l) (I := I2), ?_⟩
  rintro v' σ' ⟨rfl, I3, rfl, hB⟩
  exact ⟨rfl, I3, rfl, zh_mk hK hf.w hB⟩
theorem cm_thist (h : zm_at s I) (n w : Int32) : zs_m X l mX6_thistles [.ref 38, .int n, .int w] I (zo_thist s n w) := by
  have hl := h.2.1
  have hd := h.1.1
  have no : ∀ c, 1 ≤ c → c ≤ 6 → zo_thist s n w = zx_no s c → fw_Go X l mX6_thistles (fun r σ => r = some (.int (zo_thist s n w).1) ∧ ∃ I', σ = (fw_sh, I') ∧ zm_at (zo_thist s n w).2 I' ∧ zf_lo I I') 21 0 0 [some (.ref 38), some (.int n), some (.int w), some (.int (zn_g c)), none] [] (fw_sh, I) := by
    intro c hc1 hc6 e
    refine fw_from [] 100 12 ok_X6_thistles ⟨_, wc_X6_thistles⟩ rfl ?_
    refine zq_br (zn_g0 hc6) (fun z => absurd z (by omega)) (fun _ => ?_)
    refine ⟨_, rt_no (X := X) (l := l) h hc1 hc6, fun v σ' hq => ?_⟩
    obtain ⟨rfl, I', rfl, h1, h2⟩ := hq
    exact zm_end e ⟨rfl, I', rfl, h1, h2⟩
  refine fw_enter [21] 100 ok_X6_thistles ⟨_, wc_X6_thistles⟩ rfl rfl rfl ?_
  refine ⟨_, rt_notDays (X := X) (l := l) (I := I) n, ?_⟩
  rintro v' σ' ⟨rfl, rfl⟩
  refine zq_brn (zn_g0 zk_out_le) (fun k => ?_) (fun k => ?_)
  · have e1 : zk_first (zk_out n 0 99) (zk_oth w 1) = zk_out n 0 99 := by unfold zk_first; rw [if_neg k]
    exact fw_sub (no (zk_out n 0 99) (by omega) zk_out_le (by simp only [zo_thist, e1, k, if_false])) (by rfl) rfl
  · have e1 : zk_first (zk_out n 0 99) (zk_oth w 1) = zk_oth w 1 := by unfold zk_first; rw [if_pos k]
    refine ⟨_, rt_oth (X := X) (l := l) (I := I) w 1, ?_⟩
    rintro v' σ' ⟨rfl, rfl⟩
    refine zq_brn (zi_eq0 _) (fun g1 => ?_) (fun g1 => ?_)
    · have g1 : zk_oth w 1 = 0 := by simpa using g1
      obtain ⟨j, hj1, hj, rfl⟩ := zk_out_sp k
      obtain ⟨u, hu, rfl⟩ := zk_oth_sp g1
      have ej := nI_clamp (n := j) (by omega)
      have eu := nI_clamp (n := u) (by omega)
      rw [k]
      have e2 := e1.trans g1
      simp only [zo_thist, e2, ej, eu, if_true]
      refine fw_from [] 100 12 ok_X6_thistles ⟨_, wc_X6_thistles⟩ rfl ?_
      refine And.intro (fun _ => ?_) (fun z => absurd rfl z)
      refine zq_ne u 0 rfl rfl (fun u0 => ?_) (fun u0 => ?_)
      · refine ⟨_, rt_thinks (X := X) (l := l) (I := I), ?_⟩
        rintro v' σ' ⟨rfl, I1, rfl, hK⟩
        refine ⟨_, rt_goesN (X := X) (l := l) (w := 6) (by omega) (by omega) (hl.K hK) (by omega), ?_⟩
        rintro v' σ' ⟨rfl, I2, rfl, hz, hf⟩
        refine ⟨_, rt_manyOpen (X := X) (l := l) hz (by omega), ?_⟩
        rintro v' σ' ⟨rfl, rfl⟩
        refine ⟨_, rt_forgets (X := X) (l := l) (I := I2), ?_⟩
        rintro v' σ' ⟨rfl, I3, rfl, hB⟩
        have hh := zh_mk hK hf.w hB
        rw [if_neg u0, zl_ow_congr (L := s.1) (L' := zl_pd s.1 (zl_ow s.1 6) j) rfl rfl rfl rfl 6]
        exact ⟨rfl, I3, rfl, hh.m h, hh.lo⟩
      · refine ⟨_, rt_thIn (X := X) (l := l) hl (n := j) (by omega) hd, ?_⟩
        rintro v' σ' ⟨rfl, I3, rfl, hh⟩
        rw [if_pos u0]
        exact ⟨rfl, I3, rfl, hh.m h, hh.lo⟩
    · have g1 : ¬ zk_oth w 1 = 0 := by simpa using g1
      exact fw_sub (no 2 (by omega) (by omega) (by simp only [zo_thist, e1, g1, if_false]; rw [zk_oth2 g1])) (by rfl) rfl
theorem cm_count (h : zm_at s I) (w : Int32) : zs_m X l mX6_count [.ref 38, .int w] I (zo_count s w) := by
  have hl := h.2.1
  have e11 : (11 : Int32).toInt = 11 := rfl
  have e16 : (16 : Int32).toInt = 16 := rfl
  have c1 := rt_isIn (X := X) (l := l) (I := I) w 11 16
  rw [e11, e16] at c1
  refine fw_enter [] 100 ok_X6_count ⟨_, wc_X6_count⟩ rfl rfl rfl ?_
  refine ⟨_, c1, ?_⟩
  rintro v' σ' ⟨rfl, rfl⟩
  refine zq_br (zi_eq0 _) (fun g => ?_) (fun g => ?_)
  · have g := of_decide_eq_false g
    have g2 : ¬ (10 < w.toInt ∧ w.toInt ≤ 16) := by omega
    by_cases hb : zb_in w 8 = true
    · obtain ⟨j, hj, rfl⟩ := zb_in_of hb (by omega)
      have ej := nI_clamp (n := j) (by omega)
      simp only [zo_count, g2, hb, ej, if_true, if_false]
      refine zq_eq j 0 rfl rfl (fun z => ?_) (fun z0 => ?_)
      · rw [if_pos z]; exact ⟨zr_e hl.2.2.2.1, I, rfl, h, zf_lo.rf⟩
      refine zq_eq j 1 rfl rfl (fun z => ?_) (fun z1 => ?_)
      · rw [if_neg z0, if_pos z]; exact ⟨zr_e hl.2.2.2.2.2.1, I, rfl, h, zf_lo.rf⟩
      refine zq_eq j 2 rfl rfl (fun z => ?_) (fun z2 => ?_)
      · rw [if_neg z0, if_neg z1, if_pos z]
        refine ⟨_, rt_allGrown (X := X) (l := l) hl, ?_⟩
        rintro v' σ' ⟨rfl, rfl⟩
        exact ⟨rfl, I, rfl, h, zf_lo.rf⟩
      refine zq_eq j 3 rfl rfl (fun z => ?_) (fun z3 => ?_)
      · rw [if_neg z0, if_neg z1, if_neg z2, if_pos z]
        refine ⟨_, rt_thistles (X := X) (l := l) hl, ?_⟩
        rintro v' σ' ⟨rfl, rfl⟩
        exact ⟨rfl, I, rfl, h, zf_lo.rf⟩
      refine zq_eq j 4 rfl rfl (fun z => ?_) (fun z4 => ?_)
      · rw [if_neg z0, if_neg z1, if_neg z2, if_neg z3, if_pos z]
        refine ⟨_, rt_manyOpen (X := X) (l := l) hl (by omega), ?_⟩
        rintro v' σ' ⟨rfl, rfl⟩
        exact ⟨rfl, I, rfl, h, zf_lo.rf⟩
      refine zq_eq j 5 rfl rfl (fun z => ?_) (fun z5 => ?_)
      · rw [if_neg z0, if_neg z1, if_neg z2, if_neg z3, if_neg z4, if_pos z]; exact ⟨zr_e hl.2.2.2.2.1, I, rfl, h, zf_lo.rf⟩
      refine zq_eq j 6 rfl rfl (fun z => ?_) (fun z6 => ?_)
      · rw [if_neg z0, if_neg z1, if_neg z2, if_neg z3, if_neg z4, if_neg z5, if_pos z]; exact ⟨zr_e h.2.2.2.2.2.2.1, I, rfl, h, zf_lo.rf⟩
      refine zq_eq j 7 rfl rfl (fun z => ?_) (fun z7 => absurd (show j = 7 by omega) z7)
      rw [if_neg z0, if_neg z1, if_neg z2, if_neg z3, if_neg z4, if_neg z5, if_neg z6]; exact ⟨zr_e h.2.2.2.2.1, I, rfl, h, zf_lo.rf⟩
    · simp only [zo_count, g2, hb, if_false]
      refine And.intro (fun z => absurd (by rw [z]; decide) hb) (fun _ => ?_)
      refine And.intro (fun z => absurd (by rw [z]; decide) hb) (fun _ => ?_)
      refine And.intro (fun z => absurd (by rw [z]; decide) hb) (fun _ => ?_)
      refine And.intro (fun z => absurd (by rw [z]; decide) hb) (fun _ => ?_)
      refine And.intro (fun z => absurd (by rw [z]; decide) hb) (fun _ => ?_)
      refine And.intro (fun z => absurd (by rw [z]; decide) hb) (fun _ => ?_)
      refine And.intro (fun z => absurd (by rw [z]; decide) hb) (fun _ => ?_)
      refine And.intro (fun z => absurd (by rw [z]; decide) hb) (fun _ => ?_)
      exact ⟨rfl, I, rfl, h, zf_lo.rf⟩
  · have g := of_decide_eq_true (by simpa using g)
    have g2 : 10 < w.toInt ∧ w.toInt ≤ 16 := by omega
    obtain ⟨j, hj, hj2⟩ : ∃ j : Nat, w = nI j ∧ (11 ≤ j ∧ j ≤ 16) := ⟨w.toInt.toNat, Int32.toInt_inj.mp (by rw [nI_toInt (by omega)]; omega), by omega⟩
    have et : w.toInt = (j : Int) := by rw [hj, nI_toInt (by omega)]
    have ev : w - 10 = nI (j - 10) := by rw [hj, show (10 : Int32) = nI 10 from rfl, zn_sub (by omega)]
    refine And.intro (fw_in1 (j - 10) 7 (by omega) ev) ?_
    simp only [zo_count, g2, and_self, if_true]
    refine ⟨zr_e ?_, I, rfl, h, zf_lo.rf⟩
    show I 39 (w - 10).toNatClampNeg = _
    rw [ev, nI_clamp (by omega), et, h.2.2.2.2.2.2.2.2 (j - 10) (by omega)]
    congr 1
end zR5
