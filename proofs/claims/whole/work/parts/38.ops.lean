theorem zl_ow_congr {L L' : Nat → Nat → Nat} (h4 : L' 4 = L 4) (h5 : L' 5 = L 5) (h6 : L' 6 = L 6) (h9 : L' 9 = L 9) (w : Nat) : zl_ow L' w = zl_ow L w := by
  funext y
  unfold zl_ow zl_cov
  rw [h4, h5, h6, h9]
-- what the operations do
def zo_letter (s : zS) (c : Int32) : Int32 × zS :=
  if zk_first (zk_out c 0 255) (if s.2.2.1 1 0 < 96 then 0 else 6) = 0 then (nI (s.2.2.1 1 0 + 1), s.1, s.2.1, (fun k j => if k = 1 then s.2.2.1 1 j + 1 else if k = 2 ∧ j = s.2.2.1 1 0 then c.toNatClampNeg else s.2.2.1 k j), s.2.2.2)
  else zx_no s (zk_first (zk_out c 0 255) (if s.2.2.1 1 0 < 96 then 0 else 6))
def zo_rolls (s : zS) (p : Int32) : Int32 × zS :=
  if zb_in p (s.1 9 0) then (nI (1 - s.1 7 p.toNatClampNeg), zl_to s.1 p.toNatClampNeg, s.2) else zx_no s 1
def zo_hay (s : zS) (p : Int32) : Int32 × zS :=
  if zb_in p (s.1 9 0) then (nI (zm_s (fun y => if zl_ow s.1 6 y = p.toNatClampNeg then s.1 0 y else 0) 36), s) else zx_no s 1
def zo_treads (s : zS) (p : Int32) : Int32 × zS :=
  if zb_in p (s.1 9 0) then (if s.1 7 p.toNatClampNeg = 0 then (nI (zm_s (fun y => if zl_ow s.1 6 y = p.toNatClampNeg then s.1 0 y else 0) 36), zl_tr s.1 (zl_ow s.1 6) p.toNatClampNeg, s.2) else zx_no s 3) else zx_no s 1
def zo_clear (s : zS) : Int32 × zS := (nI (s.2.2.1 3 0), s.1, s.2.1, (fun k j => if k = 3 then 0 else s.2.2.1 k j), s.2.2.2)
def zo_firstT (s : zS) (p : Int32) : Int32 × zS :=
  if zb_in p (s.1 9 0) then (if zl_days s.1 (zl_ow s.1 6) p.toNatClampNeg ≤ 99 then nI (zl_days s.1 (zl_ow s.1 6) p.toNatClampNeg) else -9, s) else zx_no s 1
def zo_behind (s : zS) (y n : Int32) : Int32 × zS :=
  if zb_in y 36 then (if zk_out n 0 99 = 0 then (nI (zl_pd s.1 (zl_ow s.1 6) n.toNatClampNeg 0 y.toNatClampNeg), s) else zx_no s (zk_out n 0 99)) else zx_no s 1
section zU
variable {X : Nat × (Nat → Int32)} {l : Launch} {I : Nat → Nat → Int32} {s : zS}
theorem zc_self (h : zc_at s I) (v : Int32) : (some (Value.int v) = some (.int v)) ∧ ∃ I', (fw_sh, I) = (fw_sh, I') ∧ zc_at s I' ∧ zf_hi I I' := ⟨rfl, I, rfl, h, zf_hi.rf⟩
theorem cs_hay (h : zc_at s I) (p : Int32) : zs_c X l mX5_hay [.ref 0, .int p] I (zo_hay s p) := by
  have hl := h.2.1
  have c1 := ct_hasPiece (X := X) (l := l) hl p
  refine fw_enter [] 100 ok_X5_hay ⟨_, wc_X5_hay⟩ rfl rfl rfl ?_
  refine ⟨_, c1, ?_⟩
  rintro v σ' ⟨rfl, rfl⟩
  refine zq_br (zi_eq0 _) (fun g => ?_) (fun g => ?_)
  · simp only [zo_hay, g]
    exact ⟨_, ct_no (X := X) (l := l) h (c := 1) (by omega) (by omega), fun v σ' hq => by obtain ⟨rfl, I', rfl, h1, h2⟩ := hq; exact ⟨rfl, I', rfl, h1, h2⟩⟩
  · have g : zb_in p (s.1 9 0) = true := by simpa using g
    obtain ⟨q, hq, rfl⟩ := zb_in_of g (by have := hl.2.1.1; omega)
    have c2 := ct_grownOn (X := X) (l := l) hl hq
    refine ⟨_, c2, ?_⟩
    rintro v σ' ⟨rfl, rfl⟩
    simp only [zo_hay, g, if_true, nI_clamp (show q < 2 ^ 31 by have := hl.2.1.1; omega)]
    exact zc_self h _
theorem cs_rolls (h : zc_at s I) (p : Int32) : zs_c X l mX5_rolls [.ref 0, .int p] I (zo_rolls s p) := by
  have hl := h.2.1
  have c1 := ct_hasPiece (X := X) (l := l) hl p
  refine fw_enter [] 100 ok_X5_rolls ⟨_, wc_X5_rolls⟩ rfl rfl rfl ?_
  refine ⟨_, c1, ?_⟩
  rintro v σ' ⟨rfl, rfl⟩
  refine zq_brn (zi_eq0 _) (fun g => ?_) (fun g => ?_)
  · have g : zb_in p (s.1 9 0) = true := by simpa using g
    have hP := hl.2.1.1
    obtain ⟨q, hq, rfl⟩ := zb_in_of g (by omega)
    have w := hl.2.1.2.2.2 q hq
    have c2 := ct_turnOver (X := X) (l := l) hl hq
    refine ⟨_, c2, ?_⟩
    rintro v σ' ⟨rfl, I', rfl, hz, hf⟩
    simp only [zo_rolls, g, if_true, nI_clamp (show q < 2 ^ 31 by omega)]
    have e0 : zl_ow (zl_to s.1 q) 6 = zl_ow s.1 6 := zl_ow_congr (by funext j; simp [zl_to]) (by funext j; simp [zl_to]) (by funext j; simp [zl_to]) (by funext j; simp [zl_to]) 6
    have hC : zc_at (zl_to s.1 q, s.2) I' := zc_now h (by rw [e0]; exact hz) (by simpa [zl_to] using h.1.1) (fun c hc => hf c (by simp; omega))
    have r7 := hz.2.2.2.2.1 7 (by omega) (by omega) q (by simpa [zl_to] using hq)
    have e7 : zl_to s.1 q 7 q = 1 - s.1 7 q := by simp [zl_to]
    rw [e7] at r7
    refine And.intro (fw_in1 q 6 (by omega)) ?_
    refine zq_eq (1 - s.1 7 q) 0 (zq_rd r7) rfl (fun k => ?_) (fun k => ?_)
    · exact ⟨by rw [k]; rfl, I', rfl, hC, hf.hi (by simp)⟩
    · exact ⟨by rw [show 1 - s.1 7 q = 1 by omega]; rfl, I', rfl, hC, hf.hi (by simp)⟩
  · simp only [zo_rolls, g]
    exact ⟨_, ct_no (X := X) (l := l) h (c := 1) (by omega) (by omega), fun v σ' hq => by obtain ⟨rfl, I', rfl, h1, h2⟩ := hq; exact ⟨rfl, I', rfl, h1, h2⟩⟩
theorem cs_treads (h : zc_at s I) (p : Int32) : zs_c X l mX5_treads [.ref 0, .int p] I (zo_treads s p) := by
  have hl := h.2.1
  have hP := hl.2.1.1
  have c1 := ct_hasPiece (X := X) (l := l) hl p
  have no : ∀ c, 1 ≤ c → c ≤ 6 → zo_treads s p = zx_no s c → fw_Go X l mX5_treads (fun r σ => r = some (.int (zo_treads s p).1) ∧ ∃ I', σ = (fw_sh, I') ∧ zc_at (zo_treads s p).2 I' ∧ zf_hi I I') 33 0 0 [some (.ref 0), some (.int p), none, none] [.int (zn_g c)] (fw_sh, I) := by
    intro c hc1 hc6 e
    refine fw_from [] 100 16 ok_X5_treads ⟨_, wc_X5_treads⟩ rfl ?_
    refine zq_br (zn_g0 hc6) (fun z => absurd z (by omega)) (fun _ => ?_)
    rw [e]
    exact ⟨_, ct_no (X := X) (l := l) h hc1 hc6, fun v σ' hq => by obtain ⟨rfl, I', rfl, h1, h2⟩ := hq; exact ⟨rfl, I', rfl, h1, h2⟩⟩
  refine fw_enter [33] 100 ok_X5_treads ⟨_, wc_X5_treads⟩ rfl rfl rfl ?_
  refine ⟨_, c1, ?_⟩
  rintro v σ' ⟨rfl, rfl⟩
  refine zq_brn (zi_eq0 _) (fun g => ?_) (fun g => ?_)
  · have g : zb_in p (s.1 9 0) = true := by simpa using g
    obtain ⟨q, hq, rfl⟩ := zb_in_of g (by omega)
    have w := hl.2.1.2.2.2 q hq
    have ec := nI_clamp (n := q) (by omega)
    refine And.intro (fw_in1 q 6 (by omega)) ?_
    refine zq_eq (s.1 7 q) 0 (zq_rd (hl.2.2.2.2.1 7 (by omega) (by omega) q hq)) rfl (fun k => ?_) (fun k => ?_)
    · refine fw_from [] 100 16 ok_X5_treads ⟨_, wc_X5_treads⟩ rfl ?_
      refine And.intro (fun _ => ?_) (fun z => absurd rfl z)
      refine ⟨_, ct_grownOn (X := X) (l := l) hl hq, ?_⟩
      rintro v σ' ⟨rfl, rfl⟩
      refine ⟨_, ct_treadDown (X := X) (l := l) hl hq, ?_⟩
      rintro v σ' ⟨rfl, I', rfl, hz, hf⟩
      have e0 : zl_ow (zl_tr s.1 (zl_ow s.1 6) q) 6 = zl_ow s.1 6 := zl_ow_congr (by funext j; simp [zl_tr]) (by funext j; simp [zl_tr]) (by funext j; simp [zl_tr]) (by funext j; simp [zl_tr]) 6
      simp only [zo_treads, g, k, ec, if_true]
      exact ⟨rfl, I', rfl, zc_now h (by rw [e0]; exact hz) (by simpa [zl_tr] using h.1.1) (fun c hc => hf c (by simp; omega)), hf.hi (by simp)⟩
    · exact fw_sub2 (no 3 (by omega) (by omega) (by simp [zo_treads, g, k, ec])) (by rfl) (by rfl) rfl
  · exact fw_sub2 (no 1 (by omega) (by omega) (by simp [zo_treads, g])) (by rfl) (by rfl) rfl
theorem cs_clear (h : zc_at s I) : zs_c X l mX5_clear [.ref 0] I (zo_clear s) := by
  refine fw_enter [] 100 ok_X5_clear ⟨_, wc_X5_clear⟩ rfl rfl rfl ?_
  obtain ⟨h1, h2, h3, h4, h5, h6, h7, h8, h9⟩ := id h
  refine ⟨zr_e h7, _, rfl, ⟨⟨h1.1, by simpa [zo_clear] using h1.2.1, by simpa [zo_clear] using h1.2.2.1, by simpa [zo_clear] using h1.2.2.2.1, by simp [zo_clear], by simpa [zo_clear] using h1.2.2.2.2.2.1, by simpa [zo_clear] using h1.2.2.2.2.2.2⟩, h2.keep (fun c _ _ => fw_up_ne c (by omega)), ?_, fun z => (h4 (by simpa [zo_clear] using z)).keep (fun c _ _ => fw_up_ne c (by omega)), ?_, fun j hj => ?_, ?_, fun j hj => ?_, fun k hk => ?_⟩, zf_hi.rf.up (by omega)⟩
  · rw [fw_up_k (by omega)]; simpa [zo_clear] using h3
  · rw [fw_up_ne 34 (by omega)]; simpa [zo_clear] using h5
  · rw [fw_up_ne 35 (by omega)]; simpa [zo_clear] using h6 j (by simpa [zo_clear] using hj)
  · rw [fw_up_at]; rfl
  · simp [zo_clear] at hj
  · rw [fw_up_ne 37 (by omega)]; exact h9 k hk
theorem cs_firstT (h : zc_at s I) (p : Int32) : zs_c X l mX5_firstThistle [.ref 0, .int p] I (zo_firstT s p) := by
  have hl := h.2.1
  have hP := hl.2.1.1
  have c1 := ct_hasPiece (X := X) (l := l) hl p
  refine fw_enter [] 100 ok_X5_firstThistle ⟨_, wc_X5_firstThistle⟩ rfl rfl rfl ?_
  refine ⟨_, c1, ?_⟩
  rintro v σ' ⟨rfl, rfl⟩
  refine zq_brn (zi_eq0 _) (fun g => ?_) (fun g => ?_)
  · have g : zb_in p (s.1 9 0) = true := by simpa using g
    obtain ⟨q, hq, rfl⟩ := zb_in_of g (by omega)
    have ec := nI_clamp (n := q) (by omega)
    have hb : zl_days s.1 (zl_ow s.1 6) q < 2 ^ 31 := by
      have : ∀ gr j a acc, zl_dt gr j a acc ≤ a + j := by
        intro gr j
        induction j with
        | zero => intro a acc; simp [zl_dt]
        | succ j ih => intro a acc; simp only [zl_dt]; split
                       · omega
                       · have := ih (a + 1) (acc + gr (a + 1)); omega
      unfold zl_days
      split
      · omega
      · have := this (fun a => zl_on s.1 q (s.1 10 0 + a)) 100 0 (zl_mx (fun y => zl_ow s.1 6 y = q) (fun y => s.1 0 y) 36 - 1); omega
    refine ⟨_, ct_daysToThistle (X := X) (l := l) hl hq, ?_⟩
    rintro v σ' ⟨rfl, rfl⟩
    refine zq_le (zl_days s.1 (zl_ow s.1 6) q) 99 rfl rfl (fun k => ?_) (fun k => ?_) hb
    · simp only [zo_firstT, g, ec, k, if_true]; exact zc_self h _
    · simp only [zo_firstT, g, ec, show ¬ zl_days s.1 (zl_ow s.1 6) q ≤ 99 by omega, if_true, if_false]; exact zc_self h _
  · simp only [zo_firstT, g]
    exact ⟨_, ct_no (X := X) (l := l) h (c := 1) (by omega) (by omega), fun v σ' hq => by obtain ⟨rfl, I', rfl, h1, h2⟩ := hq; exact ⟨rfl, I', rfl, h1, h2⟩⟩
end zU
