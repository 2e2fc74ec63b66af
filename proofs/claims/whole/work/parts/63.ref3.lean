def zm_im (L : Nat → Nat → Nat) (I : Nat → Nat → Int32) : Prop := zm_l 6 L (fun a k => if a = 38 ∧ k = 10 then -9 else I 50 (zv_i a k))
def zm_at (s : zS) (I : Nat → Nat → Int32) : Prop :=
  zs_wf s ∧ zm_l 6 s.1 I ∧ I 38 19 = nI (s.2.2.1 0 0) ∧ (s.2.2.1 0 0 = 1 → zm_im s.2.1 I) ∧ I 38 15 = nI (s.2.2.1 1 0) ∧ (∀ j, j < s.2.2.1 1 0 → I 46 j = nI (s.2.2.1 2 j)) ∧ I 38 26 = nI (s.2.2.1 3 0) ∧ (∀ j, j < s.2.2.1 3 0 → I 54 j = nI (s.2.2.1 4 j)) ∧ ∀ k, k < 7 → I 39 k = s.2.2.2 k
def zf_lo (I I' : Nat → Nat → Int32) : Prop := ∀ c, c < 38 → I' c = I c
theorem zf_lo.rf {I : Nat → Nat → Int32} : zf_lo I I := fun _ _ => rfl
theorem zf_lo.tr {I I' I'' : Nat → Nat → Int32} (h : zf_lo I I') (h2 : zf_lo I' I'') : zf_lo I I'' := fun c hc => (h2 c hc).trans (h c hc)
theorem zf_lo.up {I I' : Nat → Nat → Int32} {o k : Nat} {x : Int32} (h : zf_lo I I') (ho : 38 ≤ o) : zf_lo I (fw_up I' o k x) := fun c hc => by rw [fw_up_ne c (by omega)]; exact h c hc
theorem zh.lo {w : Nat} {I I' : Nat → Nat → Int32} (h : zh w I I') : zf_lo I I' := fun c hc => funext fun k => h c k (by omega) (by omega) (by omega) (by omega) (by omega)
theorem zgw.lo {w : Nat} {I I' : Nat → Nat → Int32} (h : zgw w I I') : zf_lo I I' := fun c hc => funext fun k => h c k (by omega) (by omega) (by omega) (by omega) (by omega)
theorem zv_il {a k : Nat} (h : zv_in a k) : zv_i a k < 69 := zv_i_lt h
theorem zm_im.keep {L : Nat → Nat → Nat} {I I' : Nat → Nat → Int32} (h : zm_im L I) (hf : ∀ k, k < 69 → I' 50 k = I 50 k) : zm_im L I' := by
  refine zm_l.keep h (fun c k hc => ?_)
  by_cases e : c = 38 ∧ k = 10
  · simp only [e, and_self, if_true]
  · rw [if_neg e, if_neg e]
    exact hf _ (zv_i_lt (by unfold zv_in; omega))
theorem zm_keep {s : zS} {I I' : Nat → Nat → Int32} (h : zm_at s I) (hf : ∀ a k, ¬ (a = 50 ∧ 70 ≤ k) → ¬ (a = 38 ∧ (k = 20 ∨ k = 21 ∨ k = 16 ∨ k = 17)) → ¬ (51 ≤ a ∧ a ≤ 53) → ¬ (47 ≤ a ∧ a ≤ 49) → 38 ≤ a → (a = 40 → k < 36) → (41 ≤ a ∧ a ≤ 45 → k < 6) → I' a k = I a k) : zm_at s I' := by
  obtain ⟨h1, h2, h3, h4, h5, h6, h7, h8, h9⟩ := h
  exact ⟨h1, h2.keep (fun c k hc => hf c k (by omega) (by omega) (by omega) (by omega) (by omega) (by omega) (by omega)), by rw [hf _ _ (by omega) (by omega) (by omega) (by omega) (by omega) (by omega) (by omega)]; exact h3, fun z => (h4 z).keep (fun k hk => hf _ _ (by omega) (by omega) (by omega) (by omega) (by omega) (by omega) (by omega)), by rw [hf _ _ (by omega) (by omega) (by omega) (by omega) (by omega) (by omega) (by omega)]; exact h5, fun j hj => by rw [hf _ _ (by omega) (by omega) (by omega) (by omega) (by omega) (by omega) (by omega)]; exact h6 j hj, by rw [hf _ _ (by omega) (by omega) (by omega) (by omega) (by omega) (by omega) (by omega)]; exact h7, fun j hj => by rw [hf _ _ (by omega) (by omega) (by omega) (by omega) (by omega) (by omega) (by omega)]; exact h8 j hj, fun k hk => by rw [hf _ _ (by omega) (by omega) (by omega) (by omega) (by omega) (by omega) (by omega)]; exact h9 k hk⟩
theorem zh.m {w : Nat} {s : zS} {I I' : Nat → Nat → Int32} (h : zh w I I') (hm : zm_at s I) (hw : 1 ≤ w := by omega) : zm_at s I' := zm_keep hm (fun a k h1 h2 h3 _ _ h5 h6 => h a k (by omega) (by omega) h3 h5 h6)
/-- the land alone is another -/
theorem zm_now {s : zS} {L' : Nat → Nat → Nat} {I I' : Nat → Nat → Int32} (h : zm_at s I) (hl : zm_l 6 L' I') (hd : L' 10 0 ≤ 999) (hg : zgw 1 I I') : zm_at (L', s.2) I' := by
  obtain ⟨h1, h2, h3, h4, h5, h6, h7, h8, h9⟩ := h
  exact ⟨⟨hd, h1.2⟩, hl, by rw [hg _ _ (by omega) (by omega) (by omega) (by omega) (by omega)]; exact h3, fun z => (h4 z).keep (fun k hk => hg _ _ (by omega) (by omega) (by omega) (by omega) (by omega)), by rw [hg _ _ (by omega) (by omega) (by omega) (by omega) (by omega)]; exact h5, fun j hj => by rw [hg _ _ (by omega) (by omega) (by omega) (by omega) (by omega)]; exact h6 j hj, by rw [hg _ _ (by omega) (by omega) (by omega) (by omega) (by omega)]; exact h7, fun j hj => by rw [hg _ _ (by omega) (by omega) (by omega) (by omega) (by omega)]; exact h8 j hj, fun k hk => by rw [hg _ _ (by omega) (by omega) (by omega) (by omega) (by omega)]; exact h9 k hk⟩
abbrev zs_m (X : Nat × (Nat → Int32)) (l : Launch) (m : fw_MI) (av : List Value) (I : Nat → Nat → Int32) (o : Int32 × zS) : Prop := fw_Sem X l m av (fw_sh, I) (fun r σ => r = some (.int o.1) ∧ ∃ I', σ = (fw_sh, I') ∧ zm_at o.2 I' ∧ zf_lo I I')
theorem zm_no {s : zS} {I : Nat → Nat → Int32} (h : zm_at s I) {c : Nat} (hc : c < 7) : zm_at (zs_no s c) (fw_up I 39 c (I 39 c + 1)) := by
  obtain ⟨h1, h2, h3, h4, h5, h6, h7, h8, h9⟩ := h
  refine ⟨h1, h2.keep (fun a k _ => fw_up_p a k (by omega)), by rw [fw_up_ne _ (by omega)]; exact h3, fun z => (h4 z).keep (fun k hk => by rw [fw_up_ne _ (by omega)]), by rw [fw_up_ne _ (by omega)]; exact h5, fun j hj => by rw [fw_up_ne _ (by omega)]; exact h6 j hj, by rw [fw_up_ne _ (by omega)]; exact h7, fun j hj => by rw [fw_up_ne _ (by omega)]; exact h8 j hj, fun k hk => ?_⟩
  by_cases hkc : k = c
  · subst hkc; rw [fw_up_at, h9 k hk]; simp [zs_no]
  · rw [fw_up_k hkc, h9 k hk]; simp [zs_no, hkc]
-- the land's days, one by one and together
def zl_gs (L : Nat → Nat → Nat) (p n : Nat) : Nat := if L 7 p = 0 then zm_s (fun i => zl_gr (L 2 p) (L 3 p) (L 10 0 + (1 + i))) n else 0
theorem zm_sh (f : Nat → Nat) : ∀ n, zm_s f (n + 1) = f 0 + zm_s (fun i => f (i + 1)) n
  | 0 => by simp [zm_s]
  | n + 1 => by
    have := zm_sh f n
    simp only [zm_s] at this ⊢
    omega
theorem zl_go_sum (gr : Nat → Nat) : ∀ j a acc, zl_go gr j a acc = acc + zm_s (fun i => gr (a + i)) j ∨ (9 ≤ zl_go gr j a acc ∧ 9 ≤ acc + zm_s (fun i => gr (a + i)) j)
  | 0, a, acc => by simp [zl_go, zm_s]
  | j + 1, a, acc => by
    have e := zm_sh (fun i => gr (a + i)) j
    simp only [Nat.add_zero] at e
    have e2 : zm_s (fun i => gr (a + (i + 1))) j = zm_s (fun i => gr (a + 1 + i)) j := zm_s_cong _ (fun k _ => by rw [show a + (k + 1) = a + 1 + k by omega])
    rw [e2] at e
    simp only [zl_go]
    split
    · right; omega
    · have ih := zl_go_sum gr j (a + 1) (acc + gr a)
      omega
theorem zl_pd_gs (L : Nat → Nat → Nat) (ow : Nat → Nat) (n y : Nat) : zl_pd L ow n 0 y = if ow y < L 9 0 then (if L 0 y + zl_gs L (ow y) n < 9 then L 0 y + zl_gs L (ow y) n else 9) else L 0 y := by
  simp only [zl_pd, if_true]
  by_cases h : ow y < L 9 0
  · rw [if_pos h, if_pos h]
    unfold zl_ov zl_gs
    by_cases h7 : L 7 (ow y) = 0
    · rw [if_pos h7, if_pos h7]
      have := zl_go_sum (fun a => zl_gr (L 2 (ow y)) (L 3 (ow y)) (L 10 0 + a)) n 1 0
      rw [Nat.zero_add] at this
      rcases this with e | ⟨e1, e2⟩
      · rw [e]
      · rw [if_neg (by omega), if_neg (by omega)]
    · rw [if_neg h7, if_neg h7]
  · rw [if_neg h, if_neg h]
theorem zo_pdk_k (L : Nat → Nat → Nat) (ow : Nat → Nat) : ∀ n q, 1 ≤ q → q ≤ 9 → zo_pdk L ow n q = L q
  | 0, q, _, _ => rfl
  | n + 1, q, h1, h2 => by
    funext j
    have := zo_pdk_k L ow n q h1 h2
    simp [zo_pdk, zl_pd, show ¬ q = 0 by omega, show ¬ q = 10 by omega, this]
theorem zo_pdk_10 (L : Nat → Nat → Nat) (ow : Nat → Nat) : ∀ n j, zo_pdk L ow n 10 j = L 10 j + n
  | 0, j => rfl
  | n + 1, j => by simp [zo_pdk, zl_pd, zo_pdk_10 L ow n j]; omega
theorem zo_pdk_0 {L : Nat → Nat → Nat} {ow : Nat → Nat} {y : Nat} (hy : L 0 y ≤ 9) : ∀ n, zo_pdk L ow n 0 y = zl_pd L ow n 0 y
  | 0 => by
    rw [zl_pd_gs]
    have : zl_gs L (ow y) 0 = 0 := by unfold zl_gs; split <;> simp [zm_s]
    rw [this]
    show L 0 y = _
    repeat' split
    all_goals omega
  | n + 1 => by
    have ih := zo_pdk_0 (ow := ow) hy n
    show zl_pd (zo_pdk L ow n) ow 1 0 y = _
    rw [zl_pd_gs, zl_pd_gs, ih, zl_pd_gs]
    have e9 : zo_pdk L ow n 9 0 = L 9 0 := by rw [zo_pdk_k L ow n 9 (by omega) (by omega)]
    have e1 : zl_gs (zo_pdk L ow n) (ow y) 1 = if L 7 (ow y) = 0 then zl_gr (L 2 (ow y)) (L 3 (ow y)) (L 10 0 + (1 + n)) else 0 := by
      unfold zl_gs
      rw [zo_pdk_k L ow n 7 (by omega) (by omega), zo_pdk_k L ow n 2 (by omega) (by omega), zo_pdk_k L ow n 3 (by omega) (by omega), zo_pdk_10]
      split
      · simp only [zm_s, Nat.zero_add]; congr 1; omega
      · rfl
    have e2 : zl_gs L (ow y) (n + 1) = zl_gs L (ow y) n + (if L 7 (ow y) = 0 then zl_gr (L 2 (ow y)) (L 3 (ow y)) (L 10 0 + (1 + n)) else 0) := by
      unfold zl_gs
      split
      · simp only [zm_s]
      · rfl
    rw [e9, e1, e2]
    generalize (if L 7 (ow y) = 0 then zl_gr (L 2 (ow y)) (L 3 (ow y)) (L 10 0 + (1 + n)) else 0) = g
    generalize zl_gs L (ow y) n = t
    repeat' split
    all_goals omega
theorem zm_l.cong {w : Nat} {L L' : Nat → Nat → Nat} {I : Nat → Nat → Int32} (h : zm_l w L I) (h0 : ∀ y, y < 36 → L' 0 y = L 0 y) (hk : ∀ k, 1 ≤ k → k ≤ 10 → L' k = L k) : zm_l w L' I := by
  obtain ⟨hw, a2, a3, a4, a5, a6, a7⟩ := h
  have e : ∀ k, 1 ≤ k → k ≤ 10 → ∀ j, L' k j = L k j := fun k h1 h2 j => by rw [hk k h1 h2]
  have e9 : L' 9 0 = L 9 0 := e 9 (by omega) (by omega) 0
  have erb : zl_rb L' (L 9 0) = zl_rb L (L 9 0) := zm_s_cong _ (fun p _ => by rw [e 7 (by omega) (by omega)])
  refine ⟨⟨by rw [e9]; exact hw.1, by rw [e 10 (by omega) (by omega)]; exact hw.2.1, fun y hy => by rw [h0 y hy]; exact hw.2.2.1 y hy, fun p hp => ?_⟩, fun y hy => by rw [h0 y hy]; exact a2 y hy, fun k h1 h2 p hp => by rw [e k (by omega) (by omega)]; exact a3 k h1 h2 p (by rw [← e9]; exact hp), by rw [e9]; exact a4, by rw [e9, erb]; exact a5, by rw [e 10 (by omega) (by omega)]; exact a6, a7⟩
  rw [e 2 (by omega) (by omega), e 3 (by omega) (by omega), e 4 (by omega) (by omega), e 5 (by omega) (by omega), e 6 (by omega) (by omega), e 7 (by omega) (by omega)]
  exact hw.2.2.2 p (by rw [← e9]; exact hp)
theorem zk_oth2 {x : Int32} {b : Nat} (h : ¬ zk_oth x b = 0) : zk_oth x b = 2 := by
  unfold zk_oth at h ⊢
  split at h
  · rename_i g; rw [if_pos g]
  · exact absurd rfl h
section zR4
variable {X : Nat × (Nat → Int32)} {l : Launch} {I : Nat → Nat → Int32} {s : zS} {w : Nat} {L : Nat → Nat → Nat}
theorem rt_goesN (hw6 : w ≤ 6) {n : Nat} (hn : n < 1000) (h : zm_l w L I) (hday : L 10 0 + n ≤ 5000) : fw_Sem X l mX6_goes [.ref 38, .int (nI n)] (fw_sh, I) (fun r σ => r = none ∧ ∃ I', σ = (fw_sh, I') ∧ zm_l w (zl_pd L (zl_ow L w) n) I' ∧ zg I I') := by
  refine fw_mono (rt_goes (X := X) (l := l) hw6 hn h hday) ?_
  rintro v σ' ⟨rfl, I', rfl, hz, hf⟩
  refine ⟨rfl, I', rfl, hz.cong (fun y hy => (zo_pdk_0 (h.1.2.2.1 y hy) n).symm) (fun k h1 h2 => ?_), hf⟩
  by_cases e : k = 10
  · subst e; funext j; rw [zo_pdk_10]; simp [zl_pd]
  · rw [zo_pdk_k L _ n k h1 (by omega)]; funext j; simp [zl_pd, show ¬ k = 0 by omega, e]
theorem rt_no (h : zm_at s I) {c : Nat} (h1 : 1 ≤ c) (h6 : c ≤ 6) : zs_m X l mX6_no [.ref 38, .int (zn_g c)] I (zx_no s c) := by
  have e2 : -(zn_g c) = nI c := by unfold zn_g; simp
  refine fw_enter [] 100 ok_X6_no ⟨_, wc_X6_no⟩ rfl rfl rfl ?_
  refine And.intro (fw_in1 c 7 (by omega) e2) ?_
  refine And.intro (fw_in1 c 7 (by omega) e2) ?_
  refine ⟨rfl, fw_up I 39 c (I 39 c + 1), ?_, zm_no h (by omega), zf_lo.rf.up (by omega)⟩
  show (fw_sh, fw_up I 39 (-(zn_g c)).toNatClampNeg (I 39 (-(zn_g c)).toNatClampNeg + 1)) = _
  rw [e2, nI_clamp (by omega)]
theorem rt_low (h : zm_at s I) {c : Nat} (h1 : 1 ≤ c) (h6 : c ≤ 6) : fw_Sem X l mX6_lowest [.ref 38, .int (zn_g c)] (fw_sh, I) (fun r σ => r = some (.long (zr_no s c).1) ∧ ∃ I', σ = (fw_sh, I') ∧ zm_at (zr_no s c).2 I' ∧ zf_lo I I') := by
  have e2 : -(zn_g c) = nI c := by unfold zn_g; simp
  refine fw_enter [] 100 ok_X6_lowest ⟨_, wc_X6_lowest⟩ rfl rfl rfl ?_
  refine And.intro (fw_in1 c 7 (by omega) e2) ?_
  refine And.intro (fw_in1 c 7 (by omega) e2) ?_
  refine ⟨rfl, fw_up I 39 c (I 39 c + 1), ?_, zm_no h (by omega), zf_lo.rf.up (by omega)⟩
  show (fw_sh, fw_up I 39 (-(zn_g c)).toNatClampNeg (I 39 (-(zn_g c)).toNatClampNeg + 1)) = _
  rw [e2, nI_clamp (by omega)]
theorem zm_end {o : Int32 × zS} {c : Nat} (e : o = zx_no s c) {v : Option Value} {σ' : fw_St} (hq : v = some (.int (zx_no s c).1) ∧ ∃ I', σ' = (fw_sh, I') ∧ zm_at (zx_no s c).2 I' ∧ zf_lo I I') : v = some (.int o.1) ∧ ∃ I', σ' = (fw_sh, I') ∧ zm_at o.2 I' ∧ zf_lo I I' := by rw [e]; exact hq
theorem rt_notDays (n : Int32) : zs_p X l mX6_notDays [.int n] I (zn_g (zk_out n 0 99)) := by
  refine fw_enter [] 100 ok_X6_notDays ⟨_, wc_X6_notDays⟩ rfl rfl rfl ?_
  refine ⟨_, rt_bound (X := X) (l := l) (I := I) n 0 99, ?_⟩
  rintro v σ' ⟨rfl, rfl⟩
  exact ⟨rfl, rfl⟩
theorem cm_hay (h : zm_at s I) (p : Int32) : zs_m X l mX6_hay [.ref 38, .int p] I (zo_hay s p) := by
  have hl := h.2.1
  have hP := hl.1.1
  refine fw_enter [] 100 ok_X6_hay ⟨_, wc_X6_hay⟩ rfl rfl rfl ?_
  refine ⟨_, rt_isPiece (X := X) (l := l) hl p, ?_⟩
  rintro v σ' ⟨rfl, rfl⟩
  refine zq_br (zi_eq0 _) (fun g => ?_) (fun g => ?_)
  · refine ⟨_, rt_no (X := X) (l := l) h (c := 1) (by omega) (by omega), fun v σ' hq => ?_⟩
    obtain ⟨rfl, I', rfl, h1, h2⟩ := hq
    exact zm_end (by simp [zo_hay, g]) ⟨rfl, I', rfl, h1, h2⟩
  · have g : zb_in p (s.1 9 0) = true := by simpa using g
    obtain ⟨q, hq, rfl⟩ := zb_in_of g (by omega)
    refine ⟨_, rt_hayOf (X := X) (l := l) hl (by omega) hq, ?_⟩
    rintro v σ' ⟨rfl, rfl⟩
    simp only [zo_hay, g, nI_clamp (n := q) (by omega), if_true]
    exact ⟨rfl, I, rfl, h, zf_lo.rf⟩
theorem cm_clear (h : zm_at s I) : zs_m X l mX6_clear [.ref 38] I (zo_clear s) := by
  refine fw_enter [] 100 ok_X6_clear ⟨_, wc_X6_clear⟩ rfl rfl rfl ?_
  obtain ⟨h1, h2, h3, h4, h5, h6, h7, h8, h9⟩ := h
  refine ⟨zr_e h7, fw_up I 38 26 (nI 0), rfl, ⟨⟨h1.1, h1.2.1, h1.2.2.1, h1.2.2.2.1, Nat.zero_le _, h1.2.2.2.2.2.1, h1.2.2.2.2.2.2⟩, h2.keep (fun a k _ => fw_up_p a k (by omega)), ?_, fun z => (h4 z).keep (fun k hk => by rw [fw_up_ne _ (by omega)]), ?_, fun j hj => ?_, fw_up_at, fun j hj => absurd hj (Nat.not_lt_zero j), fun k hk => ?_⟩, zf_lo.rf.up (by omega)⟩
  · rw [fw_up_k (by omega)]; exact h3
  · rw [fw_up_k (by omega)]; exact h5
  · rw [fw_up_ne _ (by omega)]; exact h6 j hj
  · rw [fw_up_ne _ (by omega)]; exact h9 k hk
theorem cm_letter (h : zm_at s I) (c : Int32) : zs_m X l mX6_letter [.ref 38, .int c] I (zo_letter s c) := by
  have h5 := h.2.2.2.2.1
  have h96 := h.1.2.2.1
  have tail : ∀ q, q = zk_first (zk_out c 0 255) (if s.2.2.1 1 0 < 96 then 0 else 6) → fw_Go X l mX6_letter (fun r σ => r = some (.int (zo_letter s c).1) ∧ ∃ I', σ = (fw_sh, I') ∧ zm_at (zo_letter s c).2 I' ∧ zf_lo I I') 25 0 0 [some (.ref 38), some (.int c), some (.int (zn_g q))] [] (fw_sh, I) := by
    intro q hq
    have hq6 : q ≤ 6 := by rw [hq]; exact zk_first_le zk_out_le (by split <;> omega)
    refine fw_from [] 100 13 ok_X6_letter ⟨_, wc_X6_letter⟩ rfl ?_
    refine zq_br (zn_g0 hq6) (fun hk => ?_) (fun hk => ?_)
    · rw [hk] at hq
      obtain ⟨hk1, hk2⟩ := zk_first0 hq.symm
      have hlt : s.2.2.1 1 0 < 96 := by
        split at hk2
        · assumption
        · cases hk2
      obtain ⟨u, hu1, hu, rfl⟩ := zk_out_sp hk1
      have eu := nI_clamp (n := u) (by omega)
      simp only [zo_letter, ← hq, eu, if_true]
      refine And.intro (fw_in1 (s.2.2.1 1 0) 96 hlt h5) ?_
      have e1 : fw_up I 46 (I 38 15).toNatClampNeg (nI u) 38 15 + 1 = nI (s.2.2.1 1 0 + 1) := by
        rw [fw_up_ne 38 (by omega), h5, nI_1]
      have eI : fw_up (fw_up I 46 (I 38 15).toNatClampNeg (nI u)) 38 15 (fw_up I 46 (I 38 15).toNatClampNeg (nI u) 38 15 + 1) = fw_up (fw_up I 46 (s.2.2.1 1 0) (nI u)) 38 15 (nI (s.2.2.1 1 0 + 1)) := by
        rw [e1, h5, nI_clamp (by omega)]
      refine ⟨zr_e (show fw_up (fw_up I 46 (I 38 15).toNatClampNeg (nI u)) 38 15 (fw_up I 46 (I 38 15).toNatClampNeg (nI u) 38 15 + 1) 38 15 = nI (s.2.2.1 1 0 + 1) from fw_up_at.trans e1), fw_up (fw_up I 46 (s.2.2.1 1 0) (nI u)) 38 15 (nI (s.2.2.1 1 0 + 1)), Prod.ext rfl eI, ?_, (zf_lo.rf.up (by omega)).up (by omega)⟩
      obtain ⟨w1, w2, w3, w4, w5, w6, w7, w8, w9⟩ := h
      refine ⟨⟨w1.1, w1.2.1, ?_, fun j => ?_, w1.2.2.2.2.1, w1.2.2.2.2.2.1, w1.2.2.2.2.2.2⟩, w2.keep (fun a k _ => by rw [fw_up_p a k (by omega), fw_up_p a k (by omega)]), ?_, fun z => (w4 z).keep (fun k hk => by rw [fw_up_ne _ (by omega), fw_up_ne _ (by omega)]), ?_, fun j hj => ?_, ?_, fun j hj => ?_, fun k hk => ?_⟩
      · show s.2.2.1 1 0 + 1 ≤ 96
        omega
      · have := w1.2.2.2.1 j
        show (if 2 = 1 then s.2.2.1 1 j + 1 else if 2 = 2 ∧ j = s.2.2.1 1 0 then u else s.2.2.1 2 j) ≤ 255
        rw [if_neg (by omega)]
        split <;> omega
      · rw [fw_up_k (by omega), fw_up_ne _ (by omega)]; exact w3
      · rw [fw_up_at]; rfl
      · rw [fw_up_ne 46 (by omega)]
        have hj : j < s.2.2.1 1 0 + 1 := hj
        show _ = nI (if 2 = 1 then s.2.2.1 1 j + 1 else if 2 = 2 ∧ j = s.2.2.1 1 0 then u else s.2.2.1 2 j)
        rw [if_neg (by omega)]
        by_cases e : j = s.2.2.1 1 0
        · rw [if_pos ⟨rfl, e⟩, e, fw_up_at]
        · rw [if_neg (fun z => e z.2), fw_up_k e]; exact w6 j (by omega)
      · rw [fw_up_k (by omega), fw_up_ne _ (by omega)]; exact w7
      · rw [fw_up_ne _ (by omega), fw_up_ne _ (by omega)]; exact w8 j hj
      · rw [fw_up_ne _ (by omega), fw_up_ne _ (by omega)]; exact w9 k hk
    · refine ⟨_, rt_no (X := X) (l := l) h (c := q) (by omega) hq6, fun v σ' hq2 => ?_⟩
      obtain ⟨rfl, I', rfl, h1, h2⟩ := hq2
      exact zm_end (by rw [hq] at hk ⊢; simp only [zo_letter, hk, if_false]) ⟨rfl, I', rfl, h1, h2⟩
  refine fw_enter [25] 100 ok_X6_letter ⟨_, wc_X6_letter⟩ rfl rfl rfl ?_
  refine ⟨_, rt_bound (X := X) (l := l) (I := I) c 0 255, ?_⟩
  rintro v' σ' ⟨rfl, rfl⟩
  refine zq_brn (zn_g0 zk_out_le) (fun k => ?_) (fun k => ?_)
  · exact fw_sub (tail (zk_out c 0 255) (by unfold zk_first; rw [if_neg k])) (by rfl) rfl
  · refine zq_ne (s.2.2.1 1 0) 96 h5 rfl (fun k2 => ?_) (fun k2 => ?_)
    · exact fw_sub (tail 0 (by rw [k, if_pos (by omega)]; rfl)) (by rw [k]; rfl) rfl
    · exact fw_sub (tail 6 (by rw [k, if_neg (by omega)]; rfl)) (by rfl) rfl
theorem cm_row (h : zm_at s I) (c : Int32) : zs_m X l mX6_row [.ref 38, .int c] I (zo_row s c) := by
  have h5 := h.2.2.2.2.2.2.1
  have h96 := h.1.2.2.2.2.1
  have tail : ∀ q, q = zk_first (zk_out c 0 99) (if s.2.2.1 3 0 < 16 then 0 else 6) → fw_Go X l mX6_row (fun r σ => r = some (.int (zo_row s c).1) ∧ ∃ I', σ = (fw_sh, I') ∧ zm_at (zo_row s c).2 I' ∧ zf_lo I I') 24 0 0 [some (.ref 38), some (.int c), some (.int (zn_g q))] [] (fw_sh, I) := by
    intro q hq
    have hq6 : q ≤ 6 := by rw [hq]; exact zk_first_le zk_out_le (by split <;> omega)
    refine fw_from [] 100 13 ok_X6_row ⟨_, wc_X6_row⟩ rfl ?_
    refine zq_br (zn_g0 hq6) (fun hk => ?_) (fun hk => ?_)
    · rw [hk] at hq
      obtain ⟨hk1, hk2⟩ := zk_first0 hq.symm
      have hlt : s.2.2.1 3 0 < 16 := by
        split at hk2
        · assumption
        · cases hk2
      obtain ⟨u, hu1, hu, rfl⟩ := zk_out_sp hk1
      have eu := nI_clamp (n := u) (by omega)
      simp only [zo_row, ← hq, eu, if_true]
      refine And.intro (fw_in1 (s.2.2.1 3 0) 16 hlt h5) ?_
      have e1 : fw_up I 54 (I 38 26).toNatClampNeg (nI u) 38 26 + 1 = nI (s.2.2.1 3 0 + 1) := by
        rw [fw_up_ne 38 (by omega), h5, nI_1]
      have eI : fw_up (fw_up I 54 (I 38 26).toNatClampNeg (nI u)) 38 26 (fw_up I 54 (I 38 26).toNatClampNeg (nI u) 38 26 + 1) = fw_up (fw_up I 54 (s.2.2.1 3 0) (nI u)) 38 26 (nI (s.2.2.1 3 0 + 1)) := by
        rw [e1, h5, nI_clamp (by omega)]
      refine ⟨zr_e (show fw_up (fw_up I 54 (I 38 26).toNatClampNeg (nI u)) 38 26 (fw_up I 54 (I 38 26).toNatClampNeg (nI u) 38 26 + 1) 38 26 = nI (s.2.2.1 3 0 + 1) from fw_up_at.trans e1), fw_up (fw_up I 54 (s.2.2.1 3 0) (nI u)) 38 26 (nI (s.2.2.1 3 0 + 1)), Prod.ext rfl eI, ?_, (zf_lo.rf.up (by omega)).up (by omega)⟩
      obtain ⟨w1, w2, w3, w4, w5, w6, w7, w8, w9⟩ := h
      refine ⟨⟨w1.1, w1.2.1, w1.2.2.1, w1.2.2.2.1, ?_, fun j => ?_, w1.2.2.2.2.2.2⟩, w2.keep (fun a k _ => by rw [fw_up_p a k (by omega), fw_up_p a k (by omega)]), ?_, fun z => (w4 z).keep (fun k hk => by rw [fw_up_ne _ (by omega), fw_up_ne _ (by omega)]), ?_, fun j hj => ?_, ?_, fun j hj => ?_, fun k hk => ?_⟩
      · show s.2.2.1 3 0 + 1 ≤ 16
        omega
      · have := w1.2.2.2.2.2.1 j
        show (if 4 = 3 then s.2.2.1 3 j + 1 else if 4 = 4 ∧ j = s.2.2.1 3 0 then u else s.2.2.1 4 j) ≤ 99
        rw [if_neg (by omega)]
        split <;> omega
      · rw [fw_up_k (by omega), fw_up_ne _ (by omega)]; exact w3
      · rw [fw_up_k (by omega), fw_up_ne _ (by omega)]; exact w5
      · rw [fw_up_ne _ (by omega), fw_up_ne _ (by omega)]; exact w6 j hj
      · rw [fw_up_at]; rfl
      · rw [fw_up_ne 54 (by omega)]
        have hj : j < s.2.2.1 3 0 + 1 := hj
        show _ = nI (if 4 = 3 then s.2.2.1 3 j + 1 else if 4 = 4 ∧ j = s.2.2.1 3 0 then u else s.2.2.1 4 j)
        rw [if_neg (by omega)]
        by_cases e : j = s.2.2.1 3 0
        · rw [if_pos ⟨rfl, e⟩, e, fw_up_at]
        · rw [if_neg (fun z => e z.2), fw_up_k e]; exact w8 j (by omega)
      · rw [fw_up_ne _ (by omega), fw_up_ne _ (by omega)]; exact w9 k hk
    · refine ⟨_, rt_no (X := X) (l := l) h (c := q) (by omega) hq6, fun v σ' hq2 => ?_⟩
      obtain ⟨rfl, I', rfl, h1, h2⟩ := hq2
      exact zm_end (by rw [hq] at hk ⊢; simp only [zo_row, hk, if_false]) ⟨rfl, I', rfl, h1, h2⟩
  refine fw_enter [24] 100 ok_X6_row ⟨_, wc_X6_row⟩ rfl rfl rfl ?_
  refine ⟨_, rt_bound (X := X) (l := l) (I := I) c 0 99, ?_⟩
  rintro v' σ' ⟨rfl, rfl⟩
  refine zq_brn (zn_g0 zk_out_le) (fun k => ?_) (fun k => ?_)
  · exact fw_sub (tail (zk_out c 0 99) (by unfold zk_first; rw [if_neg k])) (by rfl) rfl
  · refine zq_ne (s.2.2.1 3 0) 16 h5 rfl (fun k2 => ?_) (fun k2 => ?_)
    · exact fw_sub (tail 0 (by rw [k, if_pos (by omega)]; rfl)) (by rw [k]; rfl) rfl
    · exact fw_sub (tail 6 (by rw [k, if_neg (by omega)]; rfl)) (by rfl) rfl
theorem cm_image (h : zm_at s I) : zs_m X l mX6_image [.ref 38] I (zo_image s) := by
  refine fw_enter [] 100 ok_X6_image ⟨_, wc_X6_image⟩ rfl rfl rfl ?_
  refine And.intro (Or.inr rfl) ?_
  refine ⟨_, rt_keepAll (X := X) (l := l) (I := fw_up I 38 19 1) (w := 0) (by omega), ?_⟩
  rintro v σ' ⟨rfl, I', rfl, hK⟩
  obtain ⟨h1, h2, h3, h4, h5, h6, h7, h8, h9⟩ := h
  have hr : ∀ a k, ¬ (a = 50 ∧ k < 69) → ¬ (a = 38 ∧ (k = 19 ∨ k = 20 ∨ k = 21)) → I' a k = I a k := fun a k g1 g2 => by
    rw [hK.2 a k (by omega) (by omega), fw_up_p a k (by omega)]
  have hl : zm_l 6 s.1 I' := h2.keep (fun a k hc => hr a k (by omega) (by omega))
  refine ⟨zr_e ?_, I', rfl, ⟨⟨h1.1, Nat.le_refl _, h1.2.2.1, h1.2.2.2.1, h1.2.2.2.2.1, h1.2.2.2.2.2.1, fun _ => h1.1⟩, hl, ?_, fun _ => ?_, ?_, fun j hj => ?_, ?_, fun j hj => ?_, fun k hk => ?_⟩, fun c hc => funext fun k => hr c k (by omega) (by omega)⟩
  · show I' 38 9 = _
    rw [hl.2.2.2.2.2.1]; rfl
  · rw [hK.2 38 19 (by omega) (by omega), fw_up_at]; rfl
  · refine h2.keep (fun a k hc => ?_)
    by_cases e : a = 38 ∧ k = 10
    · rw [if_pos e, e.1, e.2, h2.2.2.2.2.2.2]; rfl
    · have hin : zv_in a k := by unfold zv_in; omega
      have := hK.1 a k hin
      rw [Nat.mul_zero, Nat.zero_add] at this
      rw [if_neg e, this, fw_up_p a k (by omega)]
  · rw [hr 38 15 (by omega) (by omega)]; exact h5
  · rw [hr 46 j (by omega) (by omega)]; exact h6 j hj
  · rw [hr 38 26 (by omega) (by omega)]; exact h7
  · rw [hr 54 j (by omega) (by omega)]; exact h8 j hj
  · rw [hr 39 k (by omega) (by omega)]; exact h9 k hk
theorem cm_on (h : zm_at s I) : zs_m X l mX6_on [.ref 38] I (zo_on s) := by
  have h19 := h.2.2.1
  have h1' := h.1.2.1
  refine fw_enter [] 100 ok_X6_on ⟨_, wc_X6_on⟩ rfl rfl rfl ?_
  refine zq_ne (s.2.2.1 0 0) 0 h19 rfl (fun k => ?_) (fun k => ?_)
  · have k1 : s.2.2.1 0 0 = 1 := by omega
    refine ⟨_, rt_backAll (X := X) (l := l) (I := I) (w := 0) (by omega), ?_⟩
    rintro v σ' ⟨rfl, I', rfl, hB⟩
    have him := h.2.2.2.1 k1
    have hl : zm_l 6 s.2.1 I' := by
      refine zm_l.keep him (fun a k hc => ?_)
      by_cases e : a = 38 ∧ k = 10
      · rw [if_pos e, e.1, e.2, hB.2 38 10 (by unfold zv_in; omega) (by omega), h.2.1.2.2.2.2.2.2]; rfl
      · have hin : zv_in a k := by unfold zv_in; omega
        have := hB.1 a k hin
        rw [Nat.mul_zero, Nat.zero_add] at this
        rw [if_neg e, this]
    simp only [zo_on, k1, if_true]
    have hg : zgw 1 I I' := fun a k g1 g2 g3 g4 g5 => hB.2 a k (by unfold zv_in; omega) g5
    refine ⟨zr_e ?_, I', rfl, zm_now h hl (h.1.2.2.2.2.2.2 k1) hg, hg.lo⟩
    show I' 38 9 = _
    exact hl.2.2.2.2.2.1
  · refine ⟨_, rt_no (X := X) (l := l) h (c := 3) (by omega) (by omega), fun v σ' hq2 => ?_⟩
    obtain ⟨rfl, I', rfl, h1, h2⟩ := hq2
    exact zm_end (by simp [zo_on, k]) ⟨rfl, I', rfl, h1, h2⟩
end zR4
