theorem zm_w {w w' : Nat} {L : Nat → Nat → Nat} {I : Nat → Nat → Int32} {x : Int32} (h : zm_l w L I) (hx : x = z9_o 6 w') : zm_l w' L (fw_up I 38 10 x) := by
  obtain ⟨a1, a2, a3, a4, a5, a6, a7⟩ := h
  exact ⟨a1, fun y hy => by rw [fw_up_ne _ (by omega)]; exact a2 y hy, fun k h1 h2 p hp => by rw [fw_up_ne _ (by omega)]; exact a3 k h1 h2 p hp, by rw [fw_up_k (by omega)]; exact a4, by rw [fw_up_k (by omega)]; exact a5, by rw [fw_up_k (by omega)]; exact a6, by rw [fw_up_at]; exact hx⟩
theorem z9_gt {m v : Nat} (hm : m < 100000) (hv : v < 100000) : z9_I m < nI v ↔ m < v + 1 := by
  have := z9_lt hm hv
  rw [← Int32.not_le, this]; omega
/-- counted from above -/
def zp_d (f : Nat → Bool) (N : Nat) : Nat → Nat × Nat
  | 0 => (0, 0)
  | m + 1 => if f (N - 1 - m) = true then ((zp_d f N m).1 + 1, N - 1 - m + 1) else zp_d f N m
theorem zp_d_cf (f : Nat → Bool) (N : Nat) : ∀ m, m ≤ N → zp_cf f N = ((zp_cf f (N - m)).1 + (zp_d f N m).1, if (zp_cf f (N - m)).1 = 0 then (zp_d f N m).2 else (zp_cf f (N - m)).2)
  | 0, _ => by
    simp only [zp_d, Nat.sub_zero, Nat.add_zero]
    refine Prod.ext rfl ?_
    have : ∀ n, (zp_cf f n).1 = 0 → (zp_cf f n).2 = 0 := by
      intro n
      induction n with
      | zero => intro _; rfl
      | succ n ih =>
        simp only [zp_cf]
        split
        · intro z; simp at z
        · exact ih
    show (zp_cf f N).2 = if (zp_cf f N).1 = 0 then 0 else (zp_cf f N).2
    split
    · rename_i h; exact this N h
    · rfl
  | m + 1, hm => by
    rw [zp_d_cf f N m (by omega)]
    obtain ⟨j, hj⟩ : ∃ j, N - m = j + 1 := ⟨N - m - 1, by omega⟩
    have e1 : N - (m + 1) = j := by omega
    have e2 : N - 1 - m = j := by omega
    rw [hj, e1]
    simp only [zp_cf, zp_d, e2]
    by_cases h : f j = true
    · simp only [h, if_true, Nat.add_eq_zero_iff, show ¬ (1 : Nat) = 0 by omega, and_false, if_false]
      refine Prod.ext ?_ ?_
      · show _ + 1 + _ = _ + (_ + 1); omega
      · rfl
    · simp only [h]
      rfl
theorem zp_d_le (f : Nat → Bool) (N : Nat) : ∀ m, (zp_d f N m).1 ≤ m ∧ (zp_d f N m).2 ≤ N + 1
  | 0 => by simp [zp_d]
  | m + 1 => by
    have := zp_d_le f N m
    simp only [zp_d]
    split
    · exact ⟨by simp; omega, by simp; omega⟩
    · omega
theorem zl_edge_t {ow : Nat → Nat} {y : Nat} : ∀ n, zl_edge ow y n = true ↔ ∃ d, d < n ∧ zl_be y d < 36 ∧ ow (zl_be y d) ≠ ow y
  | 0 => by simp [zl_edge]
  | n + 1 => by
    simp only [zl_edge, Bool.or_eq_true, zl_edge_t n, Bool.and_eq_true, decide_eq_true_eq, Bool.not_eq_true', decide_eq_false_iff_not]
    constructor
    · rintro (⟨d, h1, h2⟩ | h)
      · exact ⟨d, by omega, h2⟩
      · exact ⟨n, by omega, h⟩
    · rintro ⟨d, h1, h2⟩
      by_cases e : d = n
      · subst e; exact Or.inr h2
      · exact Or.inl ⟨d, by omega, h2⟩
section zR9
variable {X : Nat × (Nat → Int32)} {l : Launch} {I : Nat → Nat → Int32} {s : zS} {w : Nat} {L : Nat → Nat → Nat}
theorem rt_thTrod (h : zm_l 6 L I) {p n : Nat} (hp : p < L 9 0) (hn : n ≤ 99) (hd : L 10 0 ≤ 999) : fw_Sem X l mX6_thistlesTrod [.ref 38, .int (nI p), .int (nI n)] (fw_sh, I) (fun r σ => r = some (.int (nI (zh_tr L p n))) ∧ ∃ I', σ = (fw_sh, I') ∧ zh 1 I I') := by
  refine fw_enter [] 100 ok_X6_thistlesTrod ⟨_, wc_X6_thistlesTrod⟩ rfl rfl rfl ?_
  refine ⟨_, rt_keepAll (X := X) (l := l) (I := I) (w := 1) (by omega), ?_⟩
  rintro v σ' ⟨rfl, I1, rfl, hK⟩
  refine ⟨_, rt_trod (X := X) (l := l) (h.K hK) (by omega) hp, ?_⟩
  rintro v σ' ⟨rfl, I2, rfl, hz, hg⟩
  have c1 := rt_thIn (X := X) (l := l) hz (n := n) (by omega) hd
  rw [show zl_ow (zl_tr L (zl_ow L 6) p) 6 = zl_ow L 6 from zl_ow_congr rfl rfl rfl rfl 6] at c1
  refine ⟨_, c1, ?_⟩
  rintro v σ' ⟨rfl, I3, rfl, hh⟩
  refine ⟨_, rt_backAll (X := X) (l := l) (I := I3) (w := 1) (by omega), ?_⟩
  rintro v σ' ⟨rfl, I4, rfl, hB⟩
  refine ⟨zr_e ?_, I4, rfl, zh_mk hK (hg.w.tr hh.w) hB⟩
  unfold zh_tr
  rw [if_pos hp]
theorem cm_needy (h : zm_at s I) (n : Int32) : zs_m X l mX6_needy [.ref 38, .int n] I (zo_needy s n) := by
  have hl := h.2.1
  have hP := hl.1.1
  refine fw_enter [28] 100 ok_X6_needy ⟨_, wc_X6_needy⟩ rfl rfl rfl ?_
  refine ⟨_, rt_notDays (X := X) (l := l) (I := I) n, ?_⟩
  rintro v' σ' ⟨rfl, rfl⟩
  refine zq_br (zn_g0 zk_out_le) (fun hk => ?_) (fun hk => ?_)
  · obtain ⟨j, hj1, hj, rfl⟩ := zk_out_sp hk
    have ej := nI_clamp (n := j) (by omega)
    refine ⟨_, rt_thIn (X := X) (l := l) hl (n := j) (by omega) h.1.1, ?_⟩
    rintro v' σ' ⟨rfl, I1, rfl, hs1⟩
    simp only [zo_needy, hk, ej, if_true]
    have tb : ∀ p, zh_tr s.1 p j ≤ 36 := fun p => zm_ite
    have e6 : zm_s (fun y => if zl_pd s.1 (zl_ow s.1 6) j 0 y = 9 then 1 else 0) 36 = zh_tr s.1 6 j := by
      unfold zh_tr
      rw [if_neg (by omega)]
    rw [e6]
    have loop := zl_down (N := s.1 9 0) (G := fun p => ∀ I1 v6, zh 1 I I1 → fw_Go X l mX6_needy (fun r σ => r = some (.int (z9_I (zq_mn (fun p => !(s.1 7 p == 0)) (fun p => zh_tr s.1 p j) (zh_tr s.1 6 j) (s.1 9 0)).1)) ∧ ∃ I', σ = (fw_sh, I') ∧ zm_at s I' ∧ zf_lo I I') 28 0 0 [some (.ref 38), some (.int (nI j)), some (.int (zn_g 0)), some (.int (z9_I (zq_mn (fun p => !(s.1 7 p == 0)) (fun p => zh_tr s.1 p j) (zh_tr s.1 6 j) p).1)), some (.int (nI (zq_mn (fun p => !(s.1 7 p == 0)) (fun p => zh_tr s.1 p j) (zh_tr s.1 6 j) p).2)), some (.int (nI p)), v6] [] (fw_sh, I1)) (by
      intro I1 v6 hs
      have hc := hs.m h
      refine fw_from [28] 100 17 ok_X6_needy ⟨_, wc_X6_needy⟩ rfl ?_
      refine zq_le (s.1 9 0) (s.1 9 0) hc.2.1.2.2.2.1 rfl (fun _ => ?_) (fun h => absurd h (by omega))
      exact ⟨rfl, I1, rfl, hc, hs.lo⟩) (fun p hp ih => by
      intro I1 v6 hs
      have hc := hs.m h
      have w := hl.1.2.2.2 p hp
      have hb := zq_mn_le (sk := fun p => !(s.1 7 p == 0)) (f := fun p => zh_tr s.1 p j) (tb 6) tb p
      refine fw_from [28] 100 17 ok_X6_needy ⟨_, wc_X6_needy⟩ rfl ?_
      refine zq_le (s.1 9 0) p hc.2.1.2.2.2.1 rfl (fun h => absurd h (by omega)) (fun _ => ?_)
      refine ⟨_, rt_rolled (X := X) (l := l) hc.2.1 hp, ?_⟩
      rintro v' σ' ⟨rfl, rfl⟩
      refine zq_br (zi_eq0 _) (fun k => ?_) (fun k => ?_)
      · have k : ¬ s.1 7 p = 1 := by simpa using k
        have k : s.1 7 p = 0 := by omega
        have tp := tb p
        refine ⟨_, rt_thTrod (X := X) (l := l) hc.2.1 hp hj h.1.1, ?_⟩
        rintro v' σ' ⟨rfl, I2, rfl, hs2⟩
        refine zq_lt (zh_tr s.1 p j) (zq_mn (fun p => !(s.1 7 p == 0)) (fun p => zh_tr s.1 p j) (zh_tr s.1 6 j) p).2 rfl rfl (fun k2 => ?_) (fun k2 => ?_)
        · refine fw_sub (ih I2 (some (.int (nI (zh_tr s.1 p j)))) (hs.tr hs2)) ?_ rfl
          simp only [zq_mn, show ((!(s.1 7 p == 0)) = false ∧ zh_tr s.1 p j < (zq_mn (fun p => !(s.1 7 p == 0)) (fun p => zh_tr s.1 p j) (zh_tr s.1 6 j) p).2) from ⟨by simp [k], k2⟩, and_self, if_true, nI_1]
          simp [z9_I]
        · refine fw_sub (ih I2 (some (.int (nI (zh_tr s.1 p j)))) (hs.tr hs2)) ?_ rfl
          simp only [zq_mn, show ¬ ((!(s.1 7 p == 0)) = false ∧ zh_tr s.1 p j < (zq_mn (fun p => !(s.1 7 p == 0)) (fun p => zh_tr s.1 p j) (zh_tr s.1 6 j) p).2) by omega, if_false, nI_1]
      · have k : s.1 7 p = 1 := by simpa using k
        refine fw_sub (ih I1 v6 hs) ?_ rfl
        simp only [zq_mn, show ¬ ((!(s.1 7 p == 0)) = false ∧ zh_tr s.1 p j < (zq_mn (fun p => !(s.1 7 p == 0)) (fun p => zh_tr s.1 p j) (zh_tr s.1 6 j) p).2) from fun z => by simp [k] at z, if_false, nI_1])
    exact fw_sub (loop 0 (by omega) I1 none (hs1.mono (by omega))) (by rfl) rfl
  · have e : zo_needy s n = zx_no s (zk_out n 0 99) := by simp [zo_needy, hk]
    refine ⟨_, rt_no (X := X) (l := l) h (by omega) zk_out_le, fun v σ' hq => ?_⟩
    obtain ⟨rfl, I', rfl, h1, h2⟩ := hq
    exact zm_end e ⟨rfl, I', rfl, h1, h2⟩
theorem rt_without (h : zm_l 6 L I) {p n : Nat} (hp : p < L 9 0) (hn : n ≤ 99) (hd : L 10 0 ≤ 999) : fw_Sem X l mX6_grownWithout [.ref 38, .int (nI p), .int (nI n)] (fw_sh, I) (fun r σ => r = some (.int (nI (zh_wo L p n))) ∧ ∃ I', σ = (fw_sh, I') ∧ zh 2 I I') := by
  have hP := h.1.1
  refine fw_enter [] 100 ok_X6_grownWithout ⟨_, wc_X6_grownWithout⟩ rfl rfl rfl ?_
  refine ⟨_, rt_thinks (X := X) (l := l) (I := I), ?_⟩
  rintro v σ' ⟨rfl, I1, rfl, hK⟩
  have h1 := h.K hK
  have hw := zm_w (w' := p) (x := nI p) h1 (by rw [z9_some (by omega)])
  refine ⟨_, rt_goesN (X := X) (l := l) (w := p) (by omega) (by omega) hw (by omega), ?_⟩
  rintro v σ' ⟨rfl, I2, rfl, hz, hg⟩
  have hz2 := zm_w (w' := 6) (x := -9) hz (by rfl)
  refine ⟨_, rt_allGrown (X := X) (l := l) hz2, ?_⟩
  rintro v σ' ⟨rfl, rfl⟩
  refine ⟨_, rt_forgets (X := X) (l := l) (I := fw_up I2 38 10 (-9)), ?_⟩
  rintro v' σ' ⟨rfl, I4, rfl, hB⟩
  refine ⟨rfl, I4, rfl, zh_mk hK (fun a k q1 q2 q3 q4 q5 => ?_) hB⟩
  by_cases e : a = 38 ∧ k = 10
  · rw [e.1, e.2, fw_up_at, h1.2.2.2.2.2.2]; rfl
  · rw [fw_up_p a k (by omega), hg a k q1 q2 q3, fw_up_p a k (by omega)]
theorem cm_sold (h : zm_at s I) (n w : Int32) : zs_m X l mX6_sold [.ref 38, .int n, .int w] I (zo_sold s n w) := by
  have hl := h.2.1
  have hd := h.1.1
  have no : ∀ c, 1 ≤ c → c ≤ 6 → zo_sold s n w = zx_no s c → fw_Go X l mX6_sold (fun r σ => r = some (.int (zo_sold s n w).1) ∧ ∃ I', σ = (fw_sh, I') ∧ zm_at (zo_sold s n w).2 I' ∧ zf_lo I I') 21 0 0 [some (.ref 38), some (.int n), some (.int w), some (.int (zn_g c)), none, none, none, none] [] (fw_sh, I) := by
    intro c hc1 hc6 e
    refine fw_from [] 100 12 ok_X6_sold ⟨_, wc_X6_sold⟩ rfl ?_
    refine zq_br (zn_g0 hc6) (fun z => absurd z (by omega)) (fun _ => ?_)
    refine ⟨_, rt_no (X := X) (l := l) h hc1 hc6, fun v σ' hq => ?_⟩
    obtain ⟨rfl, I', rfl, h1, h2⟩ := hq
    exact zm_end e ⟨rfl, I', rfl, h1, h2⟩
  refine fw_enter [21] 100 ok_X6_sold ⟨_, wc_X6_sold⟩ rfl rfl rfl ?_
  refine ⟨_, rt_notDays (X := X) (l := l) (I := I) n, ?_⟩
  rintro v' σ' ⟨rfl, rfl⟩
  refine zq_brn (zn_g0 zk_out_le) (fun k => ?_) (fun k => ?_)
  · have e1 : zk_first (zk_out n 0 99) (zk_oth w 1) = zk_out n 0 99 := by unfold zk_first; rw [if_neg k]
    exact fw_sub (no (zk_out n 0 99) (by omega) zk_out_le (by simp only [zo_sold, e1, k, if_false])) (by rfl) rfl
  · have e1 : zk_first (zk_out n 0 99) (zk_oth w 1) = zk_oth w 1 := by unfold zk_first; rw [if_pos k]
    refine ⟨_, rt_oth (X := X) (l := l) (I := I) w 1, ?_⟩
    rintro v' σ' ⟨rfl, rfl⟩
    refine zq_brn (zi_eq0 _) (fun g1 => ?_) (fun g1 => ?_)
    · have g1 : zk_oth w 1 = 0 := by simpa using g1
      obtain ⟨j, hj1, hj, rfl⟩ := zk_out_sp k
      obtain ⟨u, hu, rfl⟩ := zk_oth_sp g1
      have ej := nI_clamp (n := j) (by omega)
      have eu := nI_clamp (n := u) (by omega)
      rw [k]
      have e2 := e1.trans g1
      simp only [zo_sold, e2, ej, eu, if_true]
      have tb : ∀ p, zh_wo s.1 p j ≤ 36 * 9 := fun p => zm_s_le' 36 (fun y hy => by
        have := hl.1.2.2.1 y hy
        rw [zl_pd_gs]
        repeat' split
        all_goals omega)
      have loop := zl_down (N := s.1 9 0) (G := fun p => ∀ I1 v7, zh 2 I I1 → fw_Go X l mX6_sold (fun r σ => r = some (.int (if u = 0 then z9_I (zq_mxp (fun p => zh_wo s.1 p j) (s.1 9 0)).1 else z9_I (zq_mxp (fun p => zh_wo s.1 p j) (s.1 9 0)).2)) ∧ ∃ I', σ = (fw_sh, I') ∧ zm_at s I' ∧ zf_lo I I') 42 0 0 [some (.ref 38), some (.int (nI j)), some (.int (nI u)), some (.int (zn_g 0)), some (.int (z9_I (zq_mxp (fun p => zh_wo s.1 p j) p).1)), some (.int (z9_I (zq_mxp (fun p => zh_wo s.1 p j) p).2)), some (.int (nI p)), v7] [] (fw_sh, I1)) (by
        intro I1 v7 hs
        have hc := hs.m h
        refine fw_from [42] 100 24 ok_X6_sold ⟨_, wc_X6_sold⟩ rfl ?_
        refine zq_le (s.1 9 0) (s.1 9 0) hc.2.1.2.2.2.1 rfl (fun _ => ?_) (fun h => absurd h (by omega)) (by have := hl.1.1; omega) (by have := hl.1.1; omega)
        refine zq_ne u 0 rfl rfl (fun u0 => ?_) (fun u0 => ?_)
        · rw [if_neg u0]; exact ⟨rfl, I1, rfl, hc, hs.lo⟩
        · rw [if_pos u0]; exact ⟨rfl, I1, rfl, hc, hs.lo⟩) (fun p hp ih => by
        intro I1 v7 hs
        have hc := hs.m h
        have hP := hl.1.1
        have hb := zq_mxp_le (f := fun p => zh_wo s.1 p j) tb p
        have tp := tb p
        refine fw_from [42] 100 24 ok_X6_sold ⟨_, wc_X6_sold⟩ rfl ?_
        refine zq_le (s.1 9 0) p hc.2.1.2.2.2.1 rfl (fun h => absurd h (by omega)) (fun _ => ?_)
        refine ⟨_, rt_without (X := X) (l := l) hc.2.1 hp hj hd, ?_⟩
        rintro v' σ' ⟨rfl, I2, rfl, hs2⟩
        refine zq_br (z9_gt (m := (zq_mxp (fun p => zh_wo s.1 p j) p).2) (v := zh_wo s.1 p j) (by omega) (by omega)) (fun k2 => ?_) (fun k2 => ?_)
        · have e3 : zq_mxp (fun p => zh_wo s.1 p j) (p + 1) = (p + 1, zh_wo s.1 p j + 1) := if_pos k2
          refine fw_sub (ih I2 (some (.int (nI (zh_wo s.1 p j)))) (hs.tr hs2)) ?_ rfl
          rw [e3]; simp only [nI_1]; simp [z9_I]
        · have e3 : zq_mxp (fun p => zh_wo s.1 p j) (p + 1) = zq_mxp (fun p => zh_wo s.1 p j) p := if_neg k2
          refine fw_sub (ih I2 (some (.int (nI (zh_wo s.1 p j)))) (hs.tr hs2)) ?_ rfl
          rw [e3]; simp only [nI_1])
      refine fw_from [42] 100 12 ok_X6_sold ⟨_, wc_X6_sold⟩ rfl ?_
      refine And.intro (fun _ => ?_) (fun z => absurd rfl z)
      exact fw_sub (loop 0 (by omega) I none zh.rf) (by rfl) rfl
    · have g1 : ¬ zk_oth w 1 = 0 := by simpa using g1
      exact fw_sub (no 2 (by omega) (by omega) (by simp only [zo_sold, e1, g1, if_false]; rw [zk_oth2 g1])) (by rfl) rfl
theorem rt_isEdge (h : zm_l 6 L I) {y p : Nat} (hy : y < 36) (hp : p < L 9 0) (hyp : zl_ow L 6 y = p) : zs_p X l mX6_isEdge [.ref 38, .int (nI y), .int (nI p)] I (zi (zl_edge (zl_ow L 6) y 4)) := by
  have hP := h.1.1
  have loop := zl_down (N := 4) (G := fun d => (∀ e, e < d → ¬ (zl_be y e < 36 ∧ zl_ow L 6 (zl_be y e) ≠ zl_ow L 6 y)) → fw_Go X l mX6_isEdge (fun r σ => r = some (.int (zi (zl_edge (zl_ow L 6) y 4))) ∧ σ = (fw_sh, I)) 2 0 0 [some (.ref 38), some (.int (nI y)), some (.int (nI p)), some (.int (nI d))] [] (fw_sh, I)) (by
    intro hn
    refine fw_from [2] 100 2 ok_X6_isEdge ⟨_, wc_X6_isEdge⟩ rfl ?_
    refine zq_le 4 4 rfl rfl (fun _ => ?_) (fun h => absurd h (by omega))
    have e : zl_edge (zl_ow L 6) y 4 = false := by
      cases hz : zl_edge (zl_ow L 6) y 4
      · rfl
      · obtain ⟨d, h1, h2⟩ := (zl_edge_t 4).mp hz
        exact absurd h2 (hn d h1)
    exact ⟨by decide, by rw [e]; rfl, rfl⟩) (fun d hd ih => by
    intro hn
    have nx : ¬ (zl_be y d < 36 ∧ zl_ow L 6 (zl_be y d) ≠ zl_ow L 6 y) → ∀ e, e < d + 1 → ¬ (zl_be y e < 36 ∧ zl_ow L 6 (zl_be y e) ≠ zl_ow L 6 y) := fun hq e he => by
      by_cases e2 : e = d
      · subst e2; exact hq
      · exact hn e (by omega)
    refine fw_from [2] 100 2 ok_X6_isEdge ⟨_, wc_X6_isEdge⟩ rfl ?_
    refine zq_le 4 d rfl rfl (fun h => absurd h (by omega)) (fun _ => ?_)
    refine ⟨_, rt_beside (X := X) (l := l) (I := I) hy hd, ?_⟩
    rintro v σ' ⟨rfl, rfl⟩
    refine zq_br (z9_neg (by omega)) (fun q1 => ?_) (fun q1 => ?_)
    · exact fw_sub (ih (nx (fun z => q1 z.1))) (by simp only [nI_1]) rfl
    have q1 : zl_be y d < 36 := Decidable.not_not.mp q1
    have b1 := z9_some q1
    refine ⟨_, rt_beside (X := X) (l := l) (I := I) hy hd, ?_⟩
    rintro v σ' ⟨rfl, rfl⟩
    have c2 := rt_ownerOf (X := X) (l := l) h q1 (by omega)
    rw [← b1] at c2
    refine ⟨_, c2, ?_⟩
    rintro v σ' ⟨rfl, rfl⟩
    refine zq_br (z9_eqn hP hp) (fun q2 => ?_) (fun q2 => ?_)
    · exact fw_sub (ih (nx (fun z => z.2 (by rw [hyp]; exact q2)))) (by simp only [nI_1]) rfl
    · exact ⟨by decide, by rw [(zl_edge_t 4).mpr ⟨d, hd, q1, by rw [hyp]; exact q2⟩]; rfl, rfl⟩)
  refine fw_enter [2] 100 ok_X6_isEdge ⟨_, wc_X6_isEdge⟩ rfl rfl rfl ?_
  exact fw_sub (loop 0 (by omega) (fun e he => absurd he (by omega))) (by rfl) rfl
theorem cm_edge (h : zm_at s I) (p : Int32) : zs_m X l mX6_edge [.ref 38, .int p] I (zo_edge s p) := by
  have hl := h.2.1
  have hP := hl.1.1
  refine fw_enter [18] 100 ok_X6_edge ⟨_, wc_X6_edge⟩ rfl rfl rfl ?_
  refine ⟨_, rt_isPiece (X := X) (l := l) hl p, ?_⟩
  rintro v' σ' ⟨rfl, rfl⟩
  refine zq_brn (zi_eq0 _) (fun g => ?_) (fun g => ?_)
  · have g : zb_in p (s.1 9 0) = true := by simpa using g
    obtain ⟨q, hq, rfl⟩ := zb_in_of g (by omega)
    have ec := nI_clamp (n := q) (by omega)
    simp only [zo_edge, g, ec, if_true]
    have loop := zl_down (N := 36) (G := fun y => fw_Go X l mX6_edge (fun r σ => r = some (.int (nI (zm_s (fun y => if zl_ow s.1 6 y = q ∧ zl_edge (zl_ow s.1 6) y 4 = true then 1 else 0) 36))) ∧ ∃ I', σ = (fw_sh, I') ∧ zm_at s I' ∧ zf_lo I I') 18 0 0 [some (.ref 38), some (.int (nI q)), some (.int (nI (zm_s (fun y => if zl_ow s.1 6 y = q ∧ zl_edge (zl_ow s.1 6) y 4 = true then 1 else 0) y))), some (.int (nI y))] [] (fw_sh, I)) (by
      refine fw_from [18] 100 12 ok_X6_edge ⟨_, wc_X6_edge⟩ rfl ?_
      refine zq_le 36 36 rfl rfl (fun _ => ?_) (fun h => absurd h (by omega))
      exact ⟨rfl, I, rfl, h, zf_lo.rf⟩) (fun y hy ih => by
      refine fw_from [18] 100 12 ok_X6_edge ⟨_, wc_X6_edge⟩ rfl ?_
      refine zq_le 36 y rfl rfl (fun h => absurd h (by omega)) (fun _ => ?_)
      refine ⟨_, rt_ownerOf (X := X) (l := l) hl hy (by omega), ?_⟩
      rintro v σ' ⟨rfl, rfl⟩
      refine zq_brn (z9_eqn hP hq) (fun k => ?_) (fun k => ?_)
      · exact fw_sub ih (by simp [zm_s, k, nI_1]) rfl
      refine ⟨_, rt_isEdge (X := X) (l := l) hl hy hq k, ?_⟩
      rintro v σ' ⟨rfl, rfl⟩
      refine zq_br (zi_eq0 _) (fun k2 => ?_) (fun k2 => ?_)
      · exact fw_sub ih (by simp [zm_s, k2, nI_1]) rfl
      · have k2 : zl_edge (zl_ow s.1 6) y 4 = true := by simpa using k2
        exact fw_sub ih (by simp [zm_s, k, k2, nI_1]) rfl)
    exact fw_sub (loop 0 (by omega)) (by rfl) rfl
  · refine ⟨_, rt_no (X := X) (l := l) h (c := 1) (by omega) (by omega), fun v σ' hq2 => ?_⟩
    obtain ⟨rfl, I', rfl, h1, h2⟩ := hq2
    exact zm_end (by simp [zo_edge, g]) ⟨rfl, I', rfl, h1, h2⟩
end zR9
