theorem zd_half_b (x : Int32) : ∃ b, b < 2 ∧ zd_half x = nI b := by
  obtain ⟨j, hj, e⟩ := pk_andE x (m := 2147483647) 31 (by decide)
  refine ⟨j / 256 % 2, Nat.mod_lt _ (by omega), ?_⟩
  unfold zd_half
  rw [e, show nI j / 256 = nI (j / 256) from pk_div (d := 256) (by omega) (by omega) (by omega)]
  exact pk_rem (d := 2) (by omega) (by omega) (by omega)
theorem zd_sum_cong (L : Nat → Nat → Nat) (ow : Nat → Nat) (x : Int32) (w : Nat) (n : Nat) : zd_sum L ow x w (n + 1) = zd_sum L ow x w n + zd_v L ow (zd_s x (n * L 9 0)) w := rfl
section zR14
variable {X : Nat × (Nat → Int32)} {l : Launch} {I : Nat → Nat → Int32} {s : zS} {w : Nat} {L : Nat → Nat → Nat}
theorem cm_lots (h : zm_at s I) (n z w : Int32) : zs_m X l mX6_lots [.ref 38, .int n, .int z, .int w] I (zo_lots s n z w) := by
  have hl := h.2.1
  have hP := hl.1.1
  have hd := h.1.1
  have h7 : ∀ q, q < s.1 9 0 → s.1 7 q ≤ 1 := fun q hq => (hl.1.2.2.2 q hq).2.2.2.2.2.2.2
  have no : ∀ c, 1 ≤ c → c ≤ 6 → zo_lots s n z w = zx_no s c → fw_Go X l mX6_lots (fun r σ => r = some (.int (zo_lots s n z w).1) ∧ ∃ I', σ = (fw_sh, I') ∧ zm_at (zo_lots s n z w).2 I' ∧ zf_lo I I') 27 0 0 [some (.ref 38), some (.int n), some (.int z), some (.int w), some (.int (zn_g c)), none, none, none, none, none] [] (fw_sh, I) := by
    intro c hc1 hc6 e
    refine fw_from [] 100 14 ok_X6_lots ⟨_, wc_X6_lots⟩ rfl ?_
    refine zq_br (zn_g0 hc6) (fun z => absurd z (by omega)) (fun _ => ?_)
    refine ⟨_, rt_no (X := X) (l := l) h hc1 hc6, fun v σ' hq => ?_⟩
    obtain ⟨rfl, I', rfl, h1, h2⟩ := hq
    exact zm_end e ⟨rfl, I', rfl, h1, h2⟩
  refine fw_enter [27] 100 ok_X6_lots ⟨_, wc_X6_lots⟩ rfl rfl rfl ?_
  refine ⟨_, rt_bound (X := X) (l := l) (I := I) n 1 20, ?_⟩
  rintro v' σ' ⟨rfl, rfl⟩
  refine zq_brn (zn_g0 zk_out_le) (fun k => ?_) (fun k => ?_)
  · have e1 : zk_first (zk_out n 1 20) (zk_oth w 1) = zk_out n 1 20 := by unfold zk_first; rw [if_neg k]
    exact fw_sub (no (zk_out n 1 20) (by omega) zk_out_le (by simp only [zo_lots, e1, k, if_false])) (by rfl) rfl
  have e1 : zk_first (zk_out n 1 20) (zk_oth w 1) = zk_oth w 1 := by unfold zk_first; rw [if_pos k]
  refine ⟨_, rt_oth (X := X) (l := l) (I := I) w 1, ?_⟩
  rintro v' σ' ⟨rfl, rfl⟩
  refine zq_brn (zi_eq0 _) (fun g1 => ?_) (fun g1 => ?_)
  · have g1 : zk_oth w 1 = 0 := by simpa using g1
    obtain ⟨j, hj1, hj, rfl⟩ := zk_out_sp k
    obtain ⟨u, hu, rfl⟩ := zk_oth_sp g1
    have ej := nI_clamp (n := j) (by omega)
    have eu := nI_clamp (n := u) (by omega)
    rw [k]
    have e2 := e1.trans g1
    simp only [zo_lots, e2, ej, eu, if_true]
    have outer := zl_down (N := j) (G := fun t => ∀ I1 v9, zh 2 I I1 → fw_Go X l mX6_lots (fun r σ => r = some (.int (nI (zd_sum s.1 (zl_ow s.1 6) z u j))) ∧ ∃ I', σ = (fw_sh, I') ∧ zm_at s I' ∧ zf_lo I I') 51 0 0 [some (.ref 38), some (.int (nI j)), some (.int z), some (.int (nI u)), some (.int (zn_g 0)), some (.int (zd_s z (t * s.1 9 0))), some (.int (nI (zd_sum s.1 (zl_ow s.1 6) z 0 t))), some (.int (nI (zd_sum s.1 (zl_ow s.1 6) z 1 t))), some (.int (nI t)), v9] [] (fw_sh, I1)) (by
      intro I1 v9 hs
      refine fw_from [51] 100 28 ok_X6_lots ⟨_, wc_X6_lots⟩ rfl ?_
      refine zq_le j j rfl rfl (fun _ => ?_) (fun h => absurd h (by omega))
      refine zq_ne u 0 rfl rfl (fun u0 => ?_) (fun u0 => ?_)
      · rw [show u = 1 by omega]; exact ⟨rfl, I1, rfl, hs.m h, hs.lo⟩
      · rw [u0]; exact ⟨rfl, I1, rfl, hs.m h, hs.lo⟩) (fun t ht ih => by
      intro I1 v9 hs
      have hc := hs.m h
      refine fw_from [51, 64] 100 28 ok_X6_lots ⟨_, wc_X6_lots⟩ rfl ?_
      refine zq_le j t rfl rfl (fun h => absurd h (by omega)) (fun _ => ?_)
      refine ⟨_, rt_thinks (X := X) (l := l) (I := I1), ?_⟩
      rintro v σ' ⟨rfl, I2, rfl, hK⟩
      obtain ⟨x, hx⟩ : ∃ x, x = zd_s z (t * s.1 9 0) := ⟨_, rfl⟩
      have inner := zl_down (N := s.1 9 0) (G := fun p => ∀ I3, zm_l 6 (zd_L s.1 x p) I3 → zgw 3 I2 I3 → fw_Go X l mX6_lots (fun r σ => r = some (.int (nI (zd_sum s.1 (zl_ow s.1 6) z u j))) ∧ ∃ I', σ = (fw_sh, I') ∧ zm_at s I' ∧ zf_lo I I') 64 0 0 [some (.ref 38), some (.int (nI j)), some (.int z), some (.int (nI u)), some (.int (zn_g 0)), some (.int (zd_s x p)), some (.int (nI (zd_sum s.1 (zl_ow s.1 6) z 0 t))), some (.int (nI (zd_sum s.1 (zl_ow s.1 6) z 1 t))), some (.int (nI t)), some (.int (nI p))] [] (fw_sh, I3)) (by
        intro I3 hz3 hg3
        have e9 : zd_L s.1 x (s.1 9 0) 9 0 = s.1 9 0 := by simp [zd_L]
        have e10 : zd_L s.1 x (s.1 9 0) 10 0 = s.1 10 0 := by simp [zd_L]
        have eow : zl_ow (zd_L s.1 x (s.1 9 0)) 6 = zl_ow s.1 6 := zl_ow_congr (by funext j; simp [zd_L]) (by funext j; simp [zd_L]) (by funext j; simp [zd_L]) (by funext j; simp [zd_L]) 6
        have cg := rt_goesN (X := X) (l := l) (w := 6) (by omega) (n := 10) (by omega) hz3 (by omega)
        rw [eow] at cg
        refine fw_from [51] 100 35 ok_X6_lots ⟨_, wc_X6_lots⟩ rfl ?_
        refine zq_le (s.1 9 0) (s.1 9 0) (by rw [← e9]; exact hz3.2.2.2.1) rfl (fun _ => ?_) (fun h => absurd h (by omega))
        refine ⟨_, cg, ?_⟩
        rintro v σ' ⟨rfl, I4, rfl, hz4, hg4⟩
        refine ⟨_, rt_thistles (X := X) (l := l) hz4, ?_⟩
        rintro v σ' ⟨rfl, rfl⟩
        refine ⟨_, rt_allGrown (X := X) (l := l) hz4, ?_⟩
        rintro v σ' ⟨rfl, rfl⟩
        refine ⟨_, rt_forgets (X := X) (l := l) (I := I4), ?_⟩
        rintro v' σ' ⟨rfl, I5, rfl, hB⟩
        have hh := zh_mk hK (hg3.tr hg4.w) hB
        have seed : zd_s x (s.1 9 0) = zd_s z ((t + 1) * s.1 9 0) := by rw [hx, zd_s_add, Nat.succ_mul]
        refine fw_sub (ih I5 (some (.int (nI (s.1 9 0)))) (hs.tr hh)) ?_ rfl
        rw [seed, zd_sum_cong, zd_sum_cong, ← hx]
        simp only [zd_v, if_true, show ¬ (1 : Nat) = 0 by omega, if_false, nI_1, nI_add]) (fun p hp ihp => by
        intro I3 hz3 hg3
        have e9 : zd_L s.1 x p 9 0 = s.1 9 0 := by simp [zd_L]
        obtain ⟨b, hb, eb⟩ := zd_half_b (zd_s x (p + 1))
        have hb1 : (if zd_half (zd_s x (p + 1)) = 1 then 1 else 0) = b := by
          rw [eb, show (1 : Int32) = nI 1 from rfl]
          by_cases e : b = 1
          · rw [if_pos (by rw [e]), e]
          · rw [if_neg (fun q => e ((nI_eq (by omega) (by omega)).mp q))]; omega
        have stp : zd_L s.1 x (p + 1) = zl_rs (zd_L s.1 x p) p b := by
          funext k' i
          unfold zd_L zl_rs
          by_cases hi : i = p
          · subst hi; by_cases h7 : k' = 7 <;> simp [h7, hb1]
          · simp [show (i < p + 1 ↔ i < p) by omega, hi]
        have ww := zb_ww (zl_rb (zd_L s.1 x p) (s.1 9 0)) (by have := zl_rb64 (L := zd_L s.1 x p) (by rw [e9]; exact hP); rw [e9] at this; exact this) p (by omega) b hb
        have hh : zd_half (zd_s x (p + 1)) = ((zd_s x p * 1664525 + 1013904223) &&& 2147483647) / 256 - ((zd_s x p * 1664525 + 1013904223) &&& 2147483647) / 256 / 2 * 2 := rfl
        have hrs := zl_rb_rs (L := zd_L s.1 x p) (p := p) (v := b) (by rw [e9]; exact hP) (by rw [e9]; exact hp) hb
        rw [e9] at hrs
        have ev : (I3 38 8 &&& (((1 : Int32) <<< (nI p &&& 31)) ^^^ (-1))) ||| ((((zd_s x p * 1664525 + 1013904223) &&& 2147483647) / 256 - ((zd_s x p * 1664525 + 1013904223) &&& 2147483647) / 256 / 2 * 2) <<< (nI p &&& 31)) = nI (zl_rb (zl_rs (zd_L s.1 x p) p b) (s.1 9 0)) := by
          rw [← hh, eb, hz3.2.2.2.2.1, e9, ww.1, hrs]
        have hz4 : zm_l 6 (zl_rs (zd_L s.1 x p) p b) (fw_up I3 38 8 ((I3 38 8 &&& (((1 : Int32) <<< (nI p &&& 31)) ^^^ (-1))) ||| ((((zd_s x p * 1664525 + 1013904223) &&& 2147483647) / 256 - ((zd_s x p * 1664525 + 1013904223) &&& 2147483647) / 256 / 2 * 2) <<< (nI p &&& 31)))) := zm_r7 hz3 (fun k hk => by funext j; simp [zl_rs, hk]) (fun q hq => by
          have := (hz3.1.2.2.2 q hq).2.2.2.2.2.2.2
          simp only [zl_rs]; split <;> omega) (by rw [e9]; exact ev)
        rw [← stp] at hz4
        refine fw_from [51, 64] 100 35 ok_X6_lots ⟨_, wc_X6_lots⟩ rfl ?_
        refine zq_le (s.1 9 0) p (by rw [← e9]; exact hz3.2.2.2.1) rfl (fun h => absurd h (by omega)) (fun _ => ?_)
        refine And.intro (by decide) ?_
        refine And.intro (by decide) ?_
        exact fw_sub (ihp _ hz4 (hg3.tr (zg.rf.up (by omega)).w)) (by simp only [nI_1]; rfl) rfl)
      have e0 : zd_L s.1 x 0 = s.1 := by funext k i; simp [zd_L]
      exact fw_sub (inner 0 (Nat.zero_le _) I2 (by rw [e0]; exact hc.2.1.K hK) (fun _ _ _ _ _ _ _ => rfl)) (by rw [hx]; rfl) rfl)
    refine fw_from [51] 100 14 ok_X6_lots ⟨_, wc_X6_lots⟩ rfl ?_
    refine And.intro (fun _ => ?_) (fun z => absurd rfl z)
    exact fw_sub (outer 0 (Nat.zero_le _) I none zh.rf) (by simp [zd_s, zd_sum]; rfl) rfl
  · have g1 : ¬ zk_oth w 1 = 0 := by simpa using g1
    exact fw_sub (no 2 (by omega) (by omega) (by simp only [zo_lots, e1, g1, if_false]; rw [zk_oth2 g1])) (by rfl) rfl
end zR14
