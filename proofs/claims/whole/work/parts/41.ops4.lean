def zo_piece (s : zS) (p w : Int32) : Int32 × zS :=
  if zb_in p (s.1 9 0) then (if zk_oth w 6 = 0 then ((if w.toNatClampNeg = 6 then nI (zm_s (fun y => if zl_ow s.1 6 y = p.toNatClampNeg then 1 else 0) 36) else nI (s.1 (w.toNatClampNeg + 2) p.toNatClampNeg)), s) else zx_no s (zk_oth w 6)) else zx_no s 1
def zo_count (s : zS) (w : Int32) : Int32 × zS :=
  (if 10 < w.toInt ∧ w.toInt ≤ 16 then s.2.2.2 (w.toInt.toNat - 10) else if zb_in w 8 then (if w.toNatClampNeg = 0 then nI (s.1 9 0) else if w.toNatClampNeg = 1 then nI (s.1 10 0) else if w.toNatClampNeg = 2 then nI (zm_s (fun y => s.1 0 y) 36) else if w.toNatClampNeg = 3 then nI (zm_s (fun y => if s.1 0 y = 9 then 1 else 0) 36) else if w.toNatClampNeg = 4 then nI (zm_s (fun y => if zl_op s.1 (zl_ow s.1 6) y then 1 else 0) 36) else if w.toNatClampNeg = 5 then nI (zl_rb s.1 (s.1 9 0)) else if w.toNatClampNeg = 6 then nI (s.2.2.1 3 0) else nI (s.2.2.1 1 0)) else -9, s)
section zZ
variable {X : Nat × (Nat → Int32)} {l : Launch} {I : Nat → Nat → Int32} {s : zS}
theorem cs_days (h : zc_at s I) (n : Int32) : zs_c X l mX5_days [.ref 0, .int n] I (zo_days s n) := by
  have hl := h.2.1
  have hP := hl.2.1.1
  have hdy := h.1.1
  have no : ∀ c, 1 ≤ c → c ≤ 6 → zo_days s n = zx_no s c → fw_Go X l mX5_days (fun r σ => r = some (.int (zo_days s n).1) ∧ ∃ I', σ = (fw_sh, I') ∧ zc_at (zo_days s n).2 I' ∧ zf_hi I I') 31 0 0 [some (.ref 0), some (.int n), none] [.int (zn_g c)] (fw_sh, I) := by
    intro c hc1 hc6 e
    refine fw_from [] 100 15 ok_X5_days ⟨_, wc_X5_days⟩ rfl ?_
    refine zq_br (zn_g0 hc6) (fun z => absurd z (by omega)) (fun _ => ?_)
    refine ⟨_, ct_no (X := X) (l := l) h hc1 hc6, fun v σ' hq => ?_⟩
    obtain ⟨rfl, I', rfl, h1, h2⟩ := hq
    exact zc_end e ⟨rfl, I', rfl, h1, h2⟩
  refine fw_enter [31] 100 ok_X5_days ⟨_, wc_X5_days⟩ rfl rfl rfl ?_
  refine ⟨_, ct_out (X := X) (l := l) (I := I) n 1 60, ?_⟩
  rintro v' σ' ⟨rfl, rfl⟩
  by_cases hk : zk_out n 1 60 = 0
  · obtain ⟨j, hj1, hj, rfl⟩ := zk_out_sp hk
    have ej := nI_clamp (n := j) (by omega)
    rw [hk]
    refine zq_le (s.1 10 0 + j) 999 ?_ rfl (fun g => ?_) (fun g => ?_)
    · show I 1 10 + nI j = _
      rw [hl.2.2.2.2.2.2.1, nI_add]
    · refine ⟨_, ct_first (X := X) (l := l) (I := I) (a := 0) (b := 0) (by omega), ?_⟩
      rintro v' σ' ⟨rfl, rfl⟩
      refine fw_from [] 100 15 ok_X5_days ⟨_, wc_X5_days⟩ rfl ?_
      refine zq_br (zn_g0 (show zk_first 0 0 ≤ 6 by simp [zk_first])) (fun _ => ?_) (fun z => absurd rfl z)
      refine ⟨_, ct_passDays (X := X) (l := l) hl (N := j) (by omega) (by omega), ?_⟩
      rintro v σ' ⟨rfl, I2, rfl, hz2, hf2⟩
      refine ⟨_, ct_countThistles (X := X) (l := l) hz2, ?_⟩
      rintro v σ' ⟨rfl, rfl⟩
      have e0 : zl_ow (zl_pd s.1 (zl_ow s.1 6) j) 6 = zl_ow s.1 6 := zl_ow_congr (by funext z; simp [zl_pd]) (by funext z; simp [zl_pd]) (by funext z; simp [zl_pd]) (by funext z; simp [zl_pd]) 6
      simp only [zo_days, hk, ej, g, if_true]
      exact ⟨rfl, I2, rfl, zc_now h (by rw [e0]; exact hz2) (by simpa [zl_pd] using g) (fun c hc => hf2 c (by simp; omega)), hf2.hi (by simp)⟩
    · refine ⟨_, ct_first (X := X) (l := l) (I := I) (a := 0) (b := 6) (by omega), ?_⟩
      rintro v' σ' ⟨rfl, rfl⟩
      exact fw_sub2 (no 6 (by omega) (by omega) (by simp [zo_days, hk, ej, show ¬ s.1 10 0 + j ≤ 999 by omega])) (by rfl) (by rfl) rfl
  · have e : zo_days s n = zx_no s (zk_out n 1 60) := by simp [zo_days, hk]
    refine And.intro (fun _ => ?_) (fun _ => ?_)
    · refine ⟨_, ct_first (X := X) (l := l) (I := I) (a := zk_out n 1 60) (b := 0) zk_out_le, ?_⟩
      rintro v' σ' ⟨rfl, rfl⟩
      exact fw_sub2 (no (zk_out n 1 60) (by omega) zk_out_le e) (by rfl) (by simp [zk_first, hk]) rfl
    · refine ⟨_, ct_first (X := X) (l := l) (I := I) (a := zk_out n 1 60) (b := 6) zk_out_le, ?_⟩
      rintro v' σ' ⟨rfl, rfl⟩
      exact fw_sub2 (no (zk_out n 1 60) (by omega) zk_out_le e) (by rfl) (by simp [zk_first, hk]) rfl
theorem cs_turn (h : zc_at s I) (p k f : Int32) : zs_c X l mX5_turn [.ref 0, .int p, .int k, .int f] I (zo_turn s p k f) := by
  have hl := h.2.1
  have hP := hl.2.1.1
  have c1 := ct_hasPiece (X := X) (l := l) hl p
  have no : ∀ c, 1 ≤ c → c ≤ 6 → zo_turn s p k f = zx_no s c → fw_Go X l mX5_turn (fun r σ => r = some (.int (zo_turn s p k f).1) ∧ ∃ I', σ = (fw_sh, I') ∧ zc_at (zo_turn s p k f).2 I' ∧ zf_hi I I') 30 0 0 [some (.ref 0), some (.int p), some (.int k), some (.int f), none, none] [.int (zn_g c)] (fw_sh, I) := by
    intro c hc1 hc6 e
    refine fw_from [] 100 15 ok_X5_turn ⟨_, wc_X5_turn⟩ rfl ?_
    refine zq_br (zn_g0 hc6) (fun z => absurd z (by omega)) (fun _ => ?_)
    refine ⟨_, ct_no (X := X) (l := l) h hc1 hc6, fun v σ' hq => ?_⟩
    obtain ⟨rfl, I', rfl, h1, h2⟩ := hq
    exact zc_end e ⟨rfl, I', rfl, h1, h2⟩
  refine fw_enter [30] 100 ok_X5_turn ⟨_, wc_X5_turn⟩ rfl rfl rfl ?_
  refine ⟨_, c1, ?_⟩
  rintro v σ' ⟨rfl, rfl⟩
  refine zq_brn (zi_eq0 _) (fun g => ?_) (fun g => ?_)
  · have g : zb_in p (s.1 9 0) = true := by simpa using g
    refine ⟨_, ct_oth (X := X) (l := l) (I := I) k 5, ?_⟩
    rintro v' σ' ⟨rfl, rfl⟩
    refine ⟨_, ct_out (X := X) (l := l) (I := I) f 0 9, ?_⟩
    rintro v' σ' ⟨rfl, rfl⟩
    refine ⟨_, ct_first (X := X) (l := l) (I := I) zk_oth_le, ?_⟩
    rintro v' σ' ⟨rfl, rfl⟩
    by_cases hk : zk_first (zk_oth k 5) (zk_out f 0 9) = 0
    · obtain ⟨hk1, hk2⟩ := zk_first0 hk
      obtain ⟨q, hq, rfl⟩ := zb_in_of g (by omega)
      obtain ⟨a, ha, rfl⟩ := zk_oth_sp hk1
      obtain ⟨b, hb1, hb, rfl⟩ := zk_out_sp hk2
      have ec := nI_clamp (n := q) (by omega)
      have ea := nI_clamp (n := a) (by omega)
      have eb := nI_clamp (n := b) (by omega)
      have w := hl.2.1.2.2.2 q hq
      obtain ⟨hd, hw, h0, h1, h2, h3, h4, h5⟩ := id hl
      rw [hk]
      refine fw_from [] 100 15 ok_X5_turn ⟨_, wc_X5_turn⟩ rfl ?_
      refine zq_br (zn_g0 (show 0 ≤ 6 by omega)) (fun _ => ?_) (fun z => absurd rfl z)
      refine And.intro (fw_in1 q 6 (by omega)) ?_
      refine And.intro (fw_in1 q 6 (by omega)) ?_
      refine And.intro (fw_in1 q 6 (by omega)) ?_
      refine And.intro (fw_in1 q 6 (by omega)) ?_
      simp only [zo_turn, g, hk, ec, ea, eb, if_true]
      have hf : zf_fr [4, 5] I (fw_up (fw_up I 4 q (nI a)) 5 q (nI b)) := (zf_fr.rf.up (by simp)).up (by simp)
      have e0 : zl_ow (zl_tn s.1 q a b) 6 = zl_ow s.1 6 := zl_ow_congr (by funext z; simp [zl_tn]) (by funext z; simp [zl_tn]) (by funext z; simp [zl_tn]) (by funext z; simp [zl_tn]) 6
      refine ⟨zr_e ?_, _, rfl, zc_now h ?_ (by simpa [zl_tn] using h.1.1) (fun c hc => hf c (by simp; omega)), hf.hi (by simp)⟩
      · show 10 * I 4 q + I 5 q = _
        rw [h2 2 (by omega) (by omega) q hq, h2 3 (by omega) (by omega) q hq, show (10 : Int32) = nI 10 from rfl, pk_mul, nI_add]
      · rw [e0]
        refine ⟨hd, ⟨by simpa [zl_tn] using hw.1, by simpa [zl_tn] using hw.2.1, fun z hz => by simpa [zl_tn] using hw.2.2.1 z hz, fun r hr => ?_⟩, fun z hz => ?_, fun z hz => ?_, fun m hm1 hm2 r hr => ?_, ?_, ?_, fun r hr => ?_⟩
        · have := hw.2.2.2 r (by simpa [zl_tn] using hr)
          by_cases hrq : r = q
          · subst hrq; simp [zl_tn]; omega
          · simpa [zl_tn, hrq] using this
        · rw [hf 2 (by simp)]; simpa [zl_tn] using h0 z hz
        · rw [hf 3 (by simp)]; simpa [zl_tn] using h1 z hz
        · have hr' : r < s.1 9 0 := by simpa [zl_tn] using hr
          have h9 := h2 m hm1 hm2 r hr'
          by_cases hm : m = 2
          · subst hm
            rw [fw_up_ne (1 + 1 + 2) (by omega)]
            by_cases hrq : r = q
            · subst hrq; simp [fw_up, zl_tn]
            · rw [fw_up_k hrq]; simpa [zl_tn, hrq] using h9
          · by_cases hm3 : m = 3
            · subst hm3
              by_cases hrq : r = q
              · subst hrq; simp [fw_up, zl_tn]
              · rw [show 1 + 1 + 3 = 5 from rfl, fw_up_k hrq, fw_up_ne 5 (by omega)]; simpa [zl_tn, hrq] using h9
            · rw [hf (1 + 1 + m) (by simp; omega)]; simpa [zl_tn, hm, hm3] using h9
        · rw [hf 1 (by simp)]; simpa [zl_tn] using h3
        · rw [hf 1 (by simp)]; simpa [zl_tn] using h4
        · rw [hf 9 (by simp)]; exact h5 r hr
    · exact fw_sub2 (no (zk_first (zk_oth k 5) (zk_out f 0 9)) (by omega) (zk_first_le zk_oth_le zk_out_le) (by simp [zo_turn, g, hk])) (by rfl) (by rfl) rfl
  · exact fw_sub2 (no 1 (by omega) (by omega) (by simp [zo_turn, g])) (by rfl) (by rfl) rfl
end zZ
