/-- the first way that leads nearer -/
def zb_nr (far : Nat → Nat) (y : Nat) : Nat → Nat → Nat
  | 0, _ => y
  | j + 1, w => if zl_be y w < 36 ∧ far (zl_be y w) < far y then zl_be y w else zb_nr far y j (w + 1)
def zb_st (far : Nat → Nat) : Nat → Nat → Nat
  | 0, y => y
  | n + 1, y => if far y = 0 then y else zb_st far n (zb_nr far y 4 0)
theorem zb_nr_lt {far : Nat → Nat} {y : Nat} (hy : y < 36) : ∀ j w, zb_nr far y j w < 36
  | 0, _ => hy
  | j + 1, w => by
    simp only [zb_nr]
    split
    · rename_i h; exact h.1
    · exact zb_nr_lt hy j (w + 1)
def zl_pw (t : Nat) : Nat → Nat
  | 0 => 1
  | n + 1 => zl_pw t n * t
section zX
variable {X : Nat × (Nat → Int32)} {l : Launch} {I : Nat → Nat → Int32} {d : Nat} {L : Nat → Nat → Nat} {ow : Nat → Nat}
theorem ct_fewest (h : zl_at d L ow I) {a b : Nat} (ha : a < 36) (hb : b < 36) : fw_Sem X l mX4_fewestSteps [.ref 31, .ref d, .int (nI a), .int (nI b)] (fw_sh, I) (fun r σ => r = some (.int (nI (zb_far (zl_op L ow) a b))) ∧ ∃ I', σ = (fw_sh, I') ∧ zf_fr [32, 33] I I') := by
  have c1 := ct_measure (X := X) (l := l) h ha
  refine fw_enter [] 100 ok_X4_fewestSteps ⟨_, wc_X4_fewestSteps⟩ rfl rfl rfl ?_
  rcases h.1 with rfl | rfl | rfl <;>
  · refine ⟨_, c1, ?_⟩
    rintro v σ' ⟨rfl, J, rfl, hJ, hJf⟩
    refine And.intro (fw_in1 b 36 hb) ?_
    exact ⟨zr_e (zq_rd (hJ b hb)), J, rfl, hJf⟩
theorem ct_within {far : Nat → Nat} (hfar : ∀ y, y < 36 → I 32 y = nI (far y) ∧ far y ≤ 36) {n : Nat} (hn : n < 1000) : zs_p X l mX4_countWithin [.ref 31, .int (nI n)] I (nI (zm_s (fun y => if far y ≤ n then 1 else 0) 36)) := by
  have loop := zl_down (N := 36) (G := fun y => fw_Go X l mX4_countWithin (fun r σ => r = some (.int (nI (zm_s (fun y => if far y ≤ n then 1 else 0) 36))) ∧ σ = (fw_sh, I)) 4 0 0 [some (.ref 31), some (.int (nI n)), some (.int (nI (zm_s (fun y => if far y ≤ n then 1 else 0) y))), some (.int (nI y))] [] (fw_sh, I)) (by
    refine fw_from [4] 100 4 ok_X4_countWithin ⟨_, wc_X4_countWithin⟩ rfl ?_
    refine zq_le 36 36 rfl rfl (fun _ => ?_) (fun h => absurd h (by omega))
    exact ⟨rfl, rfl⟩) (fun y hy ih => by
    have hg := hfar y hy
    refine fw_from [4] 100 4 ok_X4_countWithin ⟨_, wc_X4_countWithin⟩ rfl ?_
    refine zq_le 36 y rfl rfl (fun h => absurd h (by omega)) (fun _ => ?_)
    refine And.intro (fw_in1 y 36 hy) ?_
    refine zq_lt n (far y) rfl (zq_rd hg.1) (fun g => ?_) (fun g => ?_)
    · exact fw_sub ih (by simp [zm_s, show ¬ far y ≤ n by omega, nI_1]) rfl
    · exact fw_sub ih (by simp [zm_s, g, nI_1]) rfl)
  refine fw_enter [4] 100 ok_X4_countWithin ⟨_, wc_X4_countWithin⟩ rfl rfl rfl ?_
  exact loop 0 (by omega)
theorem ct_nearer {far : Nat → Nat} (hfar : ∀ y, y < 36 → I 32 y = nI (far y) ∧ far y ≤ 36) {y : Nat} (hy : y < 36) : zs_p X l mX4_nearer [.ref 31, .int (nI y)] I (nI (zb_nr far y 4 0)) := by
  have loop := zl_down (N := 4) (G := fun w => ∀ v3, fw_Go X l mX4_nearer (fun r σ => r = some (.int (nI (zb_nr far y (4 - w) w))) ∧ σ = (fw_sh, I)) 2 0 0 [some (.ref 31), some (.int (nI y)), some (.int (nI w)), v3] [] (fw_sh, I)) (by
    intro v3
    refine fw_from [2] 100 2 ok_X4_nearer ⟨_, wc_X4_nearer⟩ rfl ?_
    refine zq_le 4 4 rfl rfl (fun _ => ?_) (fun h => absurd h (by omega))
    exact ⟨rfl, rfl⟩) (fun w hw4 ih => by
    intro v3
    have hs : 4 - w = (4 - (w + 1)) + 1 := by omega
    have c1 := ct_beside (X := X) (l := l) (I := I) hy hw4
    refine fw_from [2] 100 2 ok_X4_nearer ⟨_, wc_X4_nearer⟩ rfl ?_
    refine zq_le 4 w rfl rfl (fun h => absurd h (by omega)) (fun _ => ?_)
    refine ⟨_, c1, ?_⟩
    rintro v σ' ⟨rfl, rfl⟩
    refine zq_br (c := zo_I 36 (zl_be y w) = -1) (d := ¬ zl_be y w < 36) ?_ (fun g => ?_) (fun g => ?_)
    · by_cases hb : zl_be y w < 36
      · simp only [zo_some hb, hb, not_true, iff_false]; exact nI_m1 (by omega)
      · simp [zo_none hb, hb]
    · rw [hs]
      simp only [zb_nr, g, false_and, if_false]
      exact fw_sub (ih (some (.int (zo_I 36 (zl_be y w))))) (by simp only [nI_1]) rfl
    have g : zl_be y w < 36 := Decidable.not_not.mp g
    have b1 := zo_some g
    have f1 := hfar _ g
    have f2 := hfar y hy
    refine And.intro (fw_in1 (zl_be y w) 36 g b1) ?_
    refine And.intro (fw_in1 y 36 hy) ?_
    refine zq_le (far y) (far (zl_be y w)) (zq_rd f2.1) ?_ (fun k2 => ?_) (fun k2 => ?_)
    · show I 32 (zo_I 36 (zl_be y w)).toNatClampNeg = _
      rw [b1]; exact zq_rd f1.1
    · rw [hs]
      simp only [zb_nr, show ¬ (zl_be y w < 36 ∧ far (zl_be y w) < far y) by omega, if_false]
      exact fw_sub (ih (some (.int (zo_I 36 (zl_be y w))))) (by simp only [nI_1]) rfl
    · refine ⟨zr_e ?_, rfl⟩
      rw [hs]
      simp only [zb_nr, g, k2, and_self, if_true]
      exact b1)
  refine fw_enter [2] 100 ok_X4_nearer ⟨_, wc_X4_nearer⟩ rfl rfl rfl ?_
  exact fw_sub (loop 0 (by omega) none) (by rfl) rfl
theorem ct_stands (h : zl_at d L ow I) {a b n : Nat} (ha : a < 36) (hb : b < 36) (hn : n < 1000) : fw_Sem X l mX4_standsAfter [.ref 31, .ref d, .int (nI a), .int (nI b), .int (nI n)] (fw_sh, I) (fun r σ => r = some (.int (if zb_far (zl_op L ow) b a = 36 then -1 else nI (zb_st (zb_far (zl_op L ow) b) n a))) ∧ ∃ I', σ = (fw_sh, I') ∧ zf_fr [32, 33] I I') := by
  have c1 := ct_measure (X := X) (l := l) h hb
  obtain ⟨far, hfe⟩ : ∃ far, far = zb_far (zl_op L ow) b := ⟨_, rfl⟩
  have hfl : ∀ y, y < 36 → far y ≤ 36 := fun y hy => by rw [hfe]; exact zb_far_le hb hy
  rw [← hfe] at c1 ⊢
  have loop : ∀ J, (∀ y, y < 36 → J 32 y = nI (far y)) → zf_fr [32, 33] I J → ∀ j k y, k + j = n + 1 → 1 ≤ k → y < 36 → fw_Go X l mX4_standsAfter (fun r σ => r = some (.int (nI (zb_st far j y))) ∧ ∃ I', σ = (fw_sh, I') ∧ zf_fr [32, 33] I I') 25 0 0 [some (.ref 31), some (.ref d), some (.int (nI a)), some (.int (nI b)), some (.int (nI n)), some (.int (nI y)), some (.int (nI k))] [] (fw_sh, J) := by
    intro J hJ hJf j
    induction j with
    | zero =>
      intro k y hk hk1 hy
      refine fw_from [25] 100 16 ok_X4_standsAfter ⟨_, wc_X4_standsAfter⟩ rfl ?_
      refine zq_lt n k rfl rfl (fun _ => ?_) (fun z => absurd z (by omega))
      exact ⟨rfl, J, rfl, hJf⟩
    | succ j ih =>
      intro k y hk hk1 hy
      have hy2 := hfl y hy
      refine fw_from [25] 100 16 ok_X4_standsAfter ⟨_, wc_X4_standsAfter⟩ rfl ?_
      refine zq_lt n k rfl rfl (fun z => absurd z (by omega)) (fun _ => ?_)
      refine And.intro (fw_in1 y 36 hy) ?_
      refine zq_le (far y) 0 (zq_rd (hJ y hy)) rfl (fun g => ?_) (fun g => ?_)
      · exact ⟨by simp [zb_st, show far y = 0 by omega], J, rfl, hJf⟩
      have c2 := ct_nearer (X := X) (l := l) (I := J) (far := far) (fun z hz => ⟨hJ z hz, hfl z hz⟩) hy
      refine ⟨_, c2, ?_⟩
      rintro v σ' ⟨rfl, rfl⟩
      have e := ih (k + 1) (zb_nr far y 4 0) (by omega) (by omega) (zb_nr_lt hy 4 0)
      simp only [zb_st, show ¬ far y = 0 by omega, if_false]
      exact fw_sub e (by simp only [nI_1]) rfl
  refine fw_enter [25] 100 ok_X4_standsAfter ⟨_, wc_X4_standsAfter⟩ rfl rfl rfl ?_
  rcases h.1 with rfl | rfl | rfl <;>
  · refine ⟨_, c1, ?_⟩
    rintro v σ' ⟨rfl, J, rfl, hJ, hJf⟩
    have hA := hfl a ha
    refine And.intro (fw_in1 a 36 ha) ?_
    refine zq_ne (far a) 36 (zq_rd (hJ a ha)) rfl (fun g => ?_) (fun g => ?_)
    · simp only [g, if_false]
      exact fw_sub (loop J hJ hJf n 1 a (by omega) (by omega) ha) (by rfl) rfl
    · exact ⟨by simp [g], J, rfl, hJf⟩
theorem ct_nextSeed (x : Int32) : zs_p X l mX2_nextSeed [.int x] I (x * 1664525 + 1013904223) := by
  refine fw_enter [] 100 ok_X2_nextSeed ⟨_, wc_X2_nextSeed⟩ rfl rfl rfl ?_
  exact ⟨rfl, rfl⟩
theorem ct_halfDraw (x : Int32) : zs_p X l mX2_halfDraw [.int x] I ((x &&& 2147483647) / 256 - (x &&& 2147483647) / 256 / 2 * 2) := by
  refine fw_enter [] 100 ok_X2_halfDraw ⟨_, wc_X2_halfDraw⟩ rfl rfl rfl ?_
  refine And.intro (by decide) ?_
  refine And.intro (by decide) ?_
  exact ⟨rfl, rfl⟩
theorem ct_power {t n : Nat} (ht : t < 1000) (hn : n < 1000) : fw_Sem X l mX2_power [.int (nI t), .int (nI n)] (fw_sh, I) (fun r σ => r = some (.long (lN (zl_pw t n))) ∧ σ = (fw_sh, I)) := by
  have e1 : (nI t).toInt64 = lN t := nI_l (by omega)
  have loop := zl_down (N := n) (G := fun k => fw_Go X l mX2_power (fun r σ => r = some (.long (lN (zl_pw t n))) ∧ σ = (fw_sh, I)) 5 0 0 [some (.int (nI t)), some (.int (nI n)), some (.long (lN (zl_pw t k))), none, some (.int (nI k))] [] (fw_sh, I)) (by
    refine fw_from [5] 100 4 ok_X2_power ⟨_, wc_X2_power⟩ rfl ?_
    refine zq_le n n rfl rfl (fun _ => ?_) (fun h => absurd h (by omega))
    exact ⟨rfl, rfl⟩) (fun k hk ih => by
    refine fw_from [5] 100 4 ok_X2_power ⟨_, wc_X2_power⟩ rfl ?_
    refine zq_le n k rfl rfl (fun h => absurd h (by omega)) (fun _ => ?_)
    exact fw_sub ih (by rw [e1, nI_1]; simp only [zl_pw]; rw [show lN (zl_pw t k) * lN t = lN (zl_pw t k * t) from (Int64.ofNat_mul _ _).symm]) rfl)
  refine fw_enter [5] 100 ok_X2_power ⟨_, wc_X2_power⟩ rfl rfl rfl ?_
  exact fw_sub (loop 0 (by omega)) (by rfl) rfl
end zX
