def zr_b (i k : Nat) : Nat := zm_s (fun j => i / 2 ^ j % 2) k
theorem zr_b31 : ∀ i, i < 256 → zb_p31 i = zr_b i 8 := by decide +kernel
theorem zb_sh9 : ∀ p, p < 9 → (1 : Int32) <<< (nI p &&& 31) = nI (2 ^ p) := by decide +kernel
theorem zr_cnt : ∀ n, n < 9 → ∀ r, r < 9 → zm_s (fun i => if zr_b i 8 = r then 1 else 0) (2 ^ n) = if r ≤ n then zr_w n r else 0 := by decide +kernel
theorem zr_b_le (i : Nat) : ∀ k, zr_b i k ≤ k
  | 0 => by simp [zr_b, zm_s]
  | k + 1 => by
    have h := zr_b_le i k
    have : i / 2 ^ k % 2 < 2 := Nat.mod_lt _ (by omega)
    simp only [zr_b, zm_s] at h ⊢
    omega
theorem zr_b_hi {i n : Nat} (hi : i < 2 ^ n) : ∀ d, zr_b i (n + d) = zr_b i n
  | 0 => rfl
  | d + 1 => by
    have h := zr_b_hi hi d
    have h0 := zb_bt_hi (q := n + d) hi (by omega)
    unfold zb_bt at h0
    rw [← Nat.add_assoc]
    simp only [zr_b, zm_s] at h ⊢
    rw [h0, h]; rfl
theorem zm_s_lin (c : Nat) (f : Nat → Nat) : ∀ n, zm_s (fun r => f r * c) n = zm_s f n * c
  | 0 => by simp [zm_s]
  | n + 1 => by simp only [zm_s, zm_s_lin c f n, Nat.add_mul]
theorem zm_s_one (F : Nat → Nat) (a : Nat) : ∀ M, zm_s (fun r => (if a = r then 1 else 0) * F r) M = if a < M then F a else 0
  | 0 => by simp [zm_s]
  | M + 1 => by
    simp only [zm_s, zm_s_one F a M]
    by_cases h : a = M
    · subst h; simp
    · by_cases h2 : a < M
      · simp [h, h2, show a < M + 1 by omega]
      · simp [h, h2, show ¬ a < M + 1 by omega]
theorem zm_s_add (f g : Nat → Nat) : ∀ n, zm_s (fun r => f r + g r) n = zm_s f n + zm_s g n
  | 0 => rfl
  | n + 1 => by simp only [zm_s, zm_s_add f g n]; omega
theorem zm_s_grp (F g : Nat → Nat) (M : Nat) : ∀ N, (∀ i, i < N → g i < M) → zm_s (fun i => F (g i)) N = zm_s (fun r => zm_s (fun i => if g i = r then 1 else 0) N * F r) M
  | 0, _ => by
    have : zm_s (fun r => zm_s (fun i => if g i = r then 1 else 0) 0 * F r) M = 0 := by
      have e : ∀ m, zm_s (fun r => zm_s (fun i => if g i = r then 1 else 0) 0 * F r) m = 0 := by
        intro m
        induction m with
        | zero => rfl
        | succ m ih => simp only [zm_s] at ih ⊢; rw [ih]; simp
      exact e M
    rw [this]; rfl
  | N + 1, h => by
    have ih := zm_s_grp F g M N (fun i hi => h i (by omega))
    have e : zm_s (fun r => zm_s (fun i => if g i = r then 1 else 0) (N + 1) * F r) M = zm_s (fun r => zm_s (fun i => if g i = r then 1 else 0) N * F r + (if g N = r then 1 else 0) * F r) M := zm_s_cong _ (fun r _ => by simp only [zm_s, Nat.add_mul])
    rw [e, zm_s_add, ← ih, zm_s_one, if_pos (h N (by omega))]
    rfl
/-- all wet and dry days, one by one -/
theorem zr_all (f : Nat → Bool) {n t : Nat} (hn : n ≤ 8) : zm_s (fun i => if f (zr_b i 8) = true then zl_pw (t - 1) (n - zr_b i 8) else 0) (2 ^ n) = zr_c f n t (n + 1) := by
  have hb : ∀ i, i < 2 ^ n → zr_b i 8 < n + 1 := fun i hi => by
    have h := zr_b_hi hi (8 - n)
    rw [show n + (8 - n) = 8 by omega] at h
    have := zr_b_le i n
    omega
  rw [zm_s_grp (fun r => if f r = true then zl_pw (t - 1) (n - r) else 0) (fun i => zr_b i 8) (n + 1) (2 ^ n) hb]
  have e : ∀ m, m ≤ n + 1 → zm_s (fun r => zm_s (fun i => if zr_b i 8 = r then 1 else 0) (2 ^ n) * (if f r = true then zl_pw (t - 1) (n - r) else 0)) m = zr_c f n t m := by
    intro m
    induction m with
    | zero => intro _; rfl
    | succ m ih =>
      intro hm
      simp only [zm_s, zr_c, ih (by omega)]
      rw [zr_cnt n (by omega) m (by omega), if_pos (show m ≤ n by omega)]
      by_cases h : f m = true <;> simp [h]
  exact e (n + 1) (Nat.le_refl _)
/-- the parts of one course of days -/
def zr_p (t i k : Nat) : Nat := zl_pw (t - 1) (k - zr_b i k)
theorem zr_p_s (t i k : Nat) : zr_p t i (k + 1) = if i / 2 ^ k % 2 = 1 then zr_p t i k * 1 else zr_p t i k * (t - 1) := by
  have hb := zr_b_le i k
  have hlt : i / 2 ^ k % 2 < 2 := Nat.mod_lt _ (by omega)
  have e : zr_b i (k + 1) = zr_b i k + i / 2 ^ k % 2 := rfl
  unfold zr_p
  rw [e]
  by_cases h : i / 2 ^ k % 2 = 1
  · rw [if_pos h, h, show k + 1 - (zr_b i k + 1) = k - zr_b i k by omega, Nat.mul_one]
  · rw [if_neg h, show i / 2 ^ k % 2 = 0 by omega, show k + 1 - (zr_b i k + 0) = (k - zr_b i k) + 1 by omega]
    rfl
section zR15
variable {X : Nat × (Nat → Int32)} {l : Launch} {I : Nat → Nat → Int32} {s : zS} {w : Nat} {L : Nat → Nat → Nat}
theorem rt_divisor {a b : Nat} (ha : a < 2 ^ 62) (hb : b < 2 ^ 62) : fw_Sem X l mX6_divisor [.long (lN a), .long (lN b)] (fw_sh, I) (fun r σ => r = some (.long (lN (Nat.gcd a b))) ∧ σ = (fw_sh, I)) := by
  have loop : ∀ m y, y ≤ m → ∀ x v8, x < 2 ^ 62 → y < 2 ^ 62 → fw_Go X l mX6_divisor (fun r σ => r = some (.long (lN (Nat.gcd x y))) ∧ σ = (fw_sh, I)) 6 0 0 [some (.long (lN a)), none, some (.long (lN b)), none, some (.long (lN x)), none, some (.long (lN y)), none, v8, none] [] (fw_sh, I) := by
    intro m
    induction m with
    | zero =>
      intro y hy x v8 hx hy2
      have hy0 : y = 0 := Nat.le_zero.mp hy
      subst hy0
      refine fw_from [6] 100 4 ok_X6_divisor ⟨_, wc_X6_divisor⟩ rfl ?_
      refine zq_br (c := lg_cmp (lN 0) 0 = 0) (d := (0 : Nat) = 0) ?_ (fun z => ?_) (fun z => absurd rfl z)
      · rw [lg_cmp_eq, show (0 : Int64) = lN 0 from rfl, pk_lEQ (by omega) (by omega)]
      · exact ⟨by rw [Nat.gcd_zero_right], rfl⟩
    | succ m ih =>
      intro y hy x v8 hx hy2
      refine fw_from [6] 100 4 ok_X6_divisor ⟨_, wc_X6_divisor⟩ rfl ?_
      refine zq_br (c := lg_cmp (lN y) 0 = 0) (d := y = 0) ?_ (fun z => ?_) (fun z => ?_)
      · rw [lg_cmp_eq, show (0 : Int64) = lN 0 from rfl, pk_lEQ (by omega) (by omega)]
      · exact ⟨by rw [z, Nat.gcd_zero_right], rfl⟩
      · refine And.intro ?_ ?_
        · rw [show (0 : Int64) = lN 0 from rfl, pk_lEQ (by omega) (by omega)]; exact z
        · have hm := Nat.mod_lt x (show 0 < y by omega)
          have e := ih (x % y) (by omega) y (some (.long (lN (x % y)))) hy2 (by omega)
          have eg : Nat.gcd x y = Nat.gcd y (x % y) := by rw [Nat.gcd_comm x y, Nat.gcd_rec y x, Nat.gcd_comm]
          rw [eg, show lN x - lN x / lN y * lN y = lN (x % y) from pk_lRem (by omega) (by omega) (by omega)]
          exact fw_sub e (by rfl) rfl
  refine fw_enter [6] 100 ok_X6_divisor ⟨_, wc_X6_divisor⟩ rfl rfl rfl ?_
  exact fw_sub (loop b b (Nat.le_refl _) a none ha hb) (by rfl) rfl
theorem cm_rain (h : zm_at s I) (y n t p : Int32) : fw_Sem X l mX6_rain [.ref 38, .int y, .int n, .int t, .int p] (fw_sh, I) (fun r σ => r = some (.long (zo_rain s y n t p).1) ∧ ∃ I', σ = (fw_sh, I') ∧ zm_at (zo_rain s y n t p).2 I' ∧ zf_lo I I') := by
  have hl := h.2.1
  have hd := h.1.1
  have no : ∀ c, 1 ≤ c → c ≤ 6 → zo_rain s y n t p = zr_no s c → fw_Go X l mX6_rain (fun r σ => r = some (.long (zo_rain s y n t p).1) ∧ ∃ I', σ = (fw_sh, I') ∧ zm_at (zo_rain s y n t p).2 I' ∧ zf_lo I I') 58 0 0 [some (.ref 38), some (.int y), some (.int n), some (.int t), some (.int p), none, none, none, none, none, none, none, none, none] [.int (zn_g c)] (fw_sh, I) := by
    intro c hc1 hc6 e
    refine fw_from [] 100 28 ok_X6_rain ⟨_, wc_X6_rain⟩ rfl ?_
    refine zq_br (zn_g0 hc6) (fun z => absurd z (by omega)) (fun _ => ?_)
    refine ⟨_, rt_low (X := X) (l := l) h hc1 hc6, fun v σ' hq => ?_⟩
    obtain ⟨rfl, I', rfl, h1, h2⟩ := hq
    rw [e]
    exact ⟨rfl, I', rfl, h1, h2⟩
  have no4 : zb_in y 36 = true → (n.toInt < 0 ∨ t.toInt < 2) → zo_rain s y n t p = zr_no s 4 := fun g k => by
    have e1 : zk_odds n t = 4 := by unfold zk_odds; rw [if_pos k]
    simp only [zo_rain, g, e1, if_true]; rfl
  have no6 : zb_in y 36 = true → ¬ (n.toInt < 0 ∨ t.toInt < 2) → (8 < n.toInt ∨ 20 < t.toInt) → zo_rain s y n t p = zr_no s 6 := fun g k k2 => by
    have e1 : zk_odds n t = 6 := by unfold zk_odds; rw [if_neg k, if_pos k2]
    simp only [zo_rain, g, e1, if_true]; rfl
  have t2 : (2 : Int32).toInt = 2 := rfl
  have t8 : (8 : Int32).toInt = 8 := rfl
  have t20 : (20 : Int32).toInt = 20 := rfl
  have t0 : (0 : Int32).toInt = 0 := rfl
  refine fw_enter [58] 100 ok_X6_rain ⟨_, wc_X6_rain⟩ rfl rfl rfl ?_
  refine ⟨_, rt_isYard (X := X) (l := l) (I := I) y, ?_⟩
  rintro v σ' ⟨rfl, rfl⟩
  refine zq_brn (zi_eq0 _) (fun g => ?_) (fun g => ?_)
  · have g : zb_in y 36 = true := by simpa using g
    refine zq_br (zt_lt0 n) (fun k1 => ?_) (fun k1 => ?_)
    · exact fw_sub2 (no 4 (by omega) (by omega) (no4 g (Or.inl k1))) (by rfl) (by rfl) rfl
    refine zq_br (zt_le 2 t) (fun k2 => ?_) (fun k2 => ?_)
    · refine zq_br (zt_lt 8 n) (fun k3 => ?_) (fun k3 => ?_)
      · exact fw_sub2 (no 6 (by omega) (by omega) (no6 g (by omega) (by omega))) (by rfl) (by rfl) rfl
      refine zq_br (zt_le t 20) (fun k4 => ?_) (fun k4 => ?_)
      · have ko : zk_odds n t = 0 := by unfold zk_odds; rw [if_neg (by omega), if_neg (by omega)]
        refine ⟨_, rt_oth (X := X) (l := l) (I := I) p 1, ?_⟩
        rintro v' σ' ⟨rfl, rfl⟩
        refine zq_brn (zi_eq0 _) (fun g1 => ?_) (fun g1 => ?_)
        · have g1 : zk_oth p 1 = 0 := by simpa using g1
          have hk : zk_first (zk_odds n t) (zk_oth p 1) = 0 := by rw [ko, g1]; rfl
          obtain ⟨q, hq, rfl⟩ := zb_in_of g (by omega)
          obtain ⟨a, b, ha, hb2, hb, rfl, rfl⟩ := zk_odds_sp ko
          obtain ⟨u, hu, rfl⟩ := zk_oth_sp g1
          have ec := nI_clamp (n := q) (by omega)
          have ea := nI_clamp (n := a) (by omega)
          have eb := nI_clamp (n := b) (by omega)
          have eu := nI_clamp (n := u) (by omega)
          have hpw := zl_pw_8 hb ha
          have hpp := zl_pw_pos (t := b) (by omega) a
          have hup : zr_up s q a b ≤ 9 * 1792000000000 := by
            refine Nat.le_trans (zr_c_le hb ha (a + 1) (by omega)) (Nat.mul_le_mul_right _ (by omega))
          have hg1 : 1 ≤ Nat.gcd (zl_pw b a) (zr_up s q a b) := Nat.gcd_pos_of_pos_left _ hpp
          have hg2 : Nat.gcd (zl_pw b a) (zr_up s q a b) ≤ zl_pw b a := Nat.gcd_le_left _ hpp
          have p256 : 2 ^ a ≤ 256 := by
            have : ∀ n, n ≤ 8 → 2 ^ n ≤ 256 := by decide
            exact this _ ha
          simp only [zo_rain, g, ec, hk, ea, eb, eu, if_true]
          obtain ⟨F, hF⟩ : ∃ F : Nat → Nat, F = fun i => if (decide (zl_pd s.1 (zl_ow s.1 6) (a + zr_b i 8) 0 q = 9)) = true then zl_pw (b - 1) (a - zr_b i 8) else 0 := ⟨_, rfl⟩
          have eUp : zm_s F (2 ^ a) = zr_up s q a b := by rw [hF]; exact zr_all (fun r => decide (zl_pd s.1 (zl_ow s.1 6) (a + r) 0 q = 9)) ha
          have fin : ∀ I1, zh 2 I I1 → ∀ v11 v13, fw_Go X l mX6_rain (fun r σ => r = some (.long (lN ((if u = 0 then zr_up s q a b else zl_pw b a) / Nat.gcd (zl_pw b a) (zr_up s q a b)))) ∧ ∃ I', σ = (fw_sh, I') ∧ zm_at s I' ∧ zf_lo I I') 199 0 0 [some (.ref 38), some (.int (nI q)), some (.int (nI a)), some (.int (nI b)), some (.int (nI u)), some (.int 0), some (.long (lN (zr_up s q a b))), none, some (.long (lN (zl_pw b a))), none, some (.int (nI (2 ^ a))), v11, none, v13] [] (fw_sh, I1) := by
            intro I1 hs v11 v13
            have cd := rt_divisor (X := X) (l := l) (I := I1) (a := zr_up s q a b) (b := zl_pw b a) (by omega) (by omega)
            rw [Nat.gcd_comm] at cd
            have hne : ¬ lN (Nat.gcd (zl_pw b a) (zr_up s q a b)) = 0 := by
              rw [show (0 : Int64) = lN 0 from rfl, pk_lEQ (by omega) (by omega)]; omega
            refine fw_from [] 100 104 ok_X6_rain ⟨_, wc_X6_rain⟩ rfl ?_
            refine zq_ne u 0 rfl rfl (fun k => ?_) (fun k => ?_)
            · refine ⟨_, cd, ?_⟩
              rintro v' σ' ⟨rfl, rfl⟩
              refine And.intro hne ?_
              simp only [k, if_false]
              exact ⟨by rw [pk_lDiv (by omega) (by omega) (by omega)], I1, rfl, hs.m h, hs.lo⟩
            · refine ⟨_, cd, ?_⟩
              rintro v' σ' ⟨rfl, rfl⟩
              refine And.intro hne ?_
              simp only [k, if_true]
              exact ⟨by rw [pk_lDiv (by omega) (by omega) (by omega)], I1, rfl, hs.m h, hs.lo⟩
          have outer := zl_down (N := 2 ^ a) (G := fun i => ∀ I1 v11 v13, zh 2 I I1 → fw_Go X l mX6_rain (fun r σ => r = some (.long (lN ((if u = 0 then zr_up s q a b else zl_pw b a) / Nat.gcd (zl_pw b a) (zr_up s q a b)))) ∧ ∃ I', σ = (fw_sh, I') ∧ zm_at s I' ∧ zf_lo I I') 103 0 0 [some (.ref 38), some (.int (nI q)), some (.int (nI a)), some (.int (nI b)), some (.int (nI u)), some (.int 0), some (.long (lN (zm_s F i))), none, some (.long (lN (zl_pw b a))), none, some (.int (nI i)), v11, none, v13] [] (fw_sh, I1)) (by
            intro I1 v11 v13 hs
            refine fw_from [103, 199] 100 53 ok_X6_rain ⟨_, wc_X6_rain⟩ rfl ?_
            refine zq_le (2 ^ a) (2 ^ a) (zb_sh9 a (by omega)) rfl (fun _ => ?_) (fun z => absurd z (by omega))
            exact fw_sub (fin I1 hs v11 v13) (by rw [eUp]) rfl) (fun i hi ih => by
            intro I1 v11 v13 hs
            have hc := hs.m h
            have e31 := zr_b31 i (by omega)
            have eb8 : zr_b i 8 = zr_b i a := by
              have := zr_b_hi hi (8 - a)
              rw [show a + (8 - a) = 8 by omega] at this
              exact this
            have bl := zr_b_le i a
            have inner := zl_down (N := a) (G := fun k => fw_Go X l mX6_rain (fun r σ => r = some (.long (lN ((if u = 0 then zr_up s q a b else zl_pw b a) / Nat.gcd (zl_pw b a) (zr_up s q a b)))) ∧ ∃ I', σ = (fw_sh, I') ∧ zm_at s I' ∧ zf_lo I I') 117 0 0 [some (.ref 38), some (.int (nI q)), some (.int (nI a)), some (.int (nI b)), some (.int (nI u)), some (.int 0), some (.long (lN (zm_s F i))), none, some (.long (lN (zl_pw b a))), none, some (.int (nI i)), some (.long (lN (zr_p b i k))), none, some (.int (nI k))] [] (fw_sh, I1)) (by
              refine fw_from [103, 117] 100 62 ok_X6_rain ⟨_, wc_X6_rain⟩ rfl ?_
              refine zq_le a a rfl rfl (fun _ => ?_) (fun z => absurd z (by omega))
              refine ⟨_, rt_thinks (X := X) (l := l) (I := I1), ?_⟩
              rintro v' σ' ⟨rfl, I2, rfl, hK⟩
              refine ⟨_, rt_bits (X := X) (l := l) (I := I2) (v := i) (by omega), ?_⟩
              rintro v' σ' ⟨rfl, rfl⟩
              have cg := rt_goesN (X := X) (l := l) (w := 6) (by omega) (n := a + zr_b i 8) (by omega) (hc.2.1.K hK) (by omega)
              rw [← nI_add, ← e31] at cg
              refine ⟨_, cg, ?_⟩
              rintro v' σ' ⟨rfl, I3, rfl, hz, hg⟩
              rw [e31] at hz
              have h9 := hz.1.2.2.1 q hq
              refine And.intro (fw_in1 q 36 hq) ?_
              have nx : ∀ v, v = zm_s F (i + 1) → ∀ I4, zh 2 I I4 → fw_Go X l mX6_rain (fun r σ => r = some (.long (lN ((if u = 0 then zr_up s q a b else zl_pw b a) / Nat.gcd (zl_pw b a) (zr_up s q a b)))) ∧ ∃ I', σ = (fw_sh, I') ∧ zm_at s I' ∧ zf_lo I I') 103 0 0 [some (.ref 38), some (.int (nI q)), some (.int (nI a)), some (.int (nI b)), some (.int (nI u)), some (.int 0), some (.long (lN v)), none, some (.long (lN (zl_pw b a))), none, some (.int (nI (i + 1))), some (.long (lN (zr_p b i a))), none, some (.int (nI a))] [] (fw_sh, I4) := fun v hv I4 hs4 => by
                have := ih I4 (some (.long (lN (zr_p b i a)))) (some (.int (nI a))) hs4
                rw [← hv] at this
                exact this
              refine zq_ne (zl_pd s.1 (zl_ow s.1 6) (a + zr_b i 8) 0 q) 9 (zq_rd (hz.2.1 q hq)) rfl (fun k9 => ?_) (fun k9 => ?_)
              · refine ⟨_, rt_forgets (X := X) (l := l) (I := I3), ?_⟩
                rintro v' σ' ⟨rfl, I4, rfl, hB⟩
                refine fw_sub (nx (zm_s F i + 0) ?_ I4 (hs.tr (zh_mk hK hg.w hB))) ?_ rfl
                · show _ = zm_s F i + F i
                  congr 1
                  rw [hF]; simp [k9]
                · rw [show fw_lc 0 = lN 0 from rfl, lN_add]; simp only [nI_1]
              · refine ⟨_, rt_forgets (X := X) (l := l) (I := I3), ?_⟩
                rintro v' σ' ⟨rfl, I4, rfl, hB⟩
                refine fw_sub (nx (zm_s F i + zr_p b i a) ?_ I4 (hs.tr (zh_mk hK hg.w hB))) ?_ rfl
                · show _ = zm_s F i + F i
                  congr 1
                  rw [hF]; simp only [k9, decide_true, if_true]; unfold zr_p; rw [eb8]
                · rw [lN_add]; simp only [nI_1]) (fun k hk2 ihk => by
              refine fw_from [103, 117] 100 62 ok_X6_rain ⟨_, wc_X6_rain⟩ rfl ?_
              refine zq_le a k rfl rfl (fun z => absurd z (by omega)) (fun _ => ?_)
              refine ⟨_, rt_has (X := X) (l := l) (I := I1) (m := i) (k := k) (by omega) (by omega), ?_⟩
              rintro v' σ' ⟨rfl, rfl⟩
              refine zq_br (zi_eq0 _) (fun kb => ?_) (fun kb => ?_)
              · have kb : ¬ i / 2 ^ k % 2 = 1 := by simpa using kb
                refine fw_sub ihk ?_ rfl
                rw [zr_p_s, if_neg kb, show (1 : Int32) = nI 1 from rfl, zn_sub (by omega : 1 ≤ b), nI_l (by omega), lN_mul, nI_add]
              · have kb : i / 2 ^ k % 2 = 1 := by simpa using kb
                refine fw_sub ihk ?_ rfl
                rw [zr_p_s, if_pos kb, show fw_lc 1 = lN 1 from rfl, lN_mul, nI_1])
            refine fw_from [103, 117] 100 53 ok_X6_rain ⟨_, wc_X6_rain⟩ rfl ?_
            refine zq_le (2 ^ a) i (zb_sh9 a (by omega)) rfl (fun z => absurd z (by omega)) (fun _ => ?_)
            exact fw_sub (inner 0 (by omega)) (by rfl) rfl)
          have down := zl_down (N := a) (G := fun k => fw_Go X l mX6_rain (fun r σ => r = some (.long (lN ((if u = 0 then zr_up s q a b else zl_pw b a) / Nat.gcd (zl_pw b a) (zr_up s q a b)))) ∧ ∃ I', σ = (fw_sh, I') ∧ zm_at s I' ∧ zf_lo I I') 81 0 0 [some (.ref 38), some (.int (nI q)), some (.int (nI a)), some (.int (nI b)), some (.int (nI u)), some (.int 0), some (.long (lN 0)), none, some (.long (lN (zl_pw b k))), none, some (.int (nI k)), none, none, none] [] (fw_sh, I)) (by
            refine fw_from [81, 103] 100 41 ok_X6_rain ⟨_, wc_X6_rain⟩ rfl ?_
            refine zq_le a a rfl rfl (fun _ => ?_) (fun z => absurd z (by omega))
            exact fw_sub (outer 0 (Nat.zero_le _) I none none zh.rf) (by rfl) rfl) (fun k hk2 ihk => by
            refine fw_from [81, 103] 100 41 ok_X6_rain ⟨_, wc_X6_rain⟩ rfl ?_
            refine zq_le a k rfl rfl (fun z => absurd z (by omega)) (fun _ => ?_)
            exact fw_sub ihk (by rw [nI_l (by omega), lN_mul, nI_1]; rfl) rfl)
          refine fw_from [81] 100 28 ok_X6_rain ⟨_, wc_X6_rain⟩ rfl ?_
          refine And.intro (fun _ => ?_) (fun z => absurd rfl z)
          exact fw_sub (down 0 (by omega)) (by rfl) rfl
        · have g1 : ¬ zk_oth p 1 = 0 := by simpa using g1
          exact fw_sub2 (no 2 (by omega) (by omega) (by
            have e1 : zk_first (zk_odds n t) (zk_oth p 1) = 2 := by rw [ko]; unfold zk_first; rw [if_pos rfl, zk_oth2 g1]
            simp only [zo_rain, g, e1, if_true]; rfl)) (by rfl) (by rfl) rfl
      · exact fw_sub2 (no 6 (by omega) (by omega) (no6 g (by omega) (by omega))) (by rfl) (by rfl) rfl
    · exact fw_sub2 (no 4 (by omega) (by omega) (no4 g (Or.inr (by omega)))) (by rfl) (by rfl) rfl
  · exact fw_sub2 (no 1 (by omega) (by omega) (by simp [zo_rain, g])) (by rfl) (by rfl) rfl
end zR15
