def zh_L (L : Nat → Nat → Nat) (p q : Nat) : Nat → Nat → Nat := if q < L 9 0 then zl_to (if p < L 9 0 then zl_to L p else L) q else (if p < L 9 0 then zl_to L p else L)
def zh_k (k p : Nat) : Nat := if k = 0 then 6 else p
theorem zl_to_k {L : Nat → Nat → Nat} {p k : Nat} (hk : k ≠ 7) : zl_to L p k = L k := by funext j; simp [zl_to, hk]
theorem zl_to_7 {L : Nat → Nat → Nat} {p : Nat} (h7 : ∀ q, q < L 9 0 → L 7 q ≤ 1) (hp : p < L 9 0) : ∀ q, q < L 9 0 → zl_to L p 7 q ≤ 1 := fun q hq => by
  have := h7 q hq
  have := h7 p hp
  simp only [zl_to]; split <;> omega
theorem zh_Lx {L : Nat → Nat → Nat} {p q u v : Nat} (hP : L 9 0 ≤ 6) (hp : p < L 9 0) (hq : q < L 9 0) (h7 : ∀ q, q < L 9 0 → L 7 q ≤ 1) (hu : u < 2) (hv : v < 2) : (∀ k, k ≠ 7 → zh_L L (zh_k u p) (zh_k v q) k = L k) ∧ (∀ r, r < L 9 0 → zh_L L (zh_k u p) (zh_k v q) 7 r ≤ 1) ∧ nI (zl_rb L (L 9 0)) ^^^ (nI u <<< (nI p &&& 31)) ^^^ (nI v <<< (nI q &&& 31)) = nI (zl_rb (zh_L L (zh_k u p) (zh_k v q)) (L 9 0)) := by
  have h64 := zl_rb64 hP
  have n6 : ¬ 6 < L 9 0 := by omega
  have x1 := zb_xx (zl_rb L (L 9 0)) h64 p (by omega)
  have x2 := zb_xx (zl_rb L (L 9 0)) h64 q (by omega)
  have e1 := zl_rb_to hP hp h7
  have e2 := zl_rb_to hP hq h7
  have e9 : zl_to L p 9 0 = L 9 0 := by rw [zl_to_k (by omega)]
  rcases (show u = 0 ∨ u = 1 by omega) with rfl | rfl <;> rcases (show v = 0 ∨ v = 1 by omega) with rfl | rfl
  · simp only [zh_L, zh_k, if_true, n6, if_false]
    refine ⟨fun _ _ => trivial, h7, ?_⟩
    rw [show (nI 0) = (0 : Int32) from rfl, zb_x00 _ h64 p (by omega), zb_x00 _ h64 q (by omega)]
  · simp only [zh_L, zh_k, if_true, n6, if_false, hq, show ¬ (1 : Nat) = 0 by omega]
    refine ⟨fun k hk => zl_to_k hk, zl_to_7 h7 hq, ?_⟩
    rw [show (nI 0) = (0 : Int32) from rfl, show (nI 1) = (1 : Int32) from rfl, zb_x00 _ h64 p (by omega), x2.1, e2]
  · simp only [zh_L, zh_k, if_true, n6, if_false, hp, show ¬ (1 : Nat) = 0 by omega]
    refine ⟨fun k hk => zl_to_k hk, zl_to_7 h7 hp, ?_⟩
    rw [show (nI 0) = (0 : Int32) from rfl, show (nI 1) = (1 : Int32) from rfl, x1.1, zb_x00 _ x1.2.1 q (by omega), e1]
  · simp only [zh_L, zh_k, if_true, if_false, hp, hq, show ¬ (1 : Nat) = 0 by omega]
    have y2 := zb_xx (zb_x (zl_rb L (L 9 0)) p) x1.2.1 q (by omega)
    have e3 := zl_rb_to (L := zl_to L p) (p := q) (by rw [e9]; exact hP) (by rw [e9]; exact hq) (by rw [e9]; exact zl_to_7 h7 hp)
    rw [e9] at e3
    refine ⟨fun k hk => by rw [zl_to_k hk, zl_to_k hk], fun r hr => ?_, ?_⟩
    · have := zl_to_7 (L := zl_to L p) (p := q) (by rw [e9]; exact zl_to_7 h7 hp) (by rw [e9]; exact hq)
      rw [e9] at this
      exact this r hr
    · rw [show (nI 1) = (1 : Int32) from rfl, x1.1, y2.1, e3, e1]
theorem zl_ite2 {c d : Nat} : (nI c ≤ nI d) = (nI c ≤ nI d) := rfl
section zR8
variable {X : Nat × (Nat → Int32)} {l : Launch} {I : Nat → Nat → Int32} {s : zS} {w : Nat} {L : Nat → Nat → Nat}
theorem zf_fr.h53 {w : Nat} {I I' : Nat → Nat → Int32} (h : zf_fr [51, 52, 53] I I') : zh w I I' := fun c k _ _ h3 _ _ => by rw [h c (by simp; omega)]
theorem zb_kx : ∀ k, k < 4 → nI k ^^^ 2 = nI (if k < 2 then k + 2 else k - 2) ∧ nI k ^^^ 1 = nI (if k % 2 = 0 then k + 1 else k - 1) := by decide +kernel
theorem cm_two (h : zm_at s I) (p q a b : Int32) : zs_m X l mX6_two [.ref 38, .int p, .int q, .int a, .int b] I (zo_two s p q a b) := by
  have hl := h.2.1
  have hP := hl.1.1
  have h7 : ∀ q, q < s.1 9 0 → s.1 7 q ≤ 1 := fun q hq => (hl.1.2.2.2 q hq).2.2.2.2.2.2.2
  have no : ¬ ((zb_in p (s.1 9 0) && zb_in q (s.1 9 0) && !(decide (p = q)) && (zb_in a 36 && zb_in b 36 && !(decide (a = b)))) = true) → fw_Go X l mX6_two (fun r σ => r = some (.int (zo_two s p q a b).1) ∧ ∃ I', σ = (fw_sh, I') ∧ zm_at (zo_two s p q a b).2 I' ∧ zf_lo I I') 37 0 0 [some (.ref 38), some (.int p), some (.int q), some (.int a), some (.int b), none, none] [.int (zn_g 1)] (fw_sh, I) := by
    intro e
    refine fw_from [] 100 19 ok_X6_two ⟨_, wc_X6_two⟩ rfl ?_
    refine zq_br (zn_g0 (show 1 ≤ 6 by omega)) (fun z => absurd z (by omega)) (fun _ => ?_)
    refine ⟨_, rt_no (X := X) (l := l) h (c := 1) (by omega) (by omega), fun v σ' hq => ?_⟩
    obtain ⟨rfl, I', rfl, h1, h2⟩ := hq
    exact zm_end (by unfold zo_two; rw [if_neg e]) ⟨rfl, I', rfl, h1, h2⟩
  refine fw_enter [37] 100 ok_X6_two ⟨_, wc_X6_two⟩ rfl rfl rfl ?_
  refine ⟨_, rt_isPiece (X := X) (l := l) hl p, ?_⟩
  rintro v σ' ⟨rfl, rfl⟩
  refine zq_br (zi_eq0 _) (fun g1 => fw_sub2 (no (by simp [g1])) (by rfl) (by rfl) rfl) (fun g1 => ?_)
  refine ⟨_, rt_isPiece (X := X) (l := l) hl q, ?_⟩
  rintro v σ' ⟨rfl, rfl⟩
  refine zq_br (zi_eq0 _) (fun g2 => fw_sub2 (no (by simp [g2])) (by rfl) (by rfl) rfl) (fun g2 => ?_)
  refine And.intro (fun g3 => fw_sub2 (no (by simp [g3])) (by rfl) (by rfl) rfl) (fun g3 => ?_)
  refine And.intro (fun g4 => ?_) (fun g4 => fw_sub2 (no (by simp [g4])) (by rfl) (by rfl) rfl)
  refine ⟨_, rt_notYards (X := X) (l := l) (I := I) a b, ?_⟩
  rintro v σ' ⟨rfl, rfl⟩
  have g1 : zb_in p (s.1 9 0) = true := by simpa using g1
  have g2 : zb_in q (s.1 9 0) = true := by simpa using g2
  by_cases g : (zb_in a 36 && zb_in b 36) = true
  · rw [if_pos g]
    have g5 := g
    rw [Bool.and_eq_true] at g5
    have gA : (zb_in p (s.1 9 0) && zb_in q (s.1 9 0) && !(decide (p = q)) && (zb_in a 36 && zb_in b 36 && !(decide (a = b)))) = true := by rw [g, g1, g2]; simp [g3, g4]
    obtain ⟨p, hp, rfl⟩ := zb_in_of g1 (by omega)
    obtain ⟨q, hq, rfl⟩ := zb_in_of g2 (by omega)
    obtain ⟨x, hx, rfl⟩ := zb_in_of g5.1 (by omega)
    obtain ⟨y, hy, rfl⟩ := zb_in_of g5.2 (by omega)
    have ep := nI_clamp (n := p) (by omega)
    have eq := nI_clamp (n := q) (by omega)
    have ex := nI_clamp (n := x) (by omega)
    have ey := nI_clamp (n := y) (by omega)
    simp only [zo_two, gA, if_true, ep, eq, ex, ey]
    obtain ⟨T, hT⟩ : ∃ T : Nat → Nat, T = fun k => zh_tu s.1 (zh_k (k / 2) p) (zh_k (k % 2) q) x y := ⟨_, rfl⟩
    have hT36 : ∀ k, T k ≤ 36 := fun k => by rw [hT]; exact zb_far_le hx hy
    have t0 : zh_tu s.1 6 6 x y = T 0 := by rw [hT]; rfl
    have t1 : zh_tu s.1 6 q x y = T 1 := by rw [hT]; rfl
    have t2 : zh_tu s.1 p 6 x y = T 2 := by rw [hT]; rfl
    have t3 : zh_tu s.1 p q x y = T 3 := by rw [hT]; rfl
    rw [t0, t1, t2, t3]
    have le_iff : ∀ i j, zr_f (T i) ≤ zr_f (T j) ↔ T i ≤ T j := fun i j => by
      have := zr_f_cmp (hT36 j) (hT36 i); omega
    have hT2 : ∀ k, zr_f (T k) ≤ 1000 := fun k => zr_f_le (hT36 k)
    obtain ⟨R, hR⟩ : ∃ R : Int32, R = (if T 0 ≤ T 2 ∧ T 1 ≤ T 0 then 0 else if T 1 ≤ T 3 ∧ T 0 ≤ T 1 then 1 else if T 2 ≤ T 0 ∧ T 3 ≤ T 2 then 10 else if T 3 ≤ T 1 ∧ T 2 ≤ T 3 then 11 else -9) := ⟨_, rfl⟩
    rw [← hR]
    have loop2 : ∀ I1, (∀ j, j < 4 → I1 53 j = nI (zr_f (T j))) → zf_fr [51, 52, 53] I I1 → ∀ k, k ≤ 4 → (∀ j, j < k → ¬ (T j ≤ T (if j < 2 then j + 2 else j - 2) ∧ T (if j % 2 = 0 then j + 1 else j - 1) ≤ T j)) → fw_Go X l mX6_two (fun r σ => r = some (.int R) ∧ ∃ I', σ = (fw_sh, I') ∧ zm_at s I' ∧ zf_lo I I') 101 0 0 [some (.ref 38), some (.int (nI p)), some (.int (nI q)), some (.int (nI x)), some (.int (nI y)), some (.int 0), some (.int (nI k))] [] (fw_sh, I1) := by
      intro I1 hI hf
      have fin : ∀ v, v = R → some (Value.int v) = some (.int R) ∧ ∃ I', (fw_sh, I1) = (fw_sh, I') ∧ zm_at s I' ∧ zf_lo I I' := fun v hv => ⟨by rw [hv], I1, rfl, (hf.h53 (w := 1)).m h, (hf.h53 (w := 1)).lo⟩
      refine zl_down (N := 4) (by
        intro hj
        refine fw_from [101] 100 57 ok_X6_two ⟨_, wc_X6_two⟩ rfl ?_
        refine zq_le 4 4 rfl rfl (fun _ => ?_) (fun h => absurd h (by omega))
        refine fin _ ?_
        have a0 := hj 0 (by omega)
        have a1 := hj 1 (by omega)
        have a2 := hj 2 (by omega)
        have a3 := hj 3 (by omega)
        simp only [show (0 : Nat) < 2 by omega, show (1 : Nat) < 2 by omega, show ¬ (2 : Nat) < 2 by omega, show ¬ (3 : Nat) < 2 by omega, show (0 : Nat) % 2 = 0 by omega, show ¬ (1 : Nat) % 2 = 0 by omega, show (2 : Nat) % 2 = 0 by omega, show ¬ (3 : Nat) % 2 = 0 by omega, if_true, if_false] at a0 a1 a2 a3
        rw [hR, if_neg a0, if_neg a1, if_neg a2, if_neg a3]) (fun k hk ih => by
        intro hj
        have kx := zb_kx k hk
        have l2 : (if k < 2 then k + 2 else k - 2) < 4 := by split <;> omega
        have l1 : (if k % 2 = 0 then k + 1 else k - 1) < 4 := by split <;> omega
        have nx : ¬ (T k ≤ T (if k < 2 then k + 2 else k - 2) ∧ T (if k % 2 = 0 then k + 1 else k - 1) ≤ T k) → fw_Go X l mX6_two (fun r σ => r = some (.int R) ∧ ∃ I', σ = (fw_sh, I') ∧ zm_at s I' ∧ zf_lo I I') 101 0 0 [some (.ref 38), some (.int (nI p)), some (.int (nI q)), some (.int (nI x)), some (.int (nI y)), some (.int 0), some (.int (nI (k + 1)))] [] (fw_sh, I1) := fun hn => ih (fun j hj2 => by
          by_cases e : j = k
          · subst e; exact hn
          · exact hj j (by omega))
        have r2 : I1 53 (nI k ^^^ 2).toNatClampNeg = nI (zr_f (T (if k < 2 then k + 2 else k - 2))) := by rw [kx.1]; exact zq_rd (hI _ l2)
        have r1 : I1 53 (nI k ^^^ 1).toNatClampNeg = nI (zr_f (T (if k % 2 = 0 then k + 1 else k - 1))) := by rw [kx.2]; exact zq_rd (hI _ l1)
        have r0 : I1 53 (nI k).toNatClampNeg = nI (zr_f (T k)) := zq_rd (hI _ hk)
        have b0 := hT2 k
        have b1 := hT2 (if k % 2 = 0 then k + 1 else k - 1)
        have b2 := hT2 (if k < 2 then k + 2 else k - 2)
        refine fw_from [101] 100 57 ok_X6_two ⟨_, wc_X6_two⟩ rfl ?_
        refine zq_le 4 k rfl rfl (fun h => absurd h (by omega)) (fun _ => ?_)
        refine And.intro (fw_in1 _ 4 l2 kx.1) ?_
        refine And.intro (fw_in1 k 4 hk) ?_
        refine zq_lt (zr_f (T (if k < 2 then k + 2 else k - 2))) (zr_f (T k)) r2 r0 (fun c1 => ?_) (fun c1 => ?_)
        · exact fw_sub (nx (fun z => by have := (le_iff _ _).mpr z.1; omega)) (by simp only [nI_1]) rfl
        refine And.intro (fw_in1 _ 4 l1 kx.2) ?_
        refine And.intro (fw_in1 k 4 hk) ?_
        refine zq_lt (zr_f (T k)) (zr_f (T (if k % 2 = 0 then k + 1 else k - 1))) r0 r1 (fun c2 => ?_) (fun c2 => ?_)
        · exact fw_sub (nx (fun z => by have := (le_iff _ _).mpr z.2; omega)) (by simp only [nI_1]) rfl
        have c1 := (le_iff _ _).mp c1
        have c2 := (le_iff _ _).mp c2
        refine And.intro (by decide) ?_
        refine And.intro (by decide) ?_
        refine fin _ ?_
        rcases (show k = 0 ∨ k = 1 ∨ k = 2 ∨ k = 3 by omega) with rfl | rfl | rfl | rfl
        · simp only [show (0 : Nat) < 2 by omega, show (0 : Nat) % 2 = 0 by omega, if_true] at c1 c2
          rw [hR, if_pos ⟨c1, c2⟩]; rfl
        · have a0 := hj 0 (by omega)
          simp only [show (0 : Nat) < 2 by omega, show (1 : Nat) < 2 by omega, show (0 : Nat) % 2 = 0 by omega, show ¬ (1 : Nat) % 2 = 0 by omega, if_true, if_false] at a0 c1 c2
          rw [hR, if_neg a0, if_pos ⟨c1, c2⟩]; rfl
        · have a0 := hj 0 (by omega)
          have a1 := hj 1 (by omega)
          simp only [show (0 : Nat) < 2 by omega, show (1 : Nat) < 2 by omega, show ¬ (2 : Nat) < 2 by omega, show (0 : Nat) % 2 = 0 by omega, show ¬ (1 : Nat) % 2 = 0 by omega, show (2 : Nat) % 2 = 0 by omega, if_true, if_false] at a0 a1 c1 c2
          rw [hR, if_neg a0, if_neg a1, if_pos ⟨c1, c2⟩]; rfl
        · have a0 := hj 0 (by omega)
          have a1 := hj 1 (by omega)
          have a2 := hj 2 (by omega)
          simp only [show (0 : Nat) < 2 by omega, show (1 : Nat) < 2 by omega, show ¬ (2 : Nat) < 2 by omega, show ¬ (3 : Nat) < 2 by omega, show (0 : Nat) % 2 = 0 by omega, show ¬ (1 : Nat) % 2 = 0 by omega, show (2 : Nat) % 2 = 0 by omega, show ¬ (3 : Nat) % 2 = 0 by omega, if_true, if_false] at a0 a1 a2 c1 c2
          rw [hR, if_neg a0, if_neg a1, if_neg a2, if_pos ⟨c1, c2⟩]; rfl)
    have loop1 := zl_down (N := 4) (G := fun k => ∀ I1, (∀ j, j < k → I1 53 j = nI (zr_f (T j))) → zf_fr [51, 52, 53] I I1 → fw_Go X l mX6_two (fun r σ => r = some (.int R) ∧ ∃ I', σ = (fw_sh, I') ∧ zm_at s I' ∧ zf_lo I I') 54 0 0 [some (.ref 38), some (.int (nI p)), some (.int (nI q)), some (.int (nI x)), some (.int (nI y)), some (.int 0), some (.int (nI k))] [] (fw_sh, I1)) (by
      intro I1 hI hf
      refine fw_from [54, 101] 100 28 ok_X6_two ⟨_, wc_X6_two⟩ rfl ?_
      refine zq_le 4 4 rfl rfl (fun _ => ?_) (fun h => absurd h (by omega))
      exact fw_sub (loop2 I1 hI hf 0 (by omega) (fun j hj => absurd hj (by omega))) (by rfl) rfl) (fun k hk ih => by
      intro I1 hI hf
      have hl1 : zm_l 6 s.1 I1 := hl.zh (hf.h53 (w := 1))
      have k2 : nI k / 2 = nI (k / 2) := pk_div (d := 2) (by omega) (by omega) (by omega)
      have kr : nI k - nI k / 2 * 2 = nI (k % 2) := pk_rem (d := 2) (by omega) (by omega) (by omega)
      have hLx := zh_Lx (L := s.1) (p := p) (q := q) (u := k / 2) (v := k % 2) hP hp hq h7 (by omega) (by omega)
      have c1 := rt_stRolled (X := X) (l := l) hl1 (L' := zh_L s.1 (zh_k (k / 2) p) (zh_k (k % 2) q)) (x := I1 38 8 ^^^ ((nI k / 2) <<< (nI p &&& 31)) ^^^ ((nI k - nI k / 2 * 2) <<< (nI q &&& 31))) hLx.1 hLx.2.1 (by rw [hl1.2.2.2.2.1, kr, k2]; exact hLx.2.2) hx hy
      have eT : zb_far (zl_op (zh_L s.1 (zh_k (k / 2) p) (zh_k (k % 2) q)) (zl_ow s.1 6)) x y = T k := by rw [hT]; rfl
      rw [eT] at c1
      refine fw_from [54, 101] 100 28 ok_X6_two ⟨_, wc_X6_two⟩ rfl ?_
      refine zq_le 4 k rfl rfl (fun h => absurd h (by omega)) (fun _ => ?_)
      refine And.intro (by decide) ?_
      refine And.intro (by decide) ?_
      refine ⟨_, c1, ?_⟩
      rintro v σ' ⟨rfl, I2, rfl, hf2⟩
      refine And.intro (fw_in1 k 4 hk) ?_
      refine fw_sub (ih (fw_up I2 53 k (nI (zr_f (T k)))) (fun j hj => ?_) ((hf.tr (hf2.mono (by simp))).up (by simp))) (by simp only [nI_1]) (by rw [nI_clamp (by omega)])
      by_cases e : j = k
      · subst e; rw [fw_up_at]
      · rw [fw_up_k e, hf2 53 (by simp)]; exact hI j (by omega))
    refine fw_from [54] 100 19 ok_X6_two ⟨_, wc_X6_two⟩ rfl ?_
    refine And.intro (fun _ => ?_) (fun z => absurd rfl z)
    exact fw_sub (loop1 0 (by omega) I (fun j hj => absurd hj (by omega)) zf_fr.rf) (by rfl) rfl
  · rw [if_neg g]
    exact fw_sub2 (no (fun z => g (by rw [Bool.and_eq_true, Bool.and_eq_true (zb_in a 36 && zb_in b 36)] at z; exact z.2.1))) (by rfl) (by rfl) rfl
end zR8
