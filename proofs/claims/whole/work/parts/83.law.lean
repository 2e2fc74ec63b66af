/-! The law's walk. -/
def lz_Q (r : Option Value) (_ : fw_St) : Prop := r = some (.int 1)
theorem lz_own : fw_nth fw_cn (fw_ow mL_law) = some (fw_y mL_law).cls := by decide +kernel
section zLaw
variable {X : Nat × (Nat → Int32)} {l : Launch} {I : Nat → Nat → Int32} {s : zS} {j : Nat}
theorem fw_fromL {Q : Option Value → fw_St → Prop} {k n pc : Nat} {lo : fw_Lo} {st : List Value} {σ : fw_St} (cuts : List Nat) (f : Nat) (i : Nat) (h0 : fw_pc (fw_cd mL_law) i = some pc) (h : fw_run X l mL_law Q cuts f true i k n lo st σ) : fw_Go X l mL_law Q pc k n lo st σ :=
  fw_run_sound fw_mt_ok lz_own ok_L_law cuts f true i k n lo st σ pc h0 h
theorem zm_hi {I' : Nat → Nat → Int32} (h : zm_at s I) (hf : zf_hi I I') : zm_at s I' := zm_keep h (fun a k _ _ _ _ h38 _ _ => by rw [hf a h38])
theorem zc_lo {I' : Nat → Nat → Int32} (h : zc_at s I) (hf : zf_lo I I') : zc_at s I' := zc_keep h (fun c hc => hf c (by omega))
theorem lz_in (hj : 5 * j + 5 ≤ X.1) (hL : X.1 ≤ 2560) (d : Nat) (hd : d < 5) {x : Int32} (hx : x = nI (5 * j) + nI d) : fw_in x X.1 := fw_in1 (5 * j + d) X.1 (by omega) (by rw [hx, nI_add]) (by omega)
set_option maxRecDepth 30000 in
theorem lz_letter (h : zc_at s I) (hm : zm_at s I) (hj : 5 * j + 5 ≤ X.1) (hL : X.1 ≤ 2560) (nx : ∀ s' I', zc_at s' I' → zm_at s' I' → fw_Go X l mL_law lz_Q 1258 55 1414 [some (.ref 2000), some (.ref 0), some (.ref 38), some (.int (nI (5 * j)))] [] (fw_sh, I')) : fw_Go X l mL_law lz_Q 196 55 1414 [some (.ref 2000), some (.ref 0), some (.ref 38), some (.int (nI (5 * j)))] [] (fw_sh, I) := by
  refine fw_fromL [1258] 100 22 rfl ?_
  refine And.intro (lz_in hj hL 1 (by omega) rfl) ?_
  refine ⟨_, cs_letter (X := X) (l := l) h _, ?_⟩
  rintro v σ' ⟨rfl, I1, rfl, h1, hf1⟩
  refine And.intro (lz_in hj hL 1 (by omega) rfl) ?_
  refine ⟨_, cm_letter (X := X) (l := l) (zm_hi hm hf1) _, ?_⟩
  rintro v σ' ⟨rfl, I2, rfl, h2, hf2⟩
  refine And.intro (fun _ => ?_) (fun z => absurd rfl z)
  exact fw_sub (nx _ I2 (zc_lo h1 hf2) h2) (by rfl) rfl
set_option maxRecDepth 30000 in
theorem lz_land (h : zc_at s I) (hm : zm_at s I) (hj : 5 * j + 5 ≤ X.1) (hL : X.1 ≤ 2560) (nx : ∀ s' I', zc_at s' I' → zm_at s' I' → fw_Go X l mL_law lz_Q 1258 55 1414 [some (.ref 2000), some (.ref 0), some (.ref 38), some (.int (nI (5 * j)))] [] (fw_sh, I')) : fw_Go X l mL_law lz_Q 219 55 1414 [some (.ref 2000), some (.ref 0), some (.ref 38), some (.int (nI (5 * j)))] [] (fw_sh, I) := by
  refine fw_fromL [1258] 100 39 rfl ?_
  refine ⟨_, cs_land (X := X) (l := l) h, ?_⟩
  rintro v σ' ⟨rfl, I1, rfl, h1, hf1⟩
  refine ⟨_, cm_land (X := X) (l := l) (zm_hi hm hf1), ?_⟩
  rintro v σ' ⟨rfl, I2, rfl, h2, hf2⟩
  refine And.intro (fun _ => ?_) (fun z => absurd rfl z)
  exact fw_sub (nx _ I2 (zc_lo h1 hf2) h2) (by rfl) rfl
set_option maxRecDepth 30000 in
theorem lz_yard (h : zc_at s I) (hm : zm_at s I) (hj : 5 * j + 5 ≤ X.1) (hL : X.1 ≤ 2560) (nx : ∀ s' I', zc_at s' I' → zm_at s' I' → fw_Go X l mL_law lz_Q 1258 55 1414 [some (.ref 2000), some (.ref 0), some (.ref 38), some (.int (nI (5 * j)))] [] (fw_sh, I')) : fw_Go X l mL_law lz_Q 232 55 1414 [some (.ref 2000), some (.ref 0), some (.ref 38), some (.int (nI (5 * j)))] [] (fw_sh, I) := by
  refine fw_fromL [1258] 100 46 rfl ?_
  refine And.intro (lz_in hj hL 1 (by omega) rfl) ?_
  refine And.intro (lz_in hj hL 2 (by omega) rfl) ?_
  refine ⟨_, cs_yard (X := X) (l := l) h _ _, ?_⟩
  rintro v σ' ⟨rfl, I1, rfl, h1, hf1⟩
  refine And.intro (lz_in hj hL 1 (by omega) rfl) ?_
  refine And.intro (lz_in hj hL 2 (by omega) rfl) ?_
  refine ⟨_, cm_yard (X := X) (l := l) (zm_hi hm hf1) _ _, ?_⟩
  rintro v σ' ⟨rfl, I2, rfl, h2, hf2⟩
  refine And.intro (fun _ => ?_) (fun z => absurd rfl z)
  exact fw_sub (nx _ I2 (zc_lo h1 hf2) h2) (by rfl) rfl
set_option maxRecDepth 30000 in
theorem lz_piece (h : zc_at s I) (hm : zm_at s I) (hj : 5 * j + 5 ≤ X.1) (hL : X.1 ≤ 2560) (nx : ∀ s' I', zc_at s' I' → zm_at s' I' → fw_Go X l mL_law lz_Q 1258 55 1414 [some (.ref 2000), some (.ref 0), some (.ref 38), some (.int (nI (5 * j)))] [] (fw_sh, I')) : fw_Go X l mL_law lz_Q 265 55 1414 [some (.ref 2000), some (.ref 0), some (.ref 38), some (.int (nI (5 * j)))] [] (fw_sh, I) := by
  refine fw_fromL [1258] 100 73 rfl ?_
  refine And.intro (lz_in hj hL 1 (by omega) rfl) ?_
  refine And.intro (lz_in hj hL 2 (by omega) rfl) ?_
  refine ⟨_, cs_piece (X := X) (l := l) h _ _, ?_⟩
  rintro v σ' ⟨rfl, I1, rfl, h1, hf1⟩
  refine And.intro (lz_in hj hL 1 (by omega) rfl) ?_
  refine And.intro (lz_in hj hL 2 (by omega) rfl) ?_
  refine ⟨_, cm_piece (X := X) (l := l) (zm_hi hm hf1) _ _, ?_⟩
  rintro v σ' ⟨rfl, I2, rfl, h2, hf2⟩
  refine And.intro (fun _ => ?_) (fun z => absurd rfl z)
  exact fw_sub (nx _ I2 (zc_lo h1 hf2) h2) (by rfl) rfl
set_option maxRecDepth 30000 in
theorem lz_grows (h : zc_at s I) (hm : zm_at s I) (hj : 5 * j + 5 ≤ X.1) (hL : X.1 ≤ 2560) (nx : ∀ s' I', zc_at s' I' → zm_at s' I' → fw_Go X l mL_law lz_Q 1258 55 1414 [some (.ref 2000), some (.ref 0), some (.ref 38), some (.int (nI (5 * j)))] [] (fw_sh, I')) : fw_Go X l mL_law lz_Q 298 55 1414 [some (.ref 2000), some (.ref 0), some (.ref 38), some (.int (nI (5 * j)))] [] (fw_sh, I) := by
  refine fw_fromL [1258] 100 100 rfl ?_
  refine And.intro (lz_in hj hL 1 (by omega) rfl) ?_
  refine And.intro (lz_in hj hL 2 (by omega) rfl) ?_
  refine ⟨_, cs_grows (X := X) (l := l) h _ _, ?_⟩
  rintro v σ' ⟨rfl, I1, rfl, h1, hf1⟩
  refine And.intro (lz_in hj hL 1 (by omega) rfl) ?_
  refine And.intro (lz_in hj hL 2 (by omega) rfl) ?_
  refine ⟨_, cm_grows (X := X) (l := l) (zm_hi hm hf1) _ _, ?_⟩
  rintro v σ' ⟨rfl, I2, rfl, h2, hf2⟩
  refine And.intro (fun _ => ?_) (fun z => absurd rfl z)
  exact fw_sub (nx _ I2 (zc_lo h1 hf2) h2) (by rfl) rfl
set_option maxRecDepth 30000 in
theorem lz_makes (h : zc_at s I) (hm : zm_at s I) (hj : 5 * j + 5 ≤ X.1) (hL : X.1 ≤ 2560) (nx : ∀ s' I', zc_at s' I' → zm_at s' I' → fw_Go X l mL_law lz_Q 1258 55 1414 [some (.ref 2000), some (.ref 0), some (.ref 38), some (.int (nI (5 * j)))] [] (fw_sh, I')) : fw_Go X l mL_law lz_Q 331 55 1414 [some (.ref 2000), some (.ref 0), some (.ref 38), some (.int (nI (5 * j)))] [] (fw_sh, I) := by
  refine fw_fromL [1258] 100 127 rfl ?_
  refine And.intro (lz_in hj hL 1 (by omega) rfl) ?_
  refine And.intro (lz_in hj hL 2 (by omega) rfl) ?_
  refine ⟨_, cs_makes (X := X) (l := l) h _ _, ?_⟩
  rintro v σ' ⟨rfl, I1, rfl, h1, hf1⟩
  refine And.intro (lz_in hj hL 1 (by omega) rfl) ?_
  refine And.intro (lz_in hj hL 2 (by omega) rfl) ?_
  refine ⟨_, cm_makes (X := X) (l := l) (zm_hi hm hf1) _ _, ?_⟩
  rintro v σ' ⟨rfl, I2, rfl, h2, hf2⟩
  refine And.intro (fun _ => ?_) (fun z => absurd rfl z)
  exact fw_sub (nx _ I2 (zc_lo h1 hf2) h2) (by rfl) rfl
set_option maxRecDepth 30000 in
theorem lz_rolls (h : zc_at s I) (hm : zm_at s I) (hj : 5 * j + 5 ≤ X.1) (hL : X.1 ≤ 2560) (nx : ∀ s' I', zc_at s' I' → zm_at s' I' → fw_Go X l mL_law lz_Q 1258 55 1414 [some (.ref 2000), some (.ref 0), some (.ref 38), some (.int (nI (5 * j)))] [] (fw_sh, I')) : fw_Go X l mL_law lz_Q 364 55 1414 [some (.ref 2000), some (.ref 0), some (.ref 38), some (.int (nI (5 * j)))] [] (fw_sh, I) := by
  refine fw_fromL [1258] 100 154 rfl ?_
  refine And.intro (lz_in hj hL 1 (by omega) rfl) ?_
  refine ⟨_, cs_rolls (X := X) (l := l) h _, ?_⟩
  rintro v σ' ⟨rfl, I1, rfl, h1, hf1⟩
  refine And.intro (lz_in hj hL 1 (by omega) rfl) ?_
  refine ⟨_, cm_rolls (X := X) (l := l) (zm_hi hm hf1) _, ?_⟩
  rintro v σ' ⟨rfl, I2, rfl, h2, hf2⟩
  refine And.intro (fun _ => ?_) (fun z => absurd rfl z)
  exact fw_sub (nx _ I2 (zc_lo h1 hf2) h2) (by rfl) rfl
set_option maxRecDepth 30000 in
theorem lz_treads (h : zc_at s I) (hm : zm_at s I) (hj : 5 * j + 5 ≤ X.1) (hL : X.1 ≤ 2560) (nx : ∀ s' I', zc_at s' I' → zm_at s' I' → fw_Go X l mL_law lz_Q 1258 55 1414 [some (.ref 2000), some (.ref 0), some (.ref 38), some (.int (nI (5 * j)))] [] (fw_sh, I')) : fw_Go X l mL_law lz_Q 387 55 1414 [some (.ref 2000), some (.ref 0), some (.ref 38), some (.int (nI (5 * j)))] [] (fw_sh, I) := by
  refine fw_fromL [1258] 100 171 rfl ?_
  refine And.intro (lz_in hj hL 1 (by omega) rfl) ?_
  refine ⟨_, cs_treads (X := X) (l := l) h _, ?_⟩
  rintro v σ' ⟨rfl, I1, rfl, h1, hf1⟩
  refine And.intro (lz_in hj hL 1 (by omega) rfl) ?_
  refine ⟨_, cm_treads (X := X) (l := l) (zm_hi hm hf1) _, ?_⟩
  rintro v σ' ⟨rfl, I2, rfl, h2, hf2⟩
  refine And.intro (fun _ => ?_) (fun z => absurd rfl z)
  exact fw_sub (nx _ I2 (zc_lo h1 hf2) h2) (by rfl) rfl
set_option maxRecDepth 30000 in
theorem lz_turn (h : zc_at s I) (hm : zm_at s I) (hj : 5 * j + 5 ≤ X.1) (hL : X.1 ≤ 2560) (nx : ∀ s' I', zc_at s' I' → zm_at s' I' → fw_Go X l mL_law lz_Q 1258 55 1414 [some (.ref 2000), some (.ref 0), some (.ref 38), some (.int (nI (5 * j)))] [] (fw_sh, I')) : fw_Go X l mL_law lz_Q 410 55 1414 [some (.ref 2000), some (.ref 0), some (.ref 38), some (.int (nI (5 * j)))] [] (fw_sh, I) := by
  refine fw_fromL [1258] 100 188 rfl ?_
  refine And.intro (lz_in hj hL 1 (by omega) rfl) ?_
  refine And.intro (lz_in hj hL 2 (by omega) rfl) ?_
  refine And.intro (lz_in hj hL 3 (by omega) rfl) ?_
  refine ⟨_, cs_turn (X := X) (l := l) h _ _ _, ?_⟩
  rintro v σ' ⟨rfl, I1, rfl, h1, hf1⟩
  refine And.intro (lz_in hj hL 1 (by omega) rfl) ?_
  refine And.intro (lz_in hj hL 2 (by omega) rfl) ?_
  refine And.intro (lz_in hj hL 3 (by omega) rfl) ?_
  refine ⟨_, cm_turn (X := X) (l := l) (zm_hi hm hf1) _ _ _, ?_⟩
  rintro v σ' ⟨rfl, I2, rfl, h2, hf2⟩
  refine And.intro (fun _ => ?_) (fun z => absurd rfl z)
  exact fw_sub (nx _ I2 (zc_lo h1 hf2) h2) (by rfl) rfl
set_option maxRecDepth 30000 in
theorem lz_days (h : zc_at s I) (hm : zm_at s I) (hj : 5 * j + 5 ≤ X.1) (hL : X.1 ≤ 2560) (nx : ∀ s' I', zc_at s' I' → zm_at s' I' → fw_Go X l mL_law lz_Q 1258 55 1414 [some (.ref 2000), some (.ref 0), some (.ref 38), some (.int (nI (5 * j)))] [] (fw_sh, I')) : fw_Go X l mL_law lz_Q 453 55 1414 [some (.ref 2000), some (.ref 0), some (.ref 38), some (.int (nI (5 * j)))] [] (fw_sh, I) := by
  refine fw_fromL [1258] 100 225 rfl ?_
  refine And.intro (lz_in hj hL 1 (by omega) rfl) ?_
  refine ⟨_, cs_days (X := X) (l := l) h _, ?_⟩
  rintro v σ' ⟨rfl, I1, rfl, h1, hf1⟩
  refine And.intro (lz_in hj hL 1 (by omega) rfl) ?_
  refine ⟨_, cm_days (X := X) (l := l) (zm_hi hm hf1) _, ?_⟩
  rintro v σ' ⟨rfl, I2, rfl, h2, hf2⟩
  refine And.intro (fun _ => ?_) (fun z => absurd rfl z)
  exact fw_sub (nx _ I2 (zc_lo h1 hf2) h2) (by rfl) rfl
set_option maxRecDepth 30000 in
theorem lz_behind (h : zc_at s I) (hm : zm_at s I) (hj : 5 * j + 5 ≤ X.1) (hL : X.1 ≤ 2560) (nx : ∀ s' I', zc_at s' I' → zm_at s' I' → fw_Go X l mL_law lz_Q 1258 55 1414 [some (.ref 2000), some (.ref 0), some (.ref 38), some (.int (nI (5 * j)))] [] (fw_sh, I')) : fw_Go X l mL_law lz_Q 476 55 1414 [some (.ref 2000), some (.ref 0), some (.ref 38), some (.int (nI (5 * j)))] [] (fw_sh, I) := by
  refine fw_fromL [1258] 100 242 rfl ?_
  refine And.intro (lz_in hj hL 1 (by omega) rfl) ?_
  refine And.intro (lz_in hj hL 2 (by omega) rfl) ?_
  refine ⟨_, cs_behind (X := X) (l := l) h _ _, ?_⟩
  rintro v σ' ⟨rfl, I1, rfl, h1, hf1⟩
  refine And.intro (lz_in hj hL 1 (by omega) rfl) ?_
  refine And.intro (lz_in hj hL 2 (by omega) rfl) ?_
  refine ⟨_, cm_behind (X := X) (l := l) (zm_hi hm hf1) _ _, ?_⟩
  rintro v σ' ⟨rfl, I2, rfl, h2, hf2⟩
  refine And.intro (fun _ => ?_) (fun z => absurd rfl z)
  exact fw_sub (nx _ I2 (zc_lo h1 hf2) h2) (by rfl) rfl
set_option maxRecDepth 30000 in
theorem lz_thistles (h : zc_at s I) (hm : zm_at s I) (hj : 5 * j + 5 ≤ X.1) (hL : X.1 ≤ 2560) (nx : ∀ s' I', zc_at s' I' → zm_at s' I' → fw_Go X l mL_law lz_Q 1258 55 1414 [some (.ref 2000), some (.ref 0), some (.ref 38), some (.int (nI (5 * j)))] [] (fw_sh, I')) : fw_Go X l mL_law lz_Q 509 55 1414 [some (.ref 2000), some (.ref 0), some (.ref 38), some (.int (nI (5 * j)))] [] (fw_sh, I) := by
  refine fw_fromL [1258] 100 269 rfl ?_
  refine And.intro (lz_in hj hL 1 (by omega) rfl) ?_
  refine And.intro (lz_in hj hL 2 (by omega) rfl) ?_
  refine ⟨_, cs_thist (X := X) (l := l) h _ _, ?_⟩
  rintro v σ' ⟨rfl, I1, rfl, h1, hf1⟩
  refine And.intro (lz_in hj hL 1 (by omega) rfl) ?_
  refine And.intro (lz_in hj hL 2 (by omega) rfl) ?_
  refine ⟨_, cm_thist (X := X) (l := l) (zm_hi hm hf1) _ _, ?_⟩
  rintro v σ' ⟨rfl, I2, rfl, h2, hf2⟩
  refine And.intro (fun _ => ?_) (fun z => absurd rfl z)
  exact fw_sub (nx _ I2 (zc_lo h1 hf2) h2) (by rfl) rfl
set_option maxRecDepth 30000 in
theorem lz_firstThistle (h : zc_at s I) (hm : zm_at s I) (hj : 5 * j + 5 ≤ X.1) (hL : X.1 ≤ 2560) (nx : ∀ s' I', zc_at s' I' → zm_at s' I' → fw_Go X l mL_law lz_Q 1258 55 1414 [some (.ref 2000), some (.ref 0), some (.ref 38), some (.int (nI (5 * j)))] [] (fw_sh, I')) : fw_Go X l mL_law lz_Q 542 55 1414 [some (.ref 2000), some (.ref 0), some (.ref 38), some (.int (nI (5 * j)))] [] (fw_sh, I) := by
  refine fw_fromL [1258] 100 296 rfl ?_
  refine And.intro (lz_in hj hL 1 (by omega) rfl) ?_
  refine ⟨_, cs_firstT (X := X) (l := l) h _, ?_⟩
  rintro v σ' ⟨rfl, I1, rfl, h1, hf1⟩
  refine And.intro (lz_in hj hL 1 (by omega) rfl) ?_
  refine ⟨_, cm_firstT (X := X) (l := l) (zm_hi hm hf1) _, ?_⟩
  rintro v σ' ⟨rfl, I2, rfl, h2, hf2⟩
  refine And.intro (fun _ => ?_) (fun z => absurd rfl z)
  exact fw_sub (nx _ I2 (zc_lo h1 hf2) h2) (by rfl) rfl
set_option maxRecDepth 30000 in
theorem lz_longest (h : zc_at s I) (hm : zm_at s I) (hj : 5 * j + 5 ≤ X.1) (hL : X.1 ≤ 2560) (nx : ∀ s' I', zc_at s' I' → zm_at s' I' → fw_Go X l mL_law lz_Q 1258 55 1414 [some (.ref 2000), some (.ref 0), some (.ref 38), some (.int (nI (5 * j)))] [] (fw_sh, I')) : fw_Go X l mL_law lz_Q 565 55 1414 [some (.ref 2000), some (.ref 0), some (.ref 38), some (.int (nI (5 * j)))] [] (fw_sh, I) := by
  refine fw_fromL [1258] 100 313 rfl ?_
  refine ⟨_, cs_longest (X := X) (l := l) h, ?_⟩
  rintro v σ' ⟨rfl, I1, rfl, h1, hf1⟩
  refine ⟨_, cm_longest (X := X) (l := l) (zm_hi hm hf1), ?_⟩
  rintro v σ' ⟨rfl, I2, rfl, h2, hf2⟩
  refine And.intro (fun _ => ?_) (fun z => absurd rfl z)
  exact fw_sub (nx _ I2 (zc_lo h1 hf2) h2) (by rfl) rfl
set_option maxRecDepth 30000 in
theorem lz_steps (h : zc_at s I) (hm : zm_at s I) (hj : 5 * j + 5 ≤ X.1) (hL : X.1 ≤ 2560) (nx : ∀ s' I', zc_at s' I' → zm_at s' I' → fw_Go X l mL_law lz_Q 1258 55 1414 [some (.ref 2000), some (.ref 0), some (.ref 38), some (.int (nI (5 * j)))] [] (fw_sh, I')) : fw_Go X l mL_law lz_Q 578 55 1414 [some (.ref 2000), some (.ref 0), some (.ref 38), some (.int (nI (5 * j)))] [] (fw_sh, I) := by
  refine fw_fromL [1258] 100 320 rfl ?_
  refine And.intro (lz_in hj hL 1 (by omega) rfl) ?_
  refine And.intro (lz_in hj hL 2 (by omega) rfl) ?_
  refine ⟨_, cs_steps (X := X) (l := l) h _ _, ?_⟩
  rintro v σ' ⟨rfl, I1, rfl, h1, hf1⟩
  refine And.intro (lz_in hj hL 1 (by omega) rfl) ?_
  refine And.intro (lz_in hj hL 2 (by omega) rfl) ?_
  refine ⟨_, cm_steps (X := X) (l := l) (zm_hi hm hf1) _ _, ?_⟩
  rintro v σ' ⟨rfl, I2, rfl, h2, hf2⟩
  refine And.intro (fun _ => ?_) (fun z => absurd rfl z)
  exact fw_sub (nx _ I2 (zc_lo h1 hf2) h2) (by rfl) rfl
set_option maxRecDepth 30000 in
theorem lz_reached (h : zc_at s I) (hm : zm_at s I) (hj : 5 * j + 5 ≤ X.1) (hL : X.1 ≤ 2560) (nx : ∀ s' I', zc_at s' I' → zm_at s' I' → fw_Go X l mL_law lz_Q 1258 55 1414 [some (.ref 2000), some (.ref 0), some (.ref 38), some (.int (nI (5 * j)))] [] (fw_sh, I')) : fw_Go X l mL_law lz_Q 611 55 1414 [some (.ref 2000), some (.ref 0), some (.ref 38), some (.int (nI (5 * j)))] [] (fw_sh, I) := by
  refine fw_fromL [1258] 100 347 rfl ?_
  refine And.intro (lz_in hj hL 1 (by omega) rfl) ?_
  refine And.intro (lz_in hj hL 2 (by omega) rfl) ?_
  refine ⟨_, cs_reached (X := X) (l := l) h _ _, ?_⟩
  rintro v σ' ⟨rfl, I1, rfl, h1, hf1⟩
  refine And.intro (lz_in hj hL 1 (by omega) rfl) ?_
  refine And.intro (lz_in hj hL 2 (by omega) rfl) ?_
  refine ⟨_, cm_reached (X := X) (l := l) (zm_hi hm hf1) _ _, ?_⟩
  rintro v σ' ⟨rfl, I2, rfl, h2, hf2⟩
  refine And.intro (fun _ => ?_) (fun z => absurd rfl z)
  exact fw_sub (nx _ I2 (zc_lo h1 hf2) h2) (by rfl) rfl
set_option maxRecDepth 30000 in
theorem lz_cut (h : zc_at s I) (hm : zm_at s I) (hj : 5 * j + 5 ≤ X.1) (hL : X.1 ≤ 2560) (nx : ∀ s' I', zc_at s' I' → zm_at s' I' → fw_Go X l mL_law lz_Q 1258 55 1414 [some (.ref 2000), some (.ref 0), some (.ref 38), some (.int (nI (5 * j)))] [] (fw_sh, I')) : fw_Go X l mL_law lz_Q 644 55 1414 [some (.ref 2000), some (.ref 0), some (.ref 38), some (.int (nI (5 * j)))] [] (fw_sh, I) := by
  refine fw_fromL [1258] 100 374 rfl ?_
  refine And.intro (lz_in hj hL 1 (by omega) rfl) ?_
  refine And.intro (lz_in hj hL 2 (by omega) rfl) ?_
  refine ⟨_, cs_cut (X := X) (l := l) h _ _, ?_⟩
  rintro v σ' ⟨rfl, I1, rfl, h1, hf1⟩
  refine And.intro (lz_in hj hL 1 (by omega) rfl) ?_
  refine And.intro (lz_in hj hL 2 (by omega) rfl) ?_
  refine ⟨_, cm_cut (X := X) (l := l) (zm_hi hm hf1) _ _, ?_⟩
  rintro v σ' ⟨rfl, I2, rfl, h2, hf2⟩
  refine And.intro (fun _ => ?_) (fun z => absurd rfl z)
  exact fw_sub (nx _ I2 (zc_lo h1 hf2) h2) (by rfl) rfl
set_option maxRecDepth 30000 in
theorem lz_opens (h : zc_at s I) (hm : zm_at s I) (hj : 5 * j + 5 ≤ X.1) (hL : X.1 ≤ 2560) (nx : ∀ s' I', zc_at s' I' → zm_at s' I' → fw_Go X l mL_law lz_Q 1258 55 1414 [some (.ref 2000), some (.ref 0), some (.ref 38), some (.int (nI (5 * j)))] [] (fw_sh, I')) : fw_Go X l mL_law lz_Q 677 55 1414 [some (.ref 2000), some (.ref 0), some (.ref 38), some (.int (nI (5 * j)))] [] (fw_sh, I) := by
  refine fw_fromL [1258] 100 401 rfl ?_
  refine And.intro (lz_in hj hL 1 (by omega) rfl) ?_
  refine And.intro (lz_in hj hL 2 (by omega) rfl) ?_
  refine ⟨_, cs_opens (X := X) (l := l) h _ _, ?_⟩
  rintro v σ' ⟨rfl, I1, rfl, h1, hf1⟩
  refine And.intro (lz_in hj hL 1 (by omega) rfl) ?_
  refine And.intro (lz_in hj hL 2 (by omega) rfl) ?_
  refine ⟨_, cm_opens (X := X) (l := l) (zm_hi hm hf1) _ _, ?_⟩
  rintro v σ' ⟨rfl, I2, rfl, h2, hf2⟩
  refine And.intro (fun _ => ?_) (fun z => absurd rfl z)
  exact fw_sub (nx _ I2 (zc_lo h1 hf2) h2) (by rfl) rfl
set_option maxRecDepth 30000 in
theorem lz_putAway (h : zc_at s I) (hm : zm_at s I) (hj : 5 * j + 5 ≤ X.1) (hL : X.1 ≤ 2560) (nx : ∀ s' I', zc_at s' I' → zm_at s' I' → fw_Go X l mL_law lz_Q 1258 55 1414 [some (.ref 2000), some (.ref 0), some (.ref 38), some (.int (nI (5 * j)))] [] (fw_sh, I')) : fw_Go X l mL_law lz_Q 710 55 1414 [some (.ref 2000), some (.ref 0), some (.ref 38), some (.int (nI (5 * j)))] [] (fw_sh, I) := by
  refine fw_fromL [1258] 100 428 rfl ?_
  refine And.intro (lz_in hj hL 1 (by omega) rfl) ?_
  refine And.intro (lz_in hj hL 2 (by omega) rfl) ?_
  refine And.intro (lz_in hj hL 3 (by omega) rfl) ?_
  refine And.intro (lz_in hj hL 4 (by omega) rfl) ?_
  refine ⟨_, cs_put (X := X) (l := l) h _ _ _ _, ?_⟩
  rintro v σ' ⟨rfl, I1, rfl, h1, hf1⟩
  refine And.intro (lz_in hj hL 1 (by omega) rfl) ?_
  refine And.intro (lz_in hj hL 2 (by omega) rfl) ?_
  refine And.intro (lz_in hj hL 3 (by omega) rfl) ?_
  refine And.intro (lz_in hj hL 4 (by omega) rfl) ?_
  refine ⟨_, cm_put (X := X) (l := l) (zm_hi hm hf1) _ _ _ _, ?_⟩
  rintro v σ' ⟨rfl, I2, rfl, h2, hf2⟩
  refine And.intro (fun _ => ?_) (fun z => absurd rfl z)
  exact fw_sub (nx _ I2 (zc_lo h1 hf2) h2) (by rfl) rfl
set_option maxRecDepth 30000 in
theorem lz_treadings (h : zc_at s I) (hm : zm_at s I) (hj : 5 * j + 5 ≤ X.1) (hL : X.1 ≤ 2560) (nx : ∀ s' I', zc_at s' I' → zm_at s' I' → fw_Go X l mL_law lz_Q 1258 55 1414 [some (.ref 2000), some (.ref 0), some (.ref 38), some (.int (nI (5 * j)))] [] (fw_sh, I')) : fw_Go X l mL_law lz_Q 763 55 1414 [some (.ref 2000), some (.ref 0), some (.ref 38), some (.int (nI (5 * j)))] [] (fw_sh, I) := by
  refine fw_fromL [1258] 100 475 rfl ?_
  refine And.intro (lz_in hj hL 1 (by omega) rfl) ?_
  refine And.intro (lz_in hj hL 2 (by omega) rfl) ?_
  refine And.intro (lz_in hj hL 3 (by omega) rfl) ?_
  refine ⟨_, cs_tread (X := X) (l := l) h _ _ _, ?_⟩
  rintro v σ' ⟨rfl, I1, rfl, h1, hf1⟩
  refine And.intro (lz_in hj hL 1 (by omega) rfl) ?_
  refine And.intro (lz_in hj hL 2 (by omega) rfl) ?_
  refine And.intro (lz_in hj hL 3 (by omega) rfl) ?_
  refine ⟨_, cm_tread (X := X) (l := l) (zm_hi hm hf1) _ _ _, ?_⟩
  rintro v σ' ⟨rfl, I2, rfl, h2, hf2⟩
  refine And.intro (fun _ => ?_) (fun z => absurd rfl z)
  exact fw_sub (nx _ I2 (zc_lo h1 hf2) h2) (by rfl) rfl
set_option maxRecDepth 30000 in
theorem lz_turns (h : zc_at s I) (hm : zm_at s I) (hj : 5 * j + 5 ≤ X.1) (hL : X.1 ≤ 2560) (nx : ∀ s' I', zc_at s' I' → zm_at s' I' → fw_Go X l mL_law lz_Q 1258 55 1414 [some (.ref 2000), some (.ref 0), some (.ref 38), some (.int (nI (5 * j)))] [] (fw_sh, I')) : fw_Go X l mL_law lz_Q 806 55 1414 [some (.ref 2000), some (.ref 0), some (.ref 38), some (.int (nI (5 * j)))] [] (fw_sh, I) := by
  refine fw_fromL [1258] 100 512 rfl ?_
  refine And.intro (lz_in hj hL 1 (by omega) rfl) ?_
  refine ⟨_, cs_turns (X := X) (l := l) h _, ?_⟩
  rintro v σ' ⟨rfl, I1, rfl, h1, hf1⟩
  refine And.intro (lz_in hj hL 1 (by omega) rfl) ?_
  refine ⟨_, cm_turns (X := X) (l := l) (zm_hi hm hf1) _, ?_⟩
  rintro v σ' ⟨rfl, I2, rfl, h2, hf2⟩
  refine And.intro (fun _ => ?_) (fun z => absurd rfl z)
  exact fw_sub (nx _ I2 (zc_lo h1 hf2) h2) (by rfl) rfl
set_option maxRecDepth 30000 in
theorem lz_needy (h : zc_at s I) (hm : zm_at s I) (hj : 5 * j + 5 ≤ X.1) (hL : X.1 ≤ 2560) (nx : ∀ s' I', zc_at s' I' → zm_at s' I' → fw_Go X l mL_law lz_Q 1258 55 1414 [some (.ref 2000), some (.ref 0), some (.ref 38), some (.int (nI (5 * j)))] [] (fw_sh, I')) : fw_Go X l mL_law lz_Q 829 55 1414 [some (.ref 2000), some (.ref 0), some (.ref 38), some (.int (nI (5 * j)))] [] (fw_sh, I) := by
  refine fw_fromL [1258] 100 529 rfl ?_
  refine And.intro (lz_in hj hL 1 (by omega) rfl) ?_
  refine ⟨_, cs_needy (X := X) (l := l) h _, ?_⟩
  rintro v σ' ⟨rfl, I1, rfl, h1, hf1⟩
  refine And.intro (lz_in hj hL 1 (by omega) rfl) ?_
  refine ⟨_, cm_needy (X := X) (l := l) (zm_hi hm hf1) _, ?_⟩
  rintro v σ' ⟨rfl, I2, rfl, h2, hf2⟩
  refine And.intro (fun _ => ?_) (fun z => absurd rfl z)
  exact fw_sub (nx _ I2 (zc_lo h1 hf2) h2) (by rfl) rfl
set_option maxRecDepth 30000 in
theorem lz_sold (h : zc_at s I) (hm : zm_at s I) (hj : 5 * j + 5 ≤ X.1) (hL : X.1 ≤ 2560) (nx : ∀ s' I', zc_at s' I' → zm_at s' I' → fw_Go X l mL_law lz_Q 1258 55 1414 [some (.ref 2000), some (.ref 0), some (.ref 38), some (.int (nI (5 * j)))] [] (fw_sh, I')) : fw_Go X l mL_law lz_Q 852 55 1414 [some (.ref 2000), some (.ref 0), some (.ref 38), some (.int (nI (5 * j)))] [] (fw_sh, I) := by
  refine fw_fromL [1258] 100 546 rfl ?_
  refine And.intro (lz_in hj hL 1 (by omega) rfl) ?_
  refine And.intro (lz_in hj hL 2 (by omega) rfl) ?_
  refine ⟨_, cs_sold (X := X) (l := l) h _ _, ?_⟩
  rintro v σ' ⟨rfl, I1, rfl, h1, hf1⟩
  refine And.intro (lz_in hj hL 1 (by omega) rfl) ?_
  refine And.intro (lz_in hj hL 2 (by omega) rfl) ?_
  refine ⟨_, cm_sold (X := X) (l := l) (zm_hi hm hf1) _ _, ?_⟩
  rintro v σ' ⟨rfl, I2, rfl, h2, hf2⟩
  refine And.intro (fun _ => ?_) (fun z => absurd rfl z)
  exact fw_sub (nx _ I2 (zc_lo h1 hf2) h2) (by rfl) rfl
set_option maxRecDepth 30000 in
theorem lz_hay (h : zc_at s I) (hm : zm_at s I) (hj : 5 * j + 5 ≤ X.1) (hL : X.1 ≤ 2560) (nx : ∀ s' I', zc_at s' I' → zm_at s' I' → fw_Go X l mL_law lz_Q 1258 55 1414 [some (.ref 2000), some (.ref 0), some (.ref 38), some (.int (nI (5 * j)))] [] (fw_sh, I')) : fw_Go X l mL_law lz_Q 885 55 1414 [some (.ref 2000), some (.ref 0), some (.ref 38), some (.int (nI (5 * j)))] [] (fw_sh, I) := by
  refine fw_fromL [1258] 100 573 rfl ?_
  refine And.intro (lz_in hj hL 1 (by omega) rfl) ?_
  refine ⟨_, cs_hay (X := X) (l := l) h _, ?_⟩
  rintro v σ' ⟨rfl, I1, rfl, h1, hf1⟩
  refine And.intro (lz_in hj hL 1 (by omega) rfl) ?_
  refine ⟨_, cm_hay (X := X) (l := l) (zm_hi hm hf1) _, ?_⟩
  rintro v σ' ⟨rfl, I2, rfl, h2, hf2⟩
  refine And.intro (fun _ => ?_) (fun z => absurd rfl z)
  exact fw_sub (nx _ I2 (zc_lo h1 hf2) h2) (by rfl) rfl
set_option maxRecDepth 30000 in
theorem lz_same (h : zc_at s I) (hm : zm_at s I) (hj : 5 * j + 5 ≤ X.1) (hL : X.1 ≤ 2560) (nx : ∀ s' I', zc_at s' I' → zm_at s' I' → fw_Go X l mL_law lz_Q 1258 55 1414 [some (.ref 2000), some (.ref 0), some (.ref 38), some (.int (nI (5 * j)))] [] (fw_sh, I')) : fw_Go X l mL_law lz_Q 908 55 1414 [some (.ref 2000), some (.ref 0), some (.ref 38), some (.int (nI (5 * j)))] [] (fw_sh, I) := by
  refine fw_fromL [1258] 100 590 rfl ?_
  refine And.intro (lz_in hj hL 1 (by omega) rfl) ?_
  refine ⟨_, cs_same (X := X) (l := l) h _, ?_⟩
  rintro v σ' ⟨rfl, I1, rfl, h1, hf1⟩
  refine And.intro (lz_in hj hL 1 (by omega) rfl) ?_
  refine ⟨_, cm_same (X := X) (l := l) (zm_hi hm hf1) _, ?_⟩
  rintro v σ' ⟨rfl, I2, rfl, h2, hf2⟩
  refine And.intro (fun _ => ?_) (fun z => absurd rfl z)
  exact fw_sub (nx _ I2 (zc_lo h1 hf2) h2) (by rfl) rfl
set_option maxRecDepth 30000 in
theorem lz_edge (h : zc_at s I) (hm : zm_at s I) (hj : 5 * j + 5 ≤ X.1) (hL : X.1 ≤ 2560) (nx : ∀ s' I', zc_at s' I' → zm_at s' I' → fw_Go X l mL_law lz_Q 1258 55 1414 [some (.ref 2000), some (.ref 0), some (.ref 38), some (.int (nI (5 * j)))] [] (fw_sh, I')) : fw_Go X l mL_law lz_Q 931 55 1414 [some (.ref 2000), some (.ref 0), some (.ref 38), some (.int (nI (5 * j)))] [] (fw_sh, I) := by
  refine fw_fromL [1258] 100 607 rfl ?_
  refine And.intro (lz_in hj hL 1 (by omega) rfl) ?_
  refine ⟨_, cs_edge (X := X) (l := l) h _, ?_⟩
  rintro v σ' ⟨rfl, I1, rfl, h1, hf1⟩
  refine And.intro (lz_in hj hL 1 (by omega) rfl) ?_
  refine ⟨_, cm_edge (X := X) (l := l) (zm_hi hm hf1) _, ?_⟩
  rintro v σ' ⟨rfl, I2, rfl, h2, hf2⟩
  refine And.intro (fun _ => ?_) (fun z => absurd rfl z)
  exact fw_sub (nx _ I2 (zc_lo h1 hf2) h2) (by rfl) rfl
set_option maxRecDepth 30000 in
theorem lz_rain (h : zc_at s I) (hm : zm_at s I) (hj : 5 * j + 5 ≤ X.1) (hL : X.1 ≤ 2560) (nx : ∀ s' I', zc_at s' I' → zm_at s' I' → fw_Go X l mL_law lz_Q 1258 55 1414 [some (.ref 2000), some (.ref 0), some (.ref 38), some (.int (nI (5 * j)))] [] (fw_sh, I')) : fw_Go X l mL_law lz_Q 954 55 1414 [some (.ref 2000), some (.ref 0), some (.ref 38), some (.int (nI (5 * j)))] [] (fw_sh, I) := by
  refine fw_fromL [1258] 100 624 rfl ?_
  refine And.intro (lz_in hj hL 1 (by omega) rfl) ?_
  refine And.intro (lz_in hj hL 2 (by omega) rfl) ?_
  refine And.intro (lz_in hj hL 3 (by omega) rfl) ?_
  refine And.intro (lz_in hj hL 4 (by omega) rfl) ?_
  refine ⟨_, cs_rain (X := X) (l := l) h _ _ _ _, ?_⟩
  rintro v σ' ⟨rfl, I1, rfl, h1, hf1⟩
  refine And.intro (lz_in hj hL 1 (by omega) rfl) ?_
  refine And.intro (lz_in hj hL 2 (by omega) rfl) ?_
  refine And.intro (lz_in hj hL 3 (by omega) rfl) ?_
  refine And.intro (lz_in hj hL 4 (by omega) rfl) ?_
  refine ⟨_, cm_rain (X := X) (l := l) (zm_hi hm hf1) _ _ _ _, ?_⟩
  rintro v σ' ⟨rfl, I2, rfl, h2, hf2⟩
  refine And.intro (fun _ => ?_) (fun z => absurd (by rw [lg_cmp_eq]) z)
  exact fw_sub (nx _ I2 (zc_lo h1 hf2) h2) (by rfl) rfl
set_option maxRecDepth 30000 in
theorem lz_two (h : zc_at s I) (hm : zm_at s I) (hj : 5 * j + 5 ≤ X.1) (hL : X.1 ≤ 2560) (nx : ∀ s' I', zc_at s' I' → zm_at s' I' → fw_Go X l mL_law lz_Q 1258 55 1414 [some (.ref 2000), some (.ref 0), some (.ref 38), some (.int (nI (5 * j)))] [] (fw_sh, I')) : fw_Go X l mL_law lz_Q 1008 55 1414 [some (.ref 2000), some (.ref 0), some (.ref 38), some (.int (nI (5 * j)))] [] (fw_sh, I) := by
  refine fw_fromL [1258] 100 672 rfl ?_
  refine And.intro (lz_in hj hL 1 (by omega) rfl) ?_
  refine And.intro (lz_in hj hL 2 (by omega) rfl) ?_
  refine And.intro (lz_in hj hL 3 (by omega) rfl) ?_
  refine And.intro (lz_in hj hL 4 (by omega) rfl) ?_
  refine ⟨_, cs_two (X := X) (l := l) h _ _ _ _, ?_⟩
  rintro v σ' ⟨rfl, I1, rfl, h1, hf1⟩
  refine And.intro (lz_in hj hL 1 (by omega) rfl) ?_
  refine And.intro (lz_in hj hL 2 (by omega) rfl) ?_
  refine And.intro (lz_in hj hL 3 (by omega) rfl) ?_
  refine And.intro (lz_in hj hL 4 (by omega) rfl) ?_
  refine ⟨_, cm_two (X := X) (l := l) (zm_hi hm hf1) _ _ _ _, ?_⟩
  rintro v σ' ⟨rfl, I2, rfl, h2, hf2⟩
  refine And.intro (fun _ => ?_) (fun z => absurd rfl z)
  exact fw_sub (nx _ I2 (zc_lo h1 hf2) h2) (by rfl) rfl
set_option maxRecDepth 30000 in
theorem lz_patch (h : zc_at s I) (hm : zm_at s I) (hj : 5 * j + 5 ≤ X.1) (hL : X.1 ≤ 2560) (nx : ∀ s' I', zc_at s' I' → zm_at s' I' → fw_Go X l mL_law lz_Q 1258 55 1414 [some (.ref 2000), some (.ref 0), some (.ref 38), some (.int (nI (5 * j)))] [] (fw_sh, I')) : fw_Go X l mL_law lz_Q 1061 55 1414 [some (.ref 2000), some (.ref 0), some (.ref 38), some (.int (nI (5 * j)))] [] (fw_sh, I) := by
  refine fw_fromL [1258] 100 719 rfl ?_
  refine And.intro (lz_in hj hL 1 (by omega) rfl) ?_
  refine ⟨_, cs_patch (X := X) (l := l) h _, ?_⟩
  rintro v σ' ⟨rfl, I1, rfl, h1, hf1⟩
  refine And.intro (lz_in hj hL 1 (by omega) rfl) ?_
  refine ⟨_, cm_patch (X := X) (l := l) (zm_hi hm hf1) _, ?_⟩
  rintro v σ' ⟨rfl, I2, rfl, h2, hf2⟩
  refine And.intro (fun _ => ?_) (fun z => absurd rfl z)
  exact fw_sub (nx _ I2 (zc_lo h1 hf2) h2) (by rfl) rfl
set_option maxRecDepth 30000 in
theorem lz_whatWas (h : zc_at s I) (hm : zm_at s I) (hj : 5 * j + 5 ≤ X.1) (hL : X.1 ≤ 2560) (nx : ∀ s' I', zc_at s' I' → zm_at s' I' → fw_Go X l mL_law lz_Q 1258 55 1414 [some (.ref 2000), some (.ref 0), some (.ref 38), some (.int (nI (5 * j)))] [] (fw_sh, I')) : fw_Go X l mL_law lz_Q 1084 55 1414 [some (.ref 2000), some (.ref 0), some (.ref 38), some (.int (nI (5 * j)))] [] (fw_sh, I) := by
  refine fw_fromL [1258] 100 736 rfl ?_
  refine And.intro (lz_in hj hL 1 (by omega) rfl) ?_
  refine And.intro (lz_in hj hL 2 (by omega) rfl) ?_
  refine ⟨_, cs_what (X := X) (l := l) h _ _, ?_⟩
  rintro v σ' ⟨rfl, I1, rfl, h1, hf1⟩
  refine And.intro (lz_in hj hL 1 (by omega) rfl) ?_
  refine And.intro (lz_in hj hL 2 (by omega) rfl) ?_
  refine ⟨_, cm_what (X := X) (l := l) (zm_hi hm hf1) _ _, ?_⟩
  rintro v σ' ⟨rfl, I2, rfl, h2, hf2⟩
  refine And.intro (fun _ => ?_) (fun z => absurd rfl z)
  exact fw_sub (nx _ I2 (zc_lo h1 hf2) h2) (by rfl) rfl
set_option maxRecDepth 30000 in
theorem lz_row (h : zc_at s I) (hm : zm_at s I) (hj : 5 * j + 5 ≤ X.1) (hL : X.1 ≤ 2560) (nx : ∀ s' I', zc_at s' I' → zm_at s' I' → fw_Go X l mL_law lz_Q 1258 55 1414 [some (.ref 2000), some (.ref 0), some (.ref 38), some (.int (nI (5 * j)))] [] (fw_sh, I')) : fw_Go X l mL_law lz_Q 1117 55 1414 [some (.ref 2000), some (.ref 0), some (.ref 38), some (.int (nI (5 * j)))] [] (fw_sh, I) := by
  refine fw_fromL [1258] 100 763 rfl ?_
  refine And.intro (lz_in hj hL 1 (by omega) rfl) ?_
  refine ⟨_, cs_row (X := X) (l := l) h _, ?_⟩
  rintro v σ' ⟨rfl, I1, rfl, h1, hf1⟩
  refine And.intro (lz_in hj hL 1 (by omega) rfl) ?_
  refine ⟨_, cm_row (X := X) (l := l) (zm_hi hm hf1) _, ?_⟩
  rintro v σ' ⟨rfl, I2, rfl, h2, hf2⟩
  refine And.intro (fun _ => ?_) (fun z => absurd rfl z)
  exact fw_sub (nx _ I2 (zc_lo h1 hf2) h2) (by rfl) rfl
set_option maxRecDepth 30000 in
theorem lz_judge (h : zc_at s I) (hm : zm_at s I) (hj : 5 * j + 5 ≤ X.1) (hL : X.1 ≤ 2560) (nx : ∀ s' I', zc_at s' I' → zm_at s' I' → fw_Go X l mL_law lz_Q 1258 55 1414 [some (.ref 2000), some (.ref 0), some (.ref 38), some (.int (nI (5 * j)))] [] (fw_sh, I')) : fw_Go X l mL_law lz_Q 1140 55 1414 [some (.ref 2000), some (.ref 0), some (.ref 38), some (.int (nI (5 * j)))] [] (fw_sh, I) := by
  refine fw_fromL [1258] 100 780 rfl ?_
  refine ⟨_, cs_judge (X := X) (l := l) h, ?_⟩
  rintro v σ' ⟨rfl, I1, rfl, h1, hf1⟩
  refine ⟨_, cm_judge (X := X) (l := l) (zm_hi hm hf1), ?_⟩
  rintro v σ' ⟨rfl, I2, rfl, h2, hf2⟩
  refine And.intro (fun _ => ?_) (fun z => absurd rfl z)
  exact fw_sub (nx _ I2 (zc_lo h1 hf2) h2) (by rfl) rfl
set_option maxRecDepth 30000 in
theorem lz_clear (h : zc_at s I) (hm : zm_at s I) (hj : 5 * j + 5 ≤ X.1) (hL : X.1 ≤ 2560) (nx : ∀ s' I', zc_at s' I' → zm_at s' I' → fw_Go X l mL_law lz_Q 1258 55 1414 [some (.ref 2000), some (.ref 0), some (.ref 38), some (.int (nI (5 * j)))] [] (fw_sh, I')) : fw_Go X l mL_law lz_Q 1153 55 1414 [some (.ref 2000), some (.ref 0), some (.ref 38), some (.int (nI (5 * j)))] [] (fw_sh, I) := by
  refine fw_fromL [1258] 100 787 rfl ?_
  refine ⟨_, cs_clear (X := X) (l := l) h, ?_⟩
  rintro v σ' ⟨rfl, I1, rfl, h1, hf1⟩
  refine ⟨_, cm_clear (X := X) (l := l) (zm_hi hm hf1), ?_⟩
  rintro v σ' ⟨rfl, I2, rfl, h2, hf2⟩
  refine And.intro (fun _ => ?_) (fun z => absurd rfl z)
  exact fw_sub (nx _ I2 (zc_lo h1 hf2) h2) (by rfl) rfl
set_option maxRecDepth 30000 in
theorem lz_lots (h : zc_at s I) (hm : zm_at s I) (hj : 5 * j + 5 ≤ X.1) (hL : X.1 ≤ 2560) (nx : ∀ s' I', zc_at s' I' → zm_at s' I' → fw_Go X l mL_law lz_Q 1258 55 1414 [some (.ref 2000), some (.ref 0), some (.ref 38), some (.int (nI (5 * j)))] [] (fw_sh, I')) : fw_Go X l mL_law lz_Q 1166 55 1414 [some (.ref 2000), some (.ref 0), some (.ref 38), some (.int (nI (5 * j)))] [] (fw_sh, I) := by
  refine fw_fromL [1258] 100 794 rfl ?_
  refine And.intro (lz_in hj hL 1 (by omega) rfl) ?_
  refine And.intro (lz_in hj hL 2 (by omega) rfl) ?_
  refine And.intro (lz_in hj hL 3 (by omega) rfl) ?_
  refine ⟨_, cs_lots (X := X) (l := l) h _ _ _, ?_⟩
  rintro v σ' ⟨rfl, I1, rfl, h1, hf1⟩
  refine And.intro (lz_in hj hL 1 (by omega) rfl) ?_
  refine And.intro (lz_in hj hL 2 (by omega) rfl) ?_
  refine And.intro (lz_in hj hL 3 (by omega) rfl) ?_
  refine ⟨_, cm_lots (X := X) (l := l) (zm_hi hm hf1) _ _ _, ?_⟩
  rintro v σ' ⟨rfl, I2, rfl, h2, hf2⟩
  refine And.intro (fun _ => ?_) (fun z => absurd rfl z)
  exact fw_sub (nx _ I2 (zc_lo h1 hf2) h2) (by rfl) rfl
set_option maxRecDepth 30000 in
theorem lz_image (h : zc_at s I) (hm : zm_at s I) (hj : 5 * j + 5 ≤ X.1) (hL : X.1 ≤ 2560) (nx : ∀ s' I', zc_at s' I' → zm_at s' I' → fw_Go X l mL_law lz_Q 1258 55 1414 [some (.ref 2000), some (.ref 0), some (.ref 38), some (.int (nI (5 * j)))] [] (fw_sh, I')) : fw_Go X l mL_law lz_Q 1209 55 1414 [some (.ref 2000), some (.ref 0), some (.ref 38), some (.int (nI (5 * j)))] [] (fw_sh, I) := by
  refine fw_fromL [1258] 100 831 rfl ?_
  refine ⟨_, cs_image (X := X) (l := l) h, ?_⟩
  rintro v σ' ⟨rfl, I1, rfl, h1, hf1⟩
  refine ⟨_, cm_image (X := X) (l := l) (zm_hi hm hf1), ?_⟩
  rintro v σ' ⟨rfl, I2, rfl, h2, hf2⟩
  refine And.intro (fun _ => ?_) (fun z => absurd rfl z)
  exact fw_sub (nx _ I2 (zc_lo h1 hf2) h2) (by rfl) rfl
set_option maxRecDepth 30000 in
theorem lz_on (h : zc_at s I) (hm : zm_at s I) (hj : 5 * j + 5 ≤ X.1) (hL : X.1 ≤ 2560) (nx : ∀ s' I', zc_at s' I' → zm_at s' I' → fw_Go X l mL_law lz_Q 1258 55 1414 [some (.ref 2000), some (.ref 0), some (.ref 38), some (.int (nI (5 * j)))] [] (fw_sh, I')) : fw_Go X l mL_law lz_Q 1222 55 1414 [some (.ref 2000), some (.ref 0), some (.ref 38), some (.int (nI (5 * j)))] [] (fw_sh, I) := by
  refine fw_fromL [1258] 100 838 rfl ?_
  refine ⟨_, cs_on (X := X) (l := l) h, ?_⟩
  rintro v σ' ⟨rfl, I1, rfl, h1, hf1⟩
  refine ⟨_, cm_on (X := X) (l := l) (zm_hi hm hf1), ?_⟩
  rintro v σ' ⟨rfl, I2, rfl, h2, hf2⟩
  refine And.intro (fun _ => ?_) (fun z => absurd rfl z)
  exact fw_sub (nx _ I2 (zc_lo h1 hf2) h2) (by rfl) rfl
set_option maxRecDepth 30000 in
theorem lz_count (h : zc_at s I) (hm : zm_at s I) (hj : 5 * j + 5 ≤ X.1) (hL : X.1 ≤ 2560) (nx : ∀ s' I', zc_at s' I' → zm_at s' I' → fw_Go X l mL_law lz_Q 1258 55 1414 [some (.ref 2000), some (.ref 0), some (.ref 38), some (.int (nI (5 * j)))] [] (fw_sh, I')) : fw_Go X l mL_law lz_Q 1235 55 1414 [some (.ref 2000), some (.ref 0), some (.ref 38), some (.int (nI (5 * j)))] [] (fw_sh, I) := by
  refine fw_fromL [1258] 100 845 rfl ?_
  refine And.intro (lz_in hj hL 1 (by omega) rfl) ?_
  refine ⟨_, cs_count (X := X) (l := l) h _, ?_⟩
  rintro v σ' ⟨rfl, I1, rfl, h1, hf1⟩
  refine And.intro (lz_in hj hL 1 (by omega) rfl) ?_
  refine ⟨_, cm_count (X := X) (l := l) (zm_hi hm hf1) _, ?_⟩
  rintro v σ' ⟨rfl, I2, rfl, h2, hf2⟩
  refine And.intro (fun _ => ?_) (fun z => absurd rfl z)
  exact fw_sub (nx _ I2 (zc_lo h1 hf2) h2) (by rfl) rfl
set_option maxRecDepth 30000 in
theorem lz_loop (hL : X.1 ≤ 2560) : ∀ f j, X.1 < 5 * (j + f) + 5 → 5 * j ≤ X.1 → ∀ s I, zc_at s I → zm_at s I → fw_Go X l mL_law lz_Q 18 55 1414 [some (.ref 2000), some (.ref 0), some (.ref 38), some (.int (nI (5 * j)))] [] (fw_sh, I) := by
  intro f
  induction f with
  | zero =>
    intro j hf hjL s I h hm
    refine fw_fromL [18] 100 10 rfl ?_
    refine zq_br (c := nI X.1 - 5 < nI (5 * j)) (d := X.1 < 5 * j + 5) ?_ (fun _ => ?_) (fun z => absurd (by omega) z)
    · rw [zt_lt, show (5 : Int32) = nI 5 from rfl, pk_sub_toInt (by omega) (by omega), nI_toInt (by omega)]; omega
    · exact ⟨by decide, rfl⟩
  | succ f ih =>
    intro j hf hjL s I h hm
    by_cases hj : 5 * j + 5 ≤ X.1
    · have nx : ∀ s' I', zc_at s' I' → zm_at s' I' → fw_Go X l mL_law lz_Q 1258 55 1414 [some (.ref 2000), some (.ref 0), some (.ref 38), some (.int (nI (5 * j)))] [] (fw_sh, I') := by
        intro s' I' h1 h2
        refine fw_fromL [18] 100 862 rfl ?_
        exact fw_sub (ih (j + 1) (by omega) (by omega) s' I' h1 h2) (by rw [show (5 : Int32) = nI 5 from rfl, nI_add]; rfl) rfl
      refine fw_fromL [18, 1258, 196, 219, 232, 265, 298, 331, 364, 387, 410, 453, 476, 509, 542, 565, 578, 611, 644, 677, 710, 763, 806, 829, 852, 885, 908, 931, 954, 1008, 1061, 1084, 1117, 1140, 1153, 1166, 1209, 1222, 1235] 100 10 rfl ?_
      refine zq_br (c := nI X.1 - 5 < nI (5 * j)) (d := X.1 < 5 * j + 5) ?_ (fun z => absurd z (by omega)) (fun _ => ?_)
      · rw [zt_lt, show (5 : Int32) = nI 5 from rfl, pk_sub_toInt (by omega) (by omega), nI_toInt (by omega)]; omega
      refine And.intro (fw_in1 (5 * j) X.1 (by omega)) ?_
      refine And.intro (fun _ => fw_sub (lz_letter h hm hj hL nx) (by rfl) rfl) (fun _ => ?_)
      refine And.intro (fun _ => fw_sub (lz_land h hm hj hL nx) (by rfl) rfl) (fun _ => ?_)
      refine And.intro (fun _ => fw_sub (lz_yard h hm hj hL nx) (by rfl) rfl) (fun _ => ?_)
      refine And.intro (fun _ => fw_sub (lz_piece h hm hj hL nx) (by rfl) rfl) (fun _ => ?_)
      refine And.intro (fun _ => fw_sub (lz_grows h hm hj hL nx) (by rfl) rfl) (fun _ => ?_)
      refine And.intro (fun _ => fw_sub (lz_makes h hm hj hL nx) (by rfl) rfl) (fun _ => ?_)
      refine And.intro (fun _ => fw_sub (lz_rolls h hm hj hL nx) (by rfl) rfl) (fun _ => ?_)
      refine And.intro (fun _ => fw_sub (lz_treads h hm hj hL nx) (by rfl) rfl) (fun _ => ?_)
      refine And.intro (fun _ => fw_sub (lz_turn h hm hj hL nx) (by rfl) rfl) (fun _ => ?_)
      refine And.intro (fun _ => fw_sub (lz_days h hm hj hL nx) (by rfl) rfl) (fun _ => ?_)
      refine And.intro (fun _ => fw_sub (lz_behind h hm hj hL nx) (by rfl) rfl) (fun _ => ?_)
      refine And.intro (fun _ => fw_sub (lz_thistles h hm hj hL nx) (by rfl) rfl) (fun _ => ?_)
      refine And.intro (fun _ => fw_sub (lz_firstThistle h hm hj hL nx) (by rfl) rfl) (fun _ => ?_)
      refine And.intro (fun _ => fw_sub (lz_longest h hm hj hL nx) (by rfl) rfl) (fun _ => ?_)
      refine And.intro (fun _ => fw_sub (lz_steps h hm hj hL nx) (by rfl) rfl) (fun _ => ?_)
      refine And.intro (fun _ => fw_sub (lz_reached h hm hj hL nx) (by rfl) rfl) (fun _ => ?_)
      refine And.intro (fun _ => fw_sub (lz_cut h hm hj hL nx) (by rfl) rfl) (fun _ => ?_)
      refine And.intro (fun _ => fw_sub (lz_opens h hm hj hL nx) (by rfl) rfl) (fun _ => ?_)
      refine And.intro (fun _ => fw_sub (lz_putAway h hm hj hL nx) (by rfl) rfl) (fun _ => ?_)
      refine And.intro (fun _ => fw_sub (lz_treadings h hm hj hL nx) (by rfl) rfl) (fun _ => ?_)
      refine And.intro (fun _ => fw_sub (lz_turns h hm hj hL nx) (by rfl) rfl) (fun _ => ?_)
      refine And.intro (fun _ => fw_sub (lz_needy h hm hj hL nx) (by rfl) rfl) (fun _ => ?_)
      refine And.intro (fun _ => fw_sub (lz_sold h hm hj hL nx) (by rfl) rfl) (fun _ => ?_)
      refine And.intro (fun _ => fw_sub (lz_hay h hm hj hL nx) (by rfl) rfl) (fun _ => ?_)
      refine And.intro (fun _ => fw_sub (lz_same h hm hj hL nx) (by rfl) rfl) (fun _ => ?_)
      refine And.intro (fun _ => fw_sub (lz_edge h hm hj hL nx) (by rfl) rfl) (fun _ => ?_)
      refine And.intro (fun _ => fw_sub (lz_rain h hm hj hL nx) (by rfl) rfl) (fun _ => ?_)
      refine And.intro (fun _ => fw_sub (lz_two h hm hj hL nx) (by rfl) rfl) (fun _ => ?_)
      refine And.intro (fun _ => fw_sub (lz_patch h hm hj hL nx) (by rfl) rfl) (fun _ => ?_)
      refine And.intro (fun _ => fw_sub (lz_whatWas h hm hj hL nx) (by rfl) rfl) (fun _ => ?_)
      refine And.intro (fun _ => fw_sub (lz_row h hm hj hL nx) (by rfl) rfl) (fun _ => ?_)
      refine And.intro (fun _ => fw_sub (lz_judge h hm hj hL nx) (by rfl) rfl) (fun _ => ?_)
      refine And.intro (fun _ => fw_sub (lz_clear h hm hj hL nx) (by rfl) rfl) (fun _ => ?_)
      refine And.intro (fun _ => fw_sub (lz_lots h hm hj hL nx) (by rfl) rfl) (fun _ => ?_)
      refine And.intro (fun _ => fw_sub (lz_image h hm hj hL nx) (by rfl) rfl) (fun _ => ?_)
      refine And.intro (fun _ => fw_sub (lz_on h hm hj hL nx) (by rfl) rfl) (fun _ => ?_)
      refine And.intro (fun _ => fw_sub (lz_count h hm hj hL nx) (by rfl) rfl) (fun _ => ?_)
      exact fw_sub (nx s I h hm) (by rfl) rfl
    · refine fw_fromL [18] 100 10 rfl ?_
      refine zq_br (c := nI X.1 - 5 < nI (5 * j)) (d := X.1 < 5 * j + 5) ?_ (fun _ => ?_) (fun z => absurd (by omega) z)
      · rw [zt_lt, show (5 : Int32) = nI 5 from rfl, pk_sub_toInt (by omega) (by omega), nI_toInt (by omega)]; omega
      · exact ⟨by decide, rfl⟩
end zLaw
