/-! What the Statement says of the start. -/
theorem le_sx : ∀ i, i < 6 → Cond.exactly (.string RX3 (fw_six i)) "java/lang/String" ∈ flatC (Jvm.Cond.and given_1 narrow_1) := by decide +kernel
theorem le_co : ∀ i, i < 6 → Cond.eq (.field (.string RX3 (fw_six i)) "java/lang/String" "coder" "B") (.int 0) ∈ flatC (Jvm.Cond.and given_1 narrow_1) := by decide +kernel
theorem le_ar : ∀ i, i < 6 → Cond.arrayOf (.field (.string RX3 (fw_six i)) "java/lang/String" "value" "[B") .byte ∈ flatC (Jvm.Cond.and given_1 narrow_1) := by decide +kernel
theorem le_ln : ∀ i, i < 6 → Cond.eq (.length (.field (.string RX3 (fw_six i)) "java/lang/String" "value" "[B")) (.int (Int32.ofNat (fw_slen.getD i 0))) ∈ flatC (Jvm.Cond.and given_1 narrow_1) := by decide +kernel
theorem le_el : ∀ i, i < 6 → ∀ j, j < fw_slen.getD i 0 → Cond.eq (.elem (.field (.string RX3 (fw_six i)) "java/lang/String" "value" "[B") (.int (Int32.ofNat j))) (.int ((fw_sbyt.getD i []).getD j 0)) ∈ flatC (Jvm.Cond.and given_1 narrow_1) := by decide +kernel
theorem le_ne : ∀ i, i < 6 → ∀ j, j < 6 → i ≠ j → (Cond.not (Cond.eq (.string RX3 (fw_six i)) (.string RX3 (fw_six j))) ∈ flatC (Jvm.Cond.and given_1 narrow_1) ∨ Cond.not (Cond.eq (.string RX3 (fw_six j)) (.string RX3 (fw_six i))) ∈ flatC (Jvm.Cond.and given_1 narrow_1)) := by decide +kernel
theorem le_l6 : ∀ i, i < 6 → fw_slen.getD i 0 < 2 ^ 31 := by decide
theorem le_cs : Cond.eq (.static RJ0 "COMPACT_STRINGS" "Z") (.int 1) ∈ flatC (Jvm.Cond.and given_1 narrow_1) := by decide +kernel
theorem le_si : Cond.isRef (.static RJ3 "SIOOBE_FORMATTER" "Ljava/util/function/BiFunction;") ∈ flatC (Jvm.Cond.and given_1 narrow_1) := by decide +kernel
set_option maxRecDepth 100000 in
theorem le_t1 : ∀ i, i < 6 → Cond.stringRef RX3 (fw_six i) (fw_stx i) ∈ lw_tbl := by decide +kernel
set_option maxRecDepth 100000 in
theorem le_t2 : Cond.laysStatic RJ0 "COMPACT_STRINGS" "Z" ∈ lw_tbl ∧ Cond.initialized RJ0 ∈ lw_tbl := by decide +kernel
set_option maxRecDepth 100000 in
theorem le_t3 : Cond.laysStatic RJ3 "SIOOBE_FORMATTER" "Ljava/util/function/BiFunction;" ∈ lw_tbl ∧ Cond.initialized RJ3 ∈ lw_tbl := by decide +kernel
set_option maxRecDepth 100000 in
theorem le_t4 : ∀ q ∈ fw_nst, (Cond.methodLinkNest q.1 q.2.1 q.2.2.1 q.2.2.2).onTables = true ∧ Cond.methodLinkNest q.1 q.2.1 q.2.2.1 q.2.2.2 ∈ lw_tbl := by decide +kernel
theorem le_E {s : State} {b L : Nat} {xs : Nat → Int32} (hts : ∀ w ∈ lw_tbl, w.before #[Value.ref b] s = true) (hgv : (Jvm.Cond.and given_1 narrow_1).before #[Value.ref b] s = true) (hX : va_X b L xs s s.heap) (hbl : b < s.heap.size) : ∃ ad : Nat → Nat, ad 2000 = b ∧ fw_E (L, xs) ad (fun q => s.heap.size ≤ q) s s.heap := by
  have hs := flat_of_before _ hgv
  have hA : ∀ a : Nat, a < s.heap.size → ¬ (fun q : Nat => s.heap.size ≤ q) a := fun a ha => Nat.not_le.mpr ha
  obtain ⟨adK, adV, hS, hev⟩ := vk_Sof (args := #[Value.ref b]) (s := s) (N := 6) (tm := fun i => .string RX3 (fw_six i)) (len := fw_slen) (byt := fw_sbyt) (A := fun q : Nat => s.heap.size ≤ q) le_l6 (fun i hi => hs _ (le_sx i hi)) (fun i hi => hs _ (le_co i hi)) (fun i hi => hs _ (le_ar i hi)) (fun i hi => hs _ (le_ln i hi)) (fun i hi j hj => hs _ (le_el i hi j hj)) (fun i j hi hj hij => (le_ne i hi j hj hij).imp (fun h => hs _ h) (fun h => hs _ h)) hA
  have hC := va_Zof (A := fun q : Nat => s.heap.size ≤ q) (hts _ le_t2.1) (hts _ le_t2.2) (va_eqt (hs _ le_cs)) hA
  have hQ := va_Zqof (A := fun q : Nat => s.heap.size ≤ q) (hts _ le_t3.1) (hts _ le_t3.2) (hs _ le_si) hA
  have key : ∀ (u v : Nat) (w : Value), w = (if v = 0 then .null else .ref u) → va_Z RJ3 "SIOOBE_FORMATTER" "Ljava/util/function/BiFunction;" w (fun q : Nat => s.heap.size ≤ q) s s.heap → ∃ ad : Nat → Nat, ad 2000 = b ∧ fw_E (L, xs) ad (fun q => s.heap.size ≤ q) s s.heap := by
    intro u v w hw hZ
    obtain ⟨ad, had⟩ : ∃ ad : Nat → Nat, ad = fun i => if i = 2000 then b else if i = 3000 then u else if i = 3001 then v else if 1100 ≤ i then adV (i - 1100) else adK (i - 1000) := ⟨_, rfl⟩
    have e1 : ∀ i, i < 6 → ad (1000 + i) = adK i := fun i hi => by
      rw [had]; dsimp only
      rw [if_neg (by omega), if_neg (by omega), if_neg (by omega), if_neg (by omega), show 1000 + i - 1000 = i by omega]
    have e2 : ∀ i, i < 6 → ad (1100 + i) = adV i := fun i hi => by
      rw [had]; dsimp only
      rw [if_neg (by omega), if_neg (by omega), if_neg (by omega), if_pos (by omega), show 1100 + i - 1100 = i by omega]
    have e3 : ad 2000 = b := by rw [had]; rfl
    have e4 : ad 3000 = u := by rw [had]; rfl
    have e5 : ad 3001 = v := by rw [had]; rfl
    refine ⟨ad, e3, fun q hq => va_Nw.of (le_t4 q hq).1 (hts _ (le_t4 q hq).2), ⟨fun i hi => ?_, fun i j hi hj hij => ?_⟩, fun i hi => ?_, hC, ?_, ?_⟩
    · dsimp only
      rw [e1 i hi, e2 i hi]; exact hS.1 i hi
    · dsimp only at hij
      rw [e1 i hi, e1 j hj] at hij
      exact hS.2 i j hi hj hij
    · rw [e1 i hi]; exact vk_R.of (hts _ (le_t1 i hi)) (hev i hi)
    · have e6 : fw_cz ad (.retAddr 0) = w := by rw [hw]; simp only [fw_cz, e4, e5]
      rw [e6]; exact hZ
    · rw [e3]; exact ⟨hX, hbl, hA b hbl⟩
  rcases hQ with h | ⟨t, h⟩
  · exact key 0 0 .null rfl h
  · exact key t 1 (.ref t) rfl h
