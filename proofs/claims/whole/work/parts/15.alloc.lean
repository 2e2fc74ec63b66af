/-- a new cell: its number is the count of cells, its place q -/
def fw_ad1 (ad : Nat → Nat) (n q : Nat) : Nat → Nat := fun i => if i = n then q else ad i
theorem fw_ad1_lt {ad : Nat → Nat} {n q : Nat} (hn : n ≤ 999) : ∀ i, i < n ∨ 1000 ≤ i → fw_ad1 ad n q i = ad i := fun i hi => by
  have : ¬ i = n := by omega
  simp [fw_ad1, this]
theorem fw_w_push {ad : Nat → Nat} {cI cB : ClassId} {σ : fw_St} {q : Nat} {e : Nat × Nat × List (Option (Option Nat))} (hn : σ.1.length ≤ 999) (hs : fw_srefs σ.1.length σ.1 = true) :
    fw_w (fw_ad1 ad σ.1.length q) cI cB (σ.1 ++ [e], fw_I1 σ.2 σ.1.length) = fw_w ad cI cB σ ++ [(q, fw_ce (fw_ad1 ad σ.1.length q) cI cB (fw_I1 σ.2 σ.1.length) σ.1.length e)] := by
  apply List.ext_getElem?
  intro o
  rw [fw_w_at]
  rcases Nat.lt_trichotomy o σ.1.length with h | h | h
  · rw [List.getElem?_append_left h, List.getElem?_append_left (by rw [fw_w_len]; exact h), fw_w_at]
    have h0 : (fw_ad1 ad σ.1.length q) o = ad o := fw_ad1_lt hn o (Or.inl h)
    cases he : σ.1[o]? with
    | none => rfl
    | some x =>
      have hx := List.all_eq_true.mp hs x (List.mem_of_getElem? he)
      have hI : fw_I1 σ.2 σ.1.length o = σ.2 o := by simp [fw_I1, Nat.ne_of_lt h]
      show some (fw_ad1 ad σ.1.length q o, fw_ce _ cI cB (fw_I1 σ.2 σ.1.length) o x) = some (ad o, fw_ce ad cI cB σ.2 o x)
      rw [h0, fw_ce_congr hI]
      have hf : x.2.2.mapIdx (fun k y => fw_f1 (fw_ad1 ad σ.1.length q) σ.2 o k y) = x.2.2.mapIdx (fun k y => fw_f1 ad σ.2 o k y) := by
        apply List.ext_getElem?
        intro j
        rw [List.getElem?_mapIdx, List.getElem?_mapIdx]
        cases hj : x.2.2[j]? with
        | none => rfl
        | some y =>
          have hy := List.all_eq_true.mp hx y (List.mem_of_getElem? hj)
          rcases y with _ | _ | i
          · rfl
          · rfl
          · simp only [Bool.or_eq_true, Nat.blt_eq, Nat.ble_eq] at hy
            simp [fw_f1, fw_ad1_lt hn i hy]
      simp only [fw_ce, hf]
  · subst h
    rw [List.getElem?_append_right (Nat.le_refl _), List.getElem?_append_right (by rw [fw_w_len]; exact Nat.le_refl _), fw_w_len]
    simp [fw_ad1]
  · rw [List.getElem?_eq_none (by simp; omega), List.getElem?_eq_none (by simp [fw_w_len]; omega)]
    rfl
section fwA
variable {X : Nat × (Nat → Int32)} {l : Launch} {mi : fw_MI} {Q : Option Value → fw_St → Prop} {k n pc : Nat} {lo : fw_Lo} {st : List Value} {σ : fw_St}
theorem fw_new_go {p : Program} {e : Env} {s : State} {m : MethodId} {args : Array Value} {below : List Frame} {meth : Method} {c : Code} {D : va_G} {cI cB : ClassId} {n0 : Nat} {ad0 ad : Nat → Nat} {A : Nat → Prop} {Z : State → Prop} {H1 : Heap} {locs : List Loc} {ls : Array Slot} {H : Heap} {q pc' N : Nat} {ee : Nat × Nat × List (Option (Option Nat))}
    (hC : fw_Cx mi p s m args meth c A) (hW : fw_Wd X D cI cB (fw_rm mi).cells n0 ad0 ad σ A s H locs) (hL : fw_lo ad ls (fw_ml mi) lo) (hR : fw_Rt X l mi Q p e s m args below meth c D cI cB n0 ad0 A Z) (hk : k + 1 ≤ (fw_rm mi).cells) (hn : n + N ≤ (fw_rm mi).slots) (h9 : σ.1.length ≤ 999) (hs : fw_srefs σ.1.length σ.1 = true) (hlo : fw_lrefs σ.1.length lo = true) (hst : fw_refs σ.1.length st = true)
    (hP : va_P D vwCl (fw_w ad cI cB σ ++ [(q, fw_ce (fw_ad1 ad σ.1.length q) cI cB (fw_I1 σ.2 σ.1.length) σ.1.length ee)]) H1) (hD : va_D A (fw_w ad cI cB σ ++ [(q, fw_ce (fw_ad1 ad σ.1.length q) cI cB (fw_I1 σ.2 σ.1.length) σ.1.length ee)])) (hS : va_S A s.heap H1 locs)
    (h : fw_Go X l mi Q pc' (k + 1) (n + N) lo (.ref σ.1.length :: st) (σ.1 ++ [ee], fw_I1 σ.2 σ.1.length)) : W p l e (fw_rm mi) s m args below meth c H1 locs (k + 1) (n + N) Z (F0 m pc' ls (.ref q :: st.map (fw_cz ad))) := by
  have hall := fw_ad1_lt (ad := ad) (q := q) h9
  rw [← fw_w_push h9 hs] at hP hD
  have h1 := h p e s m args below meth c D cI cB n0 ad0 (fw_ad1 ad σ.1.length q) A Z H1 locs ls hC ⟨hW.1, hP, hD, hS, hW.2.2.2.2.1.ext (fun i hi => hall i (Or.inr hi)), ?_, by rw [List.length_append]; have := hW.2.2.2.2.2.2; simp; omega⟩ ⟨hL.1, hL.2.1, fun j w hj => ?_⟩ hk hn hR
  · have e1 : (.ref σ.1.length :: st : List Value).map (fw_cz (fw_ad1 ad σ.1.length q)) = .ref q :: st.map (fw_cz ad) := by
      rw [List.map_cons, fw_refs_map hall st hst]
      simp [fw_cz, fw_ad1]
    rw [e1] at h1
    exact h1
  · intro i hi
    have h2 := hW.2.2.2.2.2.2
    rw [hall i (by rcases hi with hi | hi | hi <;> omega)]
    exact hW.2.2.2.2.2.1 i hi
  · rw [fw_lrefs_get hall lo j w hlo (fw_get_lt hj)]
    exact hL.2.2 j w hj
def fw_fs0 (a : Nat) : List Value := (fw_fl0 a).map (fun x => match x with
  | none => .int 0
  | some _ => .null)
theorem fw_fs0_eq {ad : Nat → Nat} {I : Nat → Nat → Int32} {n a : Nat} (ha : a ≤ 4) : (fw_fl0 a).mapIdx (fun k x => fw_f1 ad (fw_I1 I n) n k x) = fw_fs0 a := by
  match a, ha with
  | 0, _ => simp [fw_fl0, fw_fs0, fw_f1, fw_I1]
  | 1, _ => simp [fw_fl0, fw_fs0, fw_f1, fw_I1]
  | 2, _ => simp [fw_fl0, fw_fs0, fw_f1, fw_I1]
  | 3, _ => simp [fw_fl0, fw_fs0, fw_f1, fw_I1]
  | 4, _ => simp [fw_fl0, fw_fs0, fw_f1, fw_I1]
theorem fw_def {a : Nat} {C : String} {T : u_T} {N : Nat} (h : fw_nth vwCl a = some (C, T, N)) : ∃ ty0 : Nat → FieldType, (∀ k, k < N → parseFieldDescriptor (T k).2.2.1 = some (ty0 k)) ∧ ∀ j, j < N → defaultValue (ty0 j) = vp_V (fw_fs0 a) j := by
  match a, h with
  | 0, h => cases h; exact ⟨tyX1, tyX1_ok, by decide +kernel⟩
  | 1, h => cases h; exact ⟨tyX3, tyX3_ok, by decide +kernel⟩
  | 2, h => cases h; exact ⟨tyX4, tyX4_ok, by decide +kernel⟩
  | 3, h => cases h; exact ⟨tyX5, tyX5_ok, by decide +kernel⟩
  | 4, h => cases h; exact ⟨tyX6, tyX6_ok, by decide +kernel⟩
  | a + 5, h => cases h
theorem fs_new {idx a N : Nat} {C : String} {T : u_T} (hd : decode (fw_b mi) pc = .ok (.new idx, 3)) (ha : a ≤ 4) (hq : fw_nth vwCl a = some (C, T, N)) (h1 : Cond.classLink (fw_y mi).cls idx C ∈ fw_lw) (h2 : Cond.instantiable C N ∈ fw_lw) (h3 : Cond.initialized C ∈ fw_lw) (hk1 : k + 1 ≤ (fw_rm mi).cells) (hn1 : n + N ≤ (fw_rm mi).slots) (h9 : σ.1.length ≤ 999) (hs : fw_srefs σ.1.length σ.1 = true) (hlo : fw_lrefs σ.1.length lo = true) (hst : fw_refs σ.1.length st = true)
    (h : fw_Go X l mi Q (pc + 3) (k + 1) (n + N) lo (.ref σ.1.length :: st) (σ.1 ++ [(a, 0, fw_fl0 a)], fw_I1 σ.2 σ.1.length)) : fw_Go X l mi Q pc k n lo st σ := by
  intro p e s m args below meth c D cI cB n0 ad0 ad A Z H locs ls hC hW hL hk hn hR
  obtain ⟨ty0, hty, hdf⟩ := fw_def hq
  have hq' := hq
  rw [fw_nth_eq] at hq
  refine va_new (ci := a) (fs := fw_fs0 a) (C := C) (T := T) (N := N) hC.1 hC.2.1 hC.2.2.2.2.1 (fw_vw_words (q := (C, T, N)) hq') ty0 hty hC.2.2.2.1 (hC.2.2.2.2.1 _ h1) (hC.2.2.2.2.1 _ h2) (hC.2.2.2.2.1 _ h3) hW.1 hW.2.1 hW.2.2.1 hW.2.2.2.1 hC.2.2.2.2.2.1 hq hdf hk1 hn1 hd (fun q H1 hP hD hS => ?_)
  have e1 : (Sum.inr (a, fw_fs0 a) : va_E) = fw_ce (fw_ad1 ad σ.1.length q) cI cB (fw_I1 σ.2 σ.1.length) σ.1.length (a, 0, fw_fl0 a) := by rw [fw_ce_obj ha, fw_fs0_eq ha]
  rw [e1] at hP hD
  exact fw_new_go hC hW hL hR hk1 hn1 h9 hs hlo hst hP hD hS h
theorem fs_newa {x : Int32} (hd : decode (fw_b mi) pc = .ok (.newarray .int, 2)) (hx : ¬ x < 0) (hx2 : x.toNatClampNeg ≤ 1000) (hk1 : k + 1 ≤ (fw_rm mi).cells) (hn1 : n + x.toNatClampNeg ≤ (fw_rm mi).slots) (h9 : σ.1.length ≤ 999) (hs : fw_srefs σ.1.length σ.1 = true) (hlo : fw_lrefs σ.1.length lo = true) (hst : fw_refs σ.1.length st = true)
    (h : fw_Go X l mi Q (pc + 2) (k + 1) (n + x.toNatClampNeg) lo (.ref σ.1.length :: st) (σ.1 ++ [(10, x.toNatClampNeg, [])], fw_I1 σ.2 σ.1.length)) : fw_Go X l mi Q pc k n lo (.int x :: st) σ := by
  intro p e s m args below meth c D cI cB n0 ad0 ad A Z H locs ls hC hW hL hk hn hR
  refine va_newa (atype := .int) (ty := .int) (a0 := (x.toNatClampNeg, .inl (fun _ => 0))) hC.1 hC.2.1 (hC.2.2.2.2.1 _ (fw_wd_in fw_ai_ok)) rfl hW.1 hW.2.1 hW.2.2.1 hW.2.2.2.1 hC.2.2.2.2.2.1 (fun cA => rfl) hx rfl ?hb9 hk1 hn1 hd (fun q cA H1 hK hP hD hS => ?_)
  case hb9 =>
    have e4 : componentBytes .int = 4 := by decide +kernel
    show x.toNatClampNeg * componentBytes .int ≤ 536870912
    rw [e4]; omega
  have hcA : cA = cI := by
    have a1 := (hW.1.2 0 (cI, .int) rfl).2
    have a2 := (hK.2 2 (cA, .int) rfl).2
    exact Option.some.inj (a2.symm.trans a1)
  subst hcA
  have e1 : (Sum.inl (cA, x.toNatClampNeg, .inl (fun _ => 0)) : va_E) = fw_ce (fw_ad1 ad σ.1.length q) cA cB (fw_I1 σ.2 σ.1.length) σ.1.length (10, x.toNatClampNeg, []) := by simp [fw_ce, fw_I1]
  rw [e1] at hP hD
  exact fw_new_go hC hW hL hR hk1 hn1 h9 hs hlo hst hP hD hS h
theorem fs_newz {x : Int32} (hd : decode (fw_b mi) pc = .ok (.newarray .boolean, 2)) (hx : ¬ x < 0) (hx2 : x.toNatClampNeg ≤ 1000) (hk1 : k + 1 ≤ (fw_rm mi).cells) (hn1 : n + x.toNatClampNeg ≤ (fw_rm mi).slots) (h9 : σ.1.length ≤ 999) (hs : fw_srefs σ.1.length σ.1 = true) (hlo : fw_lrefs σ.1.length lo = true) (hst : fw_refs σ.1.length st = true)
    (h : fw_Go X l mi Q (pc + 2) (k + 1) (n + x.toNatClampNeg) lo (.ref σ.1.length :: st) (σ.1 ++ [(11, x.toNatClampNeg, [])], fw_I1 σ.2 σ.1.length)) : fw_Go X l mi Q pc k n lo (.int x :: st) σ := by
  intro p e s m args below meth c D cI cB n0 ad0 ad A Z H locs ls hC hW hL hk hn hR
  refine va_newa (atype := .boolean) (ty := .boolean) (a0 := (x.toNatClampNeg, .inl (fun _ => 0))) hC.1 hC.2.1 (hC.2.2.2.2.1 _ (fw_wd_in fw_ab_ok)) rfl hW.1 hW.2.1 hW.2.2.1 hW.2.2.2.1 hC.2.2.2.2.2.1 (fun cA => rfl) hx rfl ?hb9 hk1 hn1 hd (fun q cA H1 hK hP hD hS => ?_)
  case hb9 =>
    have e4 : componentBytes .boolean = 1 := by decide +kernel
    show x.toNatClampNeg * componentBytes .boolean ≤ 536870912
    rw [e4]; omega
  have hcA : cA = cB := by
    have a1 := (hW.1.2 1 (cB, .boolean) rfl).2
    have a2 := (hK.2 2 (cA, .boolean) rfl).2
    exact Option.some.inj (a2.symm.trans a1)
  subst hcA
  have e1 : (Sum.inl (cA, x.toNatClampNeg, .inl (fun _ => 0)) : va_E) = fw_ce (fw_ad1 ad σ.1.length q) cI cA (fw_I1 σ.2 σ.1.length) σ.1.length (11, x.toNatClampNeg, []) := by simp [fw_ce, fw_I1]
  rw [e1] at hP hD
  exact fw_new_go hC hW hL hR hk1 hn1 h9 hs hlo hst hP hD hS h
end fwA
