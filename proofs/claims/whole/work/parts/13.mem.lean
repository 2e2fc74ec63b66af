theorem fw_ce_congr {ad : Nat → Nat} {cI cB : ClassId} {I I' : Nat → Nat → Int32} {o : Nat} (h : I' o = I o) (e : Nat × Nat × List (Option (Option Nat))) : fw_ce ad cI cB I' o e = fw_ce ad cI cB I o e := by
  have h1 : ∀ (k : Nat) (x : Option (Option Nat)), fw_f1 ad I' o k x = fw_f1 ad I o k x := fun k x => by
    rcases x with _ | _ | q <;> simp [fw_f1, h]
  simp only [fw_ce, h, h1]
theorem fw_w_set {ad : Nat → Nat} {cI cB : ClassId} {σ : fw_St} {r : Nat} {I' : Nat → Nat → Int32} {e' : Nat × Nat × List (Option (Option Nat))} {E : va_E} (hI : ∀ o, o ≠ r → I' o = σ.2 o) (hE : fw_ce ad cI cB I' r e' = E) :
    (fw_w ad cI cB σ).set r (ad r, E) = fw_w ad cI cB (σ.1.set r e', I') := by
  apply List.ext_getElem?
  intro o
  by_cases ho : r = o
  · subst ho
    by_cases hl : r < σ.1.length
    · rw [List.getElem?_set_self (by rw [fw_w_len]; exact hl), fw_w_at, List.getElem?_set_self hl]
      simp [hE]
    · rw [List.getElem?_eq_none (by rw [List.length_set, fw_w_len]; omega), fw_w_at, List.getElem?_eq_none (by rw [List.length_set]; omega)]
      rfl
  · rw [List.getElem?_set_ne ho, fw_w_at, fw_w_at, List.getElem?_set_ne ho]
    cases σ.1[o]? with
    | none => rfl
    | some e => simp [fw_ce_congr (hI o (fun z => ho z.symm)) e]
theorem fw_setself {α : Type} {l : List α} {r : Nat} {e : α} (h : fw_nth l r = some e) : l.set r e = l := by
  rw [fw_nth_eq] at h
  apply List.ext_getElem?
  intro o
  by_cases ho : r = o
  · subst ho
    rw [List.getElem?_set_self (List.getElem?_eq_some_iff.mp h).1, h]
  · rw [List.getElem?_set_ne ho]
theorem fw_up_ne {I : Nat → Nat → Int32} {r j : Nat} {x : Int32} : ∀ o, o ≠ r → fw_up I r j x o = I o := fun o ho => funext fun b => by simp [fw_up, ho]
theorem fw_up_eq {I : Nat → Nat → Int32} {r j : Nat} {x : Int32} : fw_up I r j x r = upd (I r) j x := funext fun b => by simp [fw_up, upd]
theorem fw_w_some {ad : Nat → Nat} {cI cB : ClassId} {σ : fw_St} {o : Nat} {e : Nat × Nat × List (Option (Option Nat))} (h : fw_nth σ.1 o = some e) : (fw_w ad cI cB σ)[o]? = some (ad o, fw_ce ad cI cB σ.2 o e) := by
  rw [fw_nth_eq] at h
  rw [fw_w_at, h]
  rfl
theorem fw_in_vp {i : Int32} {n : Nat} (h : fw_in i n) : vp_in i n := by
  intro z
  have hc : i.toNatClampNeg = i.toInt.toNat := rfl
  rcases z with z | z
  · have := Int32.lt_iff_toInt_lt.mp z
    have h0 : (0 : Int32).toInt = 0 := rfl
    have := h.1
    omega
  · rw [hc] at z
    have h1 := h.1
    have h2 := h.2
    omega
section fwM
variable {X : Nat × (Nat → Int32)} {l : Launch} {mi : fw_MI} {Q : Option Value → fw_St → Prop} {k n pc : Nat} {lo : fw_Lo} {st : List Value} {σ : fw_St}
theorem fs_iaload {r ln : Nat} {fl : List (Option (Option Nat))} {j : Int32} (hd : decode (fw_b mi) pc = .ok (.iaload, 1)) (hr : fw_nth σ.1 r = some (10, ln, fl)) (hj : fw_in j ln) (h : fw_Go X l mi Q (pc + 1) k n lo (.int (σ.2 r j.toNatClampNeg) :: st) σ) : fw_Go X l mi Q pc k n lo (.int j :: .ref r :: st) σ :=
  fun p e s m args below meth c D cI cB n0 ad0 ad A Z H locs ls hC hW hL hk hn hR => va_iald hC.1 hC.2.1 hW.1 hW.2.1 r 0 (fw_w_some hr) rfl (fw_in_vp hj) hd (h p e s m args below meth c D cI cB n0 ad0 ad A Z H locs ls hC hW hL hk hn hR)
theorem fs_baload {r ln : Nat} {fl : List (Option (Option Nat))} {j : Int32} (hd : decode (fw_b mi) pc = .ok (.baload, 1)) (hr : fw_nth σ.1 r = some (11, ln, fl)) (hj : fw_in j ln) (h : fw_Go X l mi Q (pc + 1) k n lo (.int (σ.2 r j.toNatClampNeg) :: st) σ) : fw_Go X l mi Q pc k n lo (.int j :: .ref r :: st) σ :=
  fun p e s m args below meth c D cI cB n0 ad0 ad A Z H locs ls hC hW hL hk hn hR => va_zald hC.1 hC.2.1 hW.1 hW.2.1 r 1 (fw_w_some hr) rfl (fw_in_vp hj) hd (h p e s m args below meth c D cI cB n0 ad0 ad A Z H locs ls hC hW hL hk hn hR)
theorem fs_iastore {r ln : Nat} {fl : List (Option (Option Nat))} {j x : Int32} (hd : decode (fw_b mi) pc = .ok (.iastore, 1)) (hr : fw_nth σ.1 r = some (10, ln, fl)) (hj : fw_in j ln) (h : fw_Go X l mi Q (pc + 1) k n lo st (σ.1, fw_up σ.2 r j.toNatClampNeg x)) : fw_Go X l mi Q pc k n lo (.int x :: .int j :: .ref r :: st) σ := by
  intro p e s m args below meth c D cI cB n0 ad0 ad A Z H locs ls hC hW hL hk hn hR
  refine va_iast hC.1 hC.2.1 hW.1 hW.2.1 hW.2.2.1 hW.2.2.2.1 r 0 (fw_w_some hr) rfl (fw_in_vp hj) hd (fun H1 locs1 hP hD hS => ?_)
  have e1 : (fw_w ad cI cB σ).set r (ad r, .inl (cI, ln, .inl (upd (σ.2 r) j.toNatClampNeg x))) = fw_w ad cI cB (σ.1, fw_up σ.2 r j.toNatClampNeg x) := by
    rw [fw_w_set (I' := fw_up σ.2 r j.toNatClampNeg x) (e' := (10, ln, fl)) fw_up_ne (by simp [fw_ce, fw_up_eq]), fw_setself hr]
  rw [e1] at hP hD
  exact h p e s m args below meth c D cI cB n0 ad0 ad A Z H1 locs1 ls hC ⟨hW.1, hP, hD, hS, hW.2.2.2.2⟩ hL hk hn hR
theorem fw_nar_bool {x : Int32} (h : fw_bool x) : vp_nar .boolean x = x := by
  rcases h with rfl | rfl <;> decide +kernel
theorem fs_bastore {r ln : Nat} {fl : List (Option (Option Nat))} {j x : Int32} (hd : decode (fw_b mi) pc = .ok (.bastore, 1)) (hr : fw_nth σ.1 r = some (11, ln, fl)) (hx : fw_bool x) (hj : fw_in j ln) (h : fw_Go X l mi Q (pc + 1) k n lo st (σ.1, fw_up σ.2 r j.toNatClampNeg x)) : fw_Go X l mi Q pc k n lo (.int x :: .int j :: .ref r :: st) σ := by
  intro p e s m args below meth c D cI cB n0 ad0 ad A Z H locs ls hC hW hL hk hn hR
  refine va_zast hC.1 hC.2.1 hW.1 hW.2.1 hW.2.2.1 hW.2.2.2.1 r 1 (fw_w_some hr) rfl (fw_in_vp hj) hd (fun H1 locs1 hP hD hS => ?_)
  rw [fw_nar_bool hx] at hP hD
  have e1 : (fw_w ad cI cB σ).set r (ad r, .inl (cB, ln, .inl (upd (σ.2 r) j.toNatClampNeg x))) = fw_w ad cI cB (σ.1, fw_up σ.2 r j.toNatClampNeg x) := by
    rw [fw_w_set (I' := fw_up σ.2 r j.toNatClampNeg x) (e' := (11, ln, fl)) fw_up_ne (by simp [fw_ce, fw_up_eq]), fw_setself hr]
  rw [e1] at hP hD
  exact h p e s m args below meth c D cI cB n0 ad0 ad A Z H1 locs1 ls hC ⟨hW.1, hP, hD, hS, hW.2.2.2.2⟩ hL hk hn hR
theorem fs_alen {r ln : Nat} {fl : List (Option (Option Nat))} (hd : decode (fw_b mi) pc = .ok (.arraylength, 1)) (hr : fw_nth σ.1 r = some (10, ln, fl)) (h : fw_Go X l mi Q (pc + 1) k n lo (.int (Int32.ofNat ln) :: st) σ) : fw_Go X l mi Q pc k n lo (.ref r :: st) σ :=
  fun p e s m args below meth c D cI cB n0 ad0 ad A Z H locs ls hC hW hL hk hn hR => va_alen hC.1 hC.2.1 hW.1 hW.2.1 r 0 (fw_w_some hr) (ty := .int) rfl rfl hd (h p e s m args below meth c D cI cB n0 ad0 ad A Z H locs ls hC hW hL hk hn hR)
-- the script
theorem fs_sld {j : Int32} (hd : decode (fw_b mi) pc = .ok (.iaload, 1)) (hj : fw_in j X.1) (h : fw_Go X l mi Q (pc + 1) k n lo (.int (X.2 j.toNatClampNeg) :: st) σ) : fw_Go X l mi Q pc k n lo (.int j :: .ref 2000 :: st) σ :=
  fun p e s m args below meth c D cI cB n0 ad0 ad A Z H locs ls hC hW hL hk hn hR => va_sld hC.1 hC.2.1 hW.2.2.2.2.1.2.2.2.2.2.1 hW.2.2.2.2.1.2.2.2.2.2.2.1 hW.2.2.2.2.1.2.2.2.2.2.2.2 hW.2.2.2.1 (fw_in_vp hj) hd (h p e s m args below meth c D cI cB n0 ad0 ad A Z H locs ls hC hW hL hk hn hR)
theorem fs_slen (hd : decode (fw_b mi) pc = .ok (.arraylength, 1)) (h : fw_Go X l mi Q (pc + 1) k n lo (.int (Int32.ofNat X.1) :: st) σ) : fw_Go X l mi Q pc k n lo (.ref 2000 :: st) σ :=
  fun p e s m args below meth c D cI cB n0 ad0 ad A Z H locs ls hC hW hL hk hn hR => va_slen hC.1 hC.2.1 hW.2.2.2.2.1.2.2.2.2.2.1 hW.2.2.2.2.1.2.2.2.2.2.2.1 hW.2.2.2.2.1.2.2.2.2.2.2.2 hW.2.2.2.1 hd (h p e s m args below meth c D cI cB n0 ad0 ad A Z H locs ls hC hW hL hk hn hR)
-- fields
theorem fw_vw_words {a : Nat} {q : vw_C} (h : fw_nth vwCl a = some q) : ∀ w ∈ u_ws q.1 q.2.1 q.2.2, w ∈ fw_lw := by
  rw [fw_nth_eq] at h
  have h1 := List.all_eq_true.mp fw_ly_ok q (List.mem_of_getElem? h)
  intro w hw
  have h2 := List.all_eq_true.mp h1 w hw
  simp only [Bool.and_eq_true, decide_eq_true_eq] at h2
  exact List.mem_filter.mpr ⟨h2.1, h2.2⟩
theorem fw_ce_obj {ad : Nat → Nat} {cI cB : ClassId} {I : Nat → Nat → Int32} {o c ln : Nat} {fl : List (Option (Option Nat))} (hc : c ≤ 4) : fw_ce ad cI cB I o (c, ln, fl) = .inr (c, fl.mapIdx (fun k x => fw_f1 ad I o k x)) := by
  have h1 : ¬ c = 10 := by omega
  have h2 : ¬ c = 11 := by omega
  simp [fw_ce, h1, h2]
theorem fs_getfield {idx o a b ln N : Nat} {fl : List (Option (Option Nat))} {C : String} {T : u_T} {v : Value} {x : Option (Option Nat)} (hd : decode (fw_b mi) pc = .ok (.getfield idx, 3)) (ha : a ≤ 4) (hq : fw_nth vwCl a = some (C, T, N)) (hbN : b < N) (hl : Cond.fieldLink (fw_y mi).cls idx (T b).1 (T b).2.1 (T b).2.2.1 ∈ fw_lw)
    (ho : fw_nth σ.1 o = some (a, ln, fl)) (hx : fw_nth fl b = some x) (hv : ∀ ad, fw_f1 ad σ.2 o b x = fw_cz ad v) (h : fw_Go X l mi Q (pc + 3) k n lo (v :: st) σ) : fw_Go X l mi Q pc k n lo (.ref o :: st) σ := by
  intro p e s m args below meth c D cI cB n0 ad0 ad A Z H locs ls hC hW hL hk hn hR
  have h1 : (fw_w ad cI cB σ)[o]? = some (ad o, .inr (a, fl.mapIdx (fun k x => fw_f1 ad σ.2 o k x))) := by rw [fw_w_some ho, fw_ce_obj ha]
  have h2 : (fl.mapIdx (fun k x => fw_f1 ad σ.2 o k x))[b]? = some (fw_cz ad v) := by
    rw [fw_nth_eq] at hx
    rw [List.getElem?_mapIdx, hx]
    exact congrArg some (hv ad)
  rw [fw_nth_eq] at hq
  exact va_get (C := C) (T := T) (N := N) (ref := (T b).1) hC.1 hC.2.1 hC.2.2.2.2.1 (fw_vw_words (q := (C, T, N)) (by rw [fw_nth_eq]; exact hq)) hC.2.2.2.1 hW.1 hW.2.1 o h1 hq b hbN (hC.2.2.2.2.1 _ hl) (fun _ z => z) h2 hd (h p e s m args below meth c D cI cB n0 ad0 ad A Z H locs ls hC hW hL hk hn hR)
theorem fw_vw_ty {a : Nat} {C : String} {T : u_T} {N : Nat} (h : fw_nth vwCl a = some (C, T, N)) : ∃ ty0 : Nat → FieldType, (∀ k, k < N → parseFieldDescriptor (T k).2.2.1 = some (ty0 k)) ∧ ∀ a, a < N → ∀ b, b < N → a ≠ b → (T a).2.1 ≠ (T b).2.1 := by
  match a, h with
  | 0, h => cases h; exact ⟨tyX1, tyX1_ok, nmX1⟩
  | 1, h => cases h; exact ⟨tyX3, tyX3_ok, nmX3⟩
  | 2, h => cases h; exact ⟨tyX4, tyX4_ok, nmX4⟩
  | 3, h => cases h; exact ⟨tyX5, tyX5_ok, nmX5⟩
  | 4, h => cases h; exact ⟨tyX6, tyX6_ok, nmX6⟩
  | a + 5, h => cases h
def fw_ptB (a b : Nat) : Bool := match fw_nth vwCl a with
  | some (_, T, N) => Nat.blt b N && match fw_nth (fw_fl0 a) b with
    | some none => decide ((T b).2.2.2 = false) && decide (parseFieldDescriptor (T b).2.2.1 = some (if fw_isZ a b then .boolean else .int))
    | some (some _) => decide ((T b).2.2.2 = true) && (match parseFieldDescriptor (T b).2.2.1 with
      | some (.object _) => true
      | some (.array _) => true
      | _ => false)
    | none => false
  | none => false
theorem fw_pt_ok : ([(0, 11), (1, 3), (2, 2), (3, 9), (4, 27)] : List (Nat × Nat)).all (fun q => (List.range q.2).all (fun b => fw_ptB q.1 b)) = true := by decide +kernel
theorem fw_pt {a b N : Nat} {C : String} {T : u_T} (hq : fw_nth vwCl a = some (C, T, N)) (hb : b < N) : fw_ptB a b = true := by
  have h0 : (a, N) ∈ ([(0, 11), (1, 3), (2, 2), (3, 9), (4, 27)] : List (Nat × Nat)) := by
    match a, hq with
    | 0, h => cases h; decide
    | 1, h => cases h; decide
    | 2, h => cases h; decide
    | 3, h => cases h; decide
    | 4, h => cases h; decide
    | a + 5, h => cases h
  exact List.all_eq_true.mp (List.all_eq_true.mp fw_pt_ok _ h0) b (List.mem_range.mpr hb)
theorem fw_map_set {ad : Nat → Nat} {I I' : Nat → Nat → Int32} {o b : Nat} {fl : List (Option (Option Nat))} {x : Option (Option Nat)} (hI : ∀ j, j ≠ b → I' o j = I o j) : (fl.mapIdx (fun k x => fw_f1 ad I o k x)).set b (fw_f1 ad I' o b x) = (fl.set b x).mapIdx (fun k x => fw_f1 ad I' o k x) := by
  apply List.ext_getElem?
  intro j
  by_cases hj : b = j
  · subst hj
    by_cases hl : b < fl.length
    · rw [List.getElem?_set_self (by simpa using hl), List.getElem?_mapIdx, List.getElem?_set_self hl]
      rfl
    · rw [List.getElem?_eq_none (by simp; omega), List.getElem?_eq_none (by simp; omega)]
  · rw [List.getElem?_set_ne hj, List.getElem?_mapIdx, List.getElem?_mapIdx, List.getElem?_set_ne hj]
    cases fl[j]? with
    | none => rfl
    | some y =>
      have h1 := hI j (fun z => hj z.symm)
      rcases y with _ | _ | q <;> simp [fw_f1, h1]
theorem fs_putfield {idx o a b ln N : Nat} {fl : List (Option (Option Nat))} {C : String} {T : u_T} {x : Int32} (hd : decode (fw_b mi) pc = .ok (.putfield idx, 3)) (ha : a ≤ 4) (hq : fw_nth vwCl a = some (C, T, N)) (hbN : b < N) (hl : Cond.fieldLink (fw_y mi).cls idx (T b).1 (T b).2.1 (T b).2.2.1 ∈ fw_lw)
    (ho : fw_nth σ.1 o = some (a, ln, fl)) (hx : fw_nth fl b = some none) (hx0 : fw_nth (fw_fl0 a) b = some none) (hz : fw_isZ a b = true → fw_bool x) (h : fw_Go X l mi Q (pc + 3) k n lo st (σ.1, fw_up σ.2 o b x)) : fw_Go X l mi Q pc k n lo (.int x :: .ref o :: st) σ := by
  intro p e s m args below meth c D cI cB n0 ad0 ad A Z H locs ls hC hW hL hk hn hR
  have h1 : (fw_w ad cI cB σ)[o]? = some (ad o, .inr (a, fl.mapIdx (fun k x => fw_f1 ad σ.2 o k x))) := by rw [fw_w_some ho, fw_ce_obj ha]
  have hb := fw_pt hq hbN
  simp only [fw_ptB, hq, hx0, Bool.and_eq_true, decide_eq_true_eq] at hb
  obtain ⟨ty0, hty, hnm⟩ := fw_vw_ty hq
  have hlen : b < fl.length := by rw [fw_nth_eq] at hx; exact (List.getElem?_eq_some_iff.mp hx).1
  have hq' := hq
  rw [fw_nth_eq] at hq
  have hnf : narrow (if fw_isZ a b then .boolean else .int) (.int x) = .int x ∧ fits (if fw_isZ a b then .boolean else .int) (.int x) = true := by
    cases hzz : fw_isZ a b with
    | true => rcases hz hzz with rfl | rfl <;> decide +kernel
    | false => exact ⟨rfl, rfl⟩
  refine va_put (C := C) (T := T) (N := N) (ref := (T b).1) hC.1 hC.2.1 hC.2.2.2.2.1 (fw_vw_words (q := (C, T, N)) hq') ty0 hty hnm hC.2.2.2.1 hW.1 hW.2.1 hW.2.2.1 hW.2.2.2.1 o h1 hq b hbN (hC.2.2.2.2.1 _ hl) (fun _ z => z) hb.2.1 hb.2.2 hnf.1 hnf.2 (by simpa using hlen) hd (fun H1 locs1 hP hD hS => ?_)
  have e1 : (fw_w ad cI cB σ).set o (ad o, .inr (a, (fl.mapIdx (fun k x => fw_f1 ad σ.2 o k x)).set b (.int x))) = fw_w ad cI cB (σ.1, fw_up σ.2 o b x) := by
    rw [fw_w_set (I' := fw_up σ.2 o b x) (e' := (a, ln, fl)) fw_up_ne ?_, fw_setself ho]
    rw [fw_ce_obj ha]
    have e2 := fw_map_set (ad := ad) (I := σ.2) (I' := fw_up σ.2 o b x) (o := o) (b := b) (fl := fl) (x := none) (fun j hj => by simp [fw_up, hj])
    have e3 : fw_f1 ad (fw_up σ.2 o b x) o b none = .int x := by simp [fw_f1, fw_up]
    rw [e3, fw_setself hx] at e2
    rw [e2]
  change va_P D vwCl ((fw_w ad cI cB σ).set o (ad o, .inr (a, (fl.mapIdx (fun k x => fw_f1 ad σ.2 o k x)).set b (.int x)))) H1 at hP
  change va_D A ((fw_w ad cI cB σ).set o (ad o, .inr (a, (fl.mapIdx (fun k x => fw_f1 ad σ.2 o k x)).set b (.int x)))) at hD
  rw [e1] at hP hD
  exact h p e s m args below meth c D cI cB n0 ad0 ad A Z H1 locs1 ls hC ⟨hW.1, hP, hD, hS, hW.2.2.2.2⟩ hL hk hn hR
theorem fs_putfieldR {idx o a b ln N r : Nat} {fl : List (Option (Option Nat))} {C : String} {T : u_T} {x0 x1 : Option Nat} (hd : decode (fw_b mi) pc = .ok (.putfield idx, 3)) (ha : a ≤ 4) (hq : fw_nth vwCl a = some (C, T, N)) (hbN : b < N) (hl : Cond.fieldLink (fw_y mi).cls idx (T b).1 (T b).2.1 (T b).2.2.1 ∈ fw_lw)
    (hcl : (T b).1 = (fw_y mi).cls) (hin : (fw_y mi).name = "<init>") (ho : fw_nth σ.1 o = some (a, ln, fl)) (hx : fw_nth fl b = some (some x0)) (hx0 : fw_nth (fw_fl0 a) b = some (some x1)) (h : fw_Go X l mi Q (pc + 3) k n lo st (σ.1.set o (a, ln, fl.set b (some (some r))), σ.2)) : fw_Go X l mi Q pc k n lo (.ref r :: .ref o :: st) σ := by
  intro p e s m args below meth c D cI cB n0 ad0 ad A Z H locs ls hC hW hL hk hn hR
  have h1 : (fw_w ad cI cB σ)[o]? = some (ad o, .inr (a, fl.mapIdx (fun k x => fw_f1 ad σ.2 o k x))) := by rw [fw_w_some ho, fw_ce_obj ha]
  have hb := fw_pt hq hbN
  simp only [fw_ptB, hq, hx0, Bool.and_eq_true, decide_eq_true_eq] at hb
  obtain ⟨ty0, hty, hnm⟩ := fw_vw_ty hq
  have hlen : b < fl.length := by rw [fw_nth_eq] at hx; exact (List.getElem?_eq_some_iff.mp hx).1
  have hq' := hq
  rw [fw_nth_eq] at hq
  obtain ⟨ty, hty1, hn1, hn2⟩ : ∃ ty, parseFieldDescriptor (T b).2.2.1 = some ty ∧ narrow ty (.ref (ad r)) = .ref (ad r) ∧ fits ty (.ref (ad r)) = true := by
    have h9 := hb.2.2
    split at h9
    · rename_i nm hp; exact ⟨_, hp, rfl, rfl⟩
    · rename_i t hp; exact ⟨_, hp, rfl, rfl⟩
    · cases h9
  refine va_putF (C := C) (T := T) (N := N) (ref := (T b).1) hC.1 hC.2.1 hC.2.2.2.2.1 (fw_vw_words (q := (C, T, N)) hq') ty0 hty hnm hC.2.2.2.1 hW.1 hW.2.1 hW.2.2.1 hW.2.2.2.1 o h1 hq b hbN (hC.2.2.2.2.1 _ hl) (fun _ z => z) hb.2.1 (hC.2.2.2.2.2.2.trans hin) hcl hty1 hn1 hn2 (by simpa using hlen) hd (fun H1 locs1 hP hD hS => ?_)
  have e1 : (fw_w ad cI cB σ).set o (ad o, .inr (a, (fl.mapIdx (fun k x => fw_f1 ad σ.2 o k x)).set b (.ref (ad r)))) = fw_w ad cI cB (σ.1.set o (a, ln, fl.set b (some (some r))), σ.2) := by
    rw [fw_w_set (I' := σ.2) (e' := (a, ln, fl.set b (some (some r)))) (fun _ _ => rfl) ?_]
    rw [fw_ce_obj ha]
    have e2 := fw_map_set (ad := ad) (I := σ.2) (I' := σ.2) (o := o) (b := b) (fl := fl) (x := some (some r)) (fun j hj => rfl)
    have e3 : fw_f1 ad σ.2 o b (some (some r)) = .ref (ad r) := rfl
    rw [e3] at e2
    rw [e2]
  change va_P D vwCl ((fw_w ad cI cB σ).set o (ad o, .inr (a, (fl.mapIdx (fun k x => fw_f1 ad σ.2 o k x)).set b (.ref (ad r))))) H1 at hP
  change va_D A ((fw_w ad cI cB σ).set o (ad o, .inr (a, (fl.mapIdx (fun k x => fw_f1 ad σ.2 o k x)).set b (.ref (ad r))))) at hD
  rw [e1] at hP hD
  exact h p e s m args below meth c D cI cB n0 ad0 ad A Z H1 locs1 ls hC ⟨hW.1, hP, hD, hS, hW.2.2.2.2.1, hW.2.2.2.2.2.1, by rw [List.length_set]; exact hW.2.2.2.2.2.2⟩ hL hk hn hR
-- text
theorem fs_strf {idx o b : Nat} {nm d : String} {v : Value} (hd : decode (fw_b mi) pc = .ok (.getfield idx, 3)) (hl : Cond.fieldLink (fw_y mi).cls idx RJ0 nm d ∈ fw_lw) (hv : ∀ {ad : Nat → Nat} {A : Nat → Prop} {U : State} {H : Heap}, fw_E X ad A U H → va_OF RJ0 nm d (fw_cz ad v) (ad o) A U H) (h : fw_Go X l mi Q (pc + 3) k n lo (v :: st) σ) : fw_Go X l mi Q pc k n lo (.ref o :: st) σ :=
  fun p e s m args below meth c D cI cB n0 ad0 ad A Z H locs ls hC hW hL hk hn hR => vk_getf hC.1 hC.2.1 (hv hW.2.2.2.2.1) hW.2.2.2.1 hC.2.2.2.1 (hC.2.2.2.2.1 _ hl) (fun _ z => z) hd (h p e s m args below meth c D cI cB n0 ad0 ad A Z H locs ls hC hW hL hk hn hR)
theorem fs_strb {r : Nat} {j : Int32} (hd : decode (fw_b mi) pc = .ok (.baload, 1)) (hr : 1100 ≤ r ∧ r ≤ 1105) (hj : fw_in j (fw_slen.getD (r - 1100) 0)) (h : fw_Go X l mi Q (pc + 1) k n lo (.int ((fw_sbyt.getD (r - 1100) []).getD j.toNatClampNeg 0) :: st) σ) : fw_Go X l mi Q pc k n lo (.int j :: .ref r :: st) σ := by
  intro p e s m args below meth c D cI cB n0 ad0 ad A Z H locs ls hC hW hL hk hn hR
  obtain ⟨cell, h1, h2, h3, h4, h5, h6, h7⟩ := ((hW.2.2.2.2.1.2.1.1 (r - 1100) (by omega)).2.2.2).kept hW.2.2.2.1.2.1
  have e1 : 1100 + (r - 1100) = r := by omega
  dsimp only at h1
  rw [e1] at h1
  have hlt : j.toNatClampNeg < fw_slen.getD (r - 1100) 0 := Nat.not_le.mp fun q => fw_in_vp hj (Or.inr q)
  exact W.bald (v := .int ((fw_sbyt.getD (r - 1100) []).getD j.toNatClampNeg 0)) hC.1 hC.2.1 h1 h2 h3 (fun q => fw_in_vp hj (q.imp id (fun z => Nat.le_trans h4 z))) (h6 _ hlt) rfl rfl hd (h p e s m args below meth c D cI cB n0 ad0 ad A Z H locs ls hC hW hL hk hn hR)
theorem fs_stral {r : Nat} (hd : decode (fw_b mi) pc = .ok (.arraylength, 1)) (hr : 1100 ≤ r ∧ r ≤ 1105) (h : fw_Go X l mi Q (pc + 1) k n lo (.int (Int32.ofNat (fw_slen.getD (r - 1100) 0)) :: st) σ) : fw_Go X l mi Q pc k n lo (.ref r :: st) σ := by
  intro p e s m args below meth c D cI cB n0 ad0 ad A Z H locs ls hC hW hL hk hn hR
  obtain ⟨cell, h1, h2, h3, h4, h5, h6, h7⟩ := ((hW.2.2.2.2.1.2.1.1 (r - 1100) (by omega)).2.2.2).kept hW.2.2.2.1.2.1
  have e1 : 1100 + (r - 1100) = r := by omega
  dsimp only at h1
  rw [e1] at h1
  exact W.alen hC.1 hC.2.1 h1 h2 h5 rfl rfl hd (h p e s m args below meth c D cI cB n0 ad0 ad A Z H locs ls hC hW hL hk hn hR)
theorem fs_gets {idx : Nat} {C nm d : String} {v : Value} (hd : decode (fw_b mi) pc = .ok (.getstatic idx, 3)) (hl : Cond.fieldLink (fw_y mi).cls idx C nm d ∈ fw_lw) (hv : ∀ {ad : Nat → Nat} {A : Nat → Prop} {U : State} {H : Heap}, fw_E X ad A U H → va_Z C nm d (fw_cz ad v) A U H) (h : fw_Go X l mi Q (pc + 3) k n lo (v :: st) σ) : fw_Go X l mi Q pc k n lo st σ :=
  fun p e s m args below meth c D cI cB n0 ad0 ad A Z H locs ls hC hW hL hk hn hR => va_gets hC.1 hC.2.1 (hv hW.2.2.2.2.1) hW.2.2.2.1 hC.2.2.2.1 (hC.2.2.2.2.1 _ hl) (fun _ z => z) hd (h p e s m args below meth c D cI cB n0 ad0 ad A Z H locs ls hC hW hL hk hn hR)
theorem fs_ldcs {idx i : Nat} (hd : decode (fw_b mi) pc = .ok (.ldc idx, 2)) (ho : (fw_y mi).cls = RX3) (hi : i < 6) (hx : fw_six i = idx) (h : fw_Go X l mi Q (pc + 2) k n lo (.ref (1000 + i) :: st) σ) : fw_Go X l mi Q pc k n lo st σ :=
  fun p e s m args below meth c D cI cB n0 ad0 ad A Z H locs ls hC hW hL hk hn hR => va_ldcS (own := RX3) hC.1 hC.2.1 (by rw [← ho]; exact hC.2.2.2.1) (hx ▸ hW.2.2.2.2.1.2.2.1 i hi) hd (h p e s m args below meth c D cI cB n0 ad0 ad A Z H locs ls hC hW hL hk hn hR)
theorem fs_ldc {idx : Nat} {v : Int32} (hd : decode (fw_b mi) pc = .ok (.ldc idx, 2)) (hl : Cond.constant (fw_y mi).cls idx v ∈ fw_lw) (h : fw_Go X l mi Q (pc + 2) k n lo (.int v :: st) σ) : fw_Go X l mi Q pc k n lo st σ :=
  fun p e s m args below meth c D cI cB n0 ad0 ad A Z H locs ls hC hW hL hk hn hR => lv_ldc hC.1 hC.2.1 hC.2.2.2.1 (hC.2.2.2.2.1 _ hl) hd (h p e s m args below meth c D cI cB n0 ad0 ad A Z H locs ls hC hW hL hk hn hR)
theorem fs_ldcw {idx : Nat} {v : Int32} (hd : decode (fw_b mi) pc = .ok (.ldc_w idx, 3)) (hl : Cond.constant (fw_y mi).cls idx v ∈ fw_lw) (h : fw_Go X l mi Q (pc + 3) k n lo (.int v :: st) σ) : fw_Go X l mi Q pc k n lo st σ :=
  fun p e s m args below meth c D cI cB n0 ad0 ad A Z H locs ls hC hW hL hk hn hR => lv_ldcw hC.1 hC.2.1 hC.2.2.2.1 (hC.2.2.2.2.1 _ hl) hd (h p e s m args below meth c D cI cB n0 ad0 ad A Z H locs ls hC hW hL hk hn hR)
theorem fs_ldc2 {idx : Nat} {v : Int64} (hd : decode (fw_b mi) pc = .ok (.ldc2_w idx, 3)) (hl : Cond.constantLong (fw_y mi).cls idx v ∈ fw_lw) (h : fw_Go X l mi Q (pc + 3) k n lo (.long v :: st) σ) : fw_Go X l mi Q pc k n lo st σ :=
  fun p e s m args below meth c D cI cB n0 ad0 ad A Z H locs ls hC hW hL hk hn hR => lv_ldc2 hC.1 hC.2.1 hC.2.2.2.1 (hC.2.2.2.2.1 _ hl) hd (h p e s m args below meth c D cI cB n0 ad0 ad A Z H locs ls hC hW hL hk hn hR)
end fwM
