section fwS
variable {X : Nat × (Nat → Int32)} {l : Launch} {mi : fw_MI} {Q : Option Value → fw_St → Prop} {k n pc : Nat} {lo : fw_Lo} {st : List Value} {σ : fw_St}
theorem fw_cz_cat (ad : Nat → Nat) (v : Value) : (fw_cz ad v).category = v.category := by
  cases v <;> first | rfl | (simp only [fw_cz]; split <;> rfl)
theorem fw_get_lt {lo : fw_Lo} {j : Nat} {v : Value} (h : fw_get lo j = some v) : lo[j]? = some (some v) := by
  unfold fw_get at h
  rw [fw_nth_eq] at h
  split at h
  · rename_i w hw
    rw [hw]; exact congrArg some h
  · cases h
theorem fw_get_of {lo : fw_Lo} {j : Nat} {v : Value} (h : lo[j]? = some (some v)) : fw_get lo j = some v := by
  unfold fw_get
  rw [fw_nth_eq, h]
def fw_as (ad : Nat → Nat) (lo : fw_Lo) : List (Nat × Value) := (List.range lo.length).filterMap (fun j => (fw_get lo j).map (fun v => (j, fw_cz ad v)))
theorem fw_as_mem {ad : Nat → Nat} {lo : fw_Lo} {j : Nat} {v : Value} (h : fw_get lo j = some v) : (j, fw_cz ad v) ∈ fw_as ad lo := by
  have h1 := fw_get_lt h
  have h2 : j < lo.length := (List.getElem?_eq_some_iff.mp h1).1
  exact List.mem_filterMap.mpr ⟨j, List.mem_range.mpr h2, by rw [h]; rfl⟩
theorem fw_lo.has {ad : Nat → Nat} {ls : Array Slot} {nL : Nat} {lo : fw_Lo} (h : fw_lo ad ls nL lo) : lv_has ls nL (fw_as ad lo) := by
  refine ⟨h.1, h.2.1, fun q hq => ?_⟩
  obtain ⟨j, -, hj⟩ := List.mem_filterMap.mp hq
  cases hg : fw_get lo j with
  | none => rw [hg] at hj; cases hj
  | some v =>
    rw [hg] at hj
    cases hj
    exact h.2.2 j v hg
theorem fw_kill_sp {lo : fw_Lo} {a : Nat} {κ : fw_Lo → Prop} (h : fw_kill lo a κ) : ∃ lo', κ lo' ∧ ∀ (j : Nat) (w : Value), fw_get lo' j = some w → fw_get lo j = some w ∧ ¬ (j + 1 = a ∧ w.category = 2) := by
  unfold fw_kill at h
  split at h
  · exact ⟨lo, h, fun j w hj => ⟨hj, fun z => by omega⟩⟩
  · rename_i j0
    split at h
    · rename_i hl
      obtain ⟨h1, h2⟩ := (fw_set_iff _ _ _ _).mp h
      refine ⟨_, h2, fun j w hj => ?_⟩
      have h3 := fw_get_lt hj
      by_cases he : j0 = j
      · subst he
        rw [List.getElem?_set_self h1] at h3
        cases h3
      · rw [List.getElem?_set_ne he] at h3
        exact ⟨fw_get_of h3, fun z => he (by omega)⟩
    · rename_i hl
      refine ⟨lo, h, fun j w hj => ⟨hj, fun z => ?_⟩⟩
      have e : j = j0 := by omega
      subst e
      rw [hj] at hl
      simp only [fw_long] at hl
      rw [z.2] at hl
      cases hl
theorem fw_st1_sp {lo : fw_Lo} {a : Nat} {x : Value} {κ : fw_Lo → Prop} (h : fw_st1 lo a x κ) : ∃ lo', κ lo' ∧ ∀ (j : Nat) (w : Value), fw_get lo' j = some w → (j = a ∧ w = x) ∨ (j ≠ a ∧ fw_get lo j = some w ∧ ¬ (j + 1 = a ∧ w.category = 2)) := by
  obtain ⟨lo1, h1, h2⟩ := fw_kill_sp h
  obtain ⟨h3, h4⟩ := (fw_set_iff _ _ _ _).mp h1
  refine ⟨_, h4, fun j w hj => ?_⟩
  have h5 := fw_get_lt hj
  by_cases he : a = j
  · subst he
    rw [List.getElem?_set_self h3] at h5
    exact Or.inl ⟨rfl, (Option.some.inj (Option.some.inj h5)).symm⟩
  · rw [List.getElem?_set_ne he] at h5
    exact Or.inr ⟨fun z => he z.symm, h2 j w (fw_get_of h5)⟩
theorem fw_st2_sp {lo : fw_Lo} {a : Nat} {x : Value} {κ : fw_Lo → Prop} (h : fw_st2 lo a x κ) : ∃ lo', κ lo' ∧ ∀ (j : Nat) (w : Value), fw_get lo' j = some w → (j = a ∧ w = x) ∨ (j ≠ a ∧ j ≠ a + 1 ∧ fw_get lo j = some w ∧ ¬ (j + 1 = a ∧ w.category = 2)) := by
  obtain ⟨lo1, h1, h2⟩ := fw_kill_sp h
  obtain ⟨h3, h4⟩ := (fw_set_iff _ _ _ _).mp h1
  obtain ⟨h5, h6⟩ := (fw_set_iff _ _ _ _).mp h4
  refine ⟨_, h6, fun j w hj => ?_⟩
  have h7 := fw_get_lt hj
  by_cases he : a = j
  · subst he
    rw [List.getElem?_set_self h5] at h7
    exact Or.inl ⟨rfl, (Option.some.inj (Option.some.inj h7)).symm⟩
  · rw [List.getElem?_set_ne he] at h7
    by_cases he2 : a + 1 = j
    · subst he2
      rw [List.getElem?_set_self h3] at h7
      cases h7
    · rw [List.getElem?_set_ne he2] at h7
      exact Or.inr ⟨fun z => he z.symm, fun z => he2 z.symm, h2 j w (fw_get_of h7)⟩
theorem fw_lo_of1 {ad : Nat → Nat} {ls : Array Slot} {nL a : Nat} {lo lo' : fw_Lo} {x : Value} (h : ∀ (j : Nat) (w : Value), fw_get lo' j = some w → (j = a ∧ w = x) ∨ (j ≠ a ∧ fw_get lo j = some w ∧ ¬ (j + 1 = a ∧ w.category = 2)))
    (hl : lv_has ls nL ((a, fw_cz ad x) :: (fw_as ad lo).filter (fun q => !(q.1 == a) && !(q.1 + 1 == a && q.2.category == 2)))) : fw_lo ad ls nL lo' := by
  refine ⟨hl.1, hl.2.1, fun j w hj => ?_⟩
  rcases h j w hj with ⟨rfl, rfl⟩ | ⟨h1, h2, h3⟩
  · exact hl.2.2 _ List.mem_cons_self
  · refine hl.2.2 (j, fw_cz ad w) (List.mem_cons_of_mem _ (List.mem_filter.mpr ⟨fw_as_mem h2, ?_⟩))
    have e1 : (j == a) = false := by simpa using h1
    by_cases e2 : j + 1 = a
    · have e3 : ((fw_cz ad w).category == 2) = false := by rw [fw_cz_cat]; simpa using fun z => h3 ⟨e2, z⟩
      simp [e1, e3]
    · have e3 : (j + 1 == a) = false := by simpa using e2
      simp [e1, e3]
theorem fw_lo_of2 {ad : Nat → Nat} {ls : Array Slot} {nL a : Nat} {lo lo' : fw_Lo} {x : Value} (h : ∀ (j : Nat) (w : Value), fw_get lo' j = some w → (j = a ∧ w = x) ∨ (j ≠ a ∧ j ≠ a + 1 ∧ fw_get lo j = some w ∧ ¬ (j + 1 = a ∧ w.category = 2)))
    (hl : lv_has ls nL ((a, fw_cz ad x) :: (fw_as ad lo).filter (fun q => !(q.1 == a) && (!(q.1 == a + 1) && !(q.1 + 1 == a && q.2.category == 2))))) : fw_lo ad ls nL lo' := by
  refine ⟨hl.1, hl.2.1, fun j w hj => ?_⟩
  rcases h j w hj with ⟨rfl, rfl⟩ | ⟨h1, h1', h2, h3⟩
  · exact hl.2.2 _ List.mem_cons_self
  · refine hl.2.2 (j, fw_cz ad w) (List.mem_cons_of_mem _ (List.mem_filter.mpr ⟨fw_as_mem h2, ?_⟩))
    have e1 : (j == a) = false := by simpa using h1
    have e4 : (j == a + 1) = false := by simpa using h1'
    by_cases e2 : j + 1 = a
    · have e3 : ((fw_cz ad w).category == 2) = false := by rw [fw_cz_cat]; simpa using fun z => h3 ⟨e2, z⟩
      simp [e1, e3, e4]
    · have e3 : (j + 1 == a) = false := by simpa using e2
      simp [e1, e3, e4]
theorem fs_iadd {x y : Int32} (hd : decode (fw_b mi) pc = .ok (.iadd, 1))  (h : fw_Go X l mi Q (pc + 1) k n lo (.int (x + y) :: st) σ) : fw_Go X l mi Q pc k n lo (.int y :: .int x :: st) σ :=
  fun p e s m args below meth c D cI cB n0 ad0 ad A Z H locs ls hC hW hL hk hn hR => lv_iadd hC.1 hC.2.1 hd (h p e s m args below meth c D cI cB n0 ad0 ad A Z H locs ls hC hW hL hk hn hR)
theorem fs_isub {x y : Int32} (hd : decode (fw_b mi) pc = .ok (.isub, 1))  (h : fw_Go X l mi Q (pc + 1) k n lo (.int (x - y) :: st) σ) : fw_Go X l mi Q pc k n lo (.int y :: .int x :: st) σ :=
  fun p e s m args below meth c D cI cB n0 ad0 ad A Z H locs ls hC hW hL hk hn hR => lv_isub hC.1 hC.2.1 hd (h p e s m args below meth c D cI cB n0 ad0 ad A Z H locs ls hC hW hL hk hn hR)
theorem fs_imul {x y : Int32} (hd : decode (fw_b mi) pc = .ok (.imul, 1))  (h : fw_Go X l mi Q (pc + 1) k n lo (.int (x * y) :: st) σ) : fw_Go X l mi Q pc k n lo (.int y :: .int x :: st) σ :=
  fun p e s m args below meth c D cI cB n0 ad0 ad A Z H locs ls hC hW hL hk hn hR => lv_imul hC.1 hC.2.1 hd (h p e s m args below meth c D cI cB n0 ad0 ad A Z H locs ls hC hW hL hk hn hR)
theorem fs_iand {x y : Int32} (hd : decode (fw_b mi) pc = .ok (.iand, 1))  (h : fw_Go X l mi Q (pc + 1) k n lo (.int (x &&& y) :: st) σ) : fw_Go X l mi Q pc k n lo (.int y :: .int x :: st) σ :=
  fun p e s m args below meth c D cI cB n0 ad0 ad A Z H locs ls hC hW hL hk hn hR => lv_iand hC.1 hC.2.1 hd (h p e s m args below meth c D cI cB n0 ad0 ad A Z H locs ls hC hW hL hk hn hR)
theorem fs_ior {x y : Int32} (hd : decode (fw_b mi) pc = .ok (.ior, 1))  (h : fw_Go X l mi Q (pc + 1) k n lo (.int (x ||| y) :: st) σ) : fw_Go X l mi Q pc k n lo (.int y :: .int x :: st) σ :=
  fun p e s m args below meth c D cI cB n0 ad0 ad A Z H locs ls hC hW hL hk hn hR => lv_ior hC.1 hC.2.1 hd (h p e s m args below meth c D cI cB n0 ad0 ad A Z H locs ls hC hW hL hk hn hR)
theorem fs_ixor {x y : Int32} (hd : decode (fw_b mi) pc = .ok (.ixor, 1))  (h : fw_Go X l mi Q (pc + 1) k n lo (.int (x ^^^ y) :: st) σ) : fw_Go X l mi Q pc k n lo (.int y :: .int x :: st) σ :=
  fun p e s m args below meth c D cI cB n0 ad0 ad A Z H locs ls hC hW hL hk hn hR => lv_ixor hC.1 hC.2.1 hd (h p e s m args below meth c D cI cB n0 ad0 ad A Z H locs ls hC hW hL hk hn hR)
theorem fs_ishl {x y : Int32} (hd : decode (fw_b mi) pc = .ok (.ishl, 1))  (h : fw_Go X l mi Q (pc + 1) k n lo (.int (x <<< (y &&& 31)) :: st) σ) : fw_Go X l mi Q pc k n lo (.int y :: .int x :: st) σ :=
  fun p e s m args below meth c D cI cB n0 ad0 ad A Z H locs ls hC hW hL hk hn hR => lv_ishl hC.1 hC.2.1 hd (h p e s m args below meth c D cI cB n0 ad0 ad A Z H locs ls hC hW hL hk hn hR)
theorem fs_ishr {x y : Int32} (hd : decode (fw_b mi) pc = .ok (.ishr, 1))  (h : fw_Go X l mi Q (pc + 1) k n lo (.int (x >>> (y &&& 31)) :: st) σ) : fw_Go X l mi Q pc k n lo (.int y :: .int x :: st) σ :=
  fun p e s m args below meth c D cI cB n0 ad0 ad A Z H locs ls hC hW hL hk hn hR => lv_ishr hC.1 hC.2.1 hd (h p e s m args below meth c D cI cB n0 ad0 ad A Z H locs ls hC hW hL hk hn hR)
theorem fs_idiv {x y : Int32} (hd : decode (fw_b mi) pc = .ok (.idiv, 1)) (hz : ¬ y = 0) (h : fw_Go X l mi Q (pc + 1) k n lo (.int (x / y) :: st) σ) : fw_Go X l mi Q pc k n lo (.int y :: .int x :: st) σ :=
  fun p e s m args below meth c D cI cB n0 ad0 ad A Z H locs ls hC hW hL hk hn hR => lv_idiv hC.1 hC.2.1 hd hz (h p e s m args below meth c D cI cB n0 ad0 ad A Z H locs ls hC hW hL hk hn hR)
theorem fs_irem {x y : Int32} (hd : decode (fw_b mi) pc = .ok (.irem, 1)) (hz : ¬ y = 0) (h : fw_Go X l mi Q (pc + 1) k n lo (.int (x - x / y * y) :: st) σ) : fw_Go X l mi Q pc k n lo (.int y :: .int x :: st) σ :=
  fun p e s m args below meth c D cI cB n0 ad0 ad A Z H locs ls hC hW hL hk hn hR => lv_irem hC.1 hC.2.1 hd hz (h p e s m args below meth c D cI cB n0 ad0 ad A Z H locs ls hC hW hL hk hn hR)
theorem fs_iushr {x y : Int32} (hd : decode (fw_b mi) pc = .ok (.iushr, 1))  (h : fw_Go X l mi Q (pc + 1) k n lo (.int (x.toUInt32 >>> (y.toUInt32 &&& Int32.toUInt32 31)).toInt32 :: st) σ) : fw_Go X l mi Q pc k n lo (.int y :: .int x :: st) σ :=
  fun p e s m args below meth c D cI cB n0 ad0 ad A Z H locs ls hC hW hL hk hn hR => lv_iushr hC.1 hC.2.1 hd rfl (h p e s m args below meth c D cI cB n0 ad0 ad A Z H locs ls hC hW hL hk hn hR)
theorem fs_ineg {x : Int32} (hd : decode (fw_b mi) pc = .ok (.ineg, 1))  (h : fw_Go X l mi Q (pc + 1) k n lo (.int (-x) :: st) σ) : fw_Go X l mi Q pc k n lo (.int x :: st) σ :=
  fun p e s m args below meth c D cI cB n0 ad0 ad A Z H locs ls hC hW hL hk hn hR => lv_ineg hC.1 hC.2.1 hd (h p e s m args below meth c D cI cB n0 ad0 ad A Z H locs ls hC hW hL hk hn hR)
theorem fs_i2l {x : Int32} (hd : decode (fw_b mi) pc = .ok (.i2l, 1))  (h : fw_Go X l mi Q (pc + 1) k n lo (.long x.toInt64 :: st) σ) : fw_Go X l mi Q pc k n lo (.int x :: st) σ :=
  fun p e s m args below meth c D cI cB n0 ad0 ad A Z H locs ls hC hW hL hk hn hR => lv_i2l hC.1 hC.2.1 hd rfl (h p e s m args below meth c D cI cB n0 ad0 ad A Z H locs ls hC hW hL hk hn hR)
theorem fs_i2c {x : Int32} (hd : decode (fw_b mi) pc = .ok (.i2c, 1))  (h : fw_Go X l mi Q (pc + 1) k n lo (.int (x.toUInt32 % 65536).toInt32 :: st) σ) : fw_Go X l mi Q pc k n lo (.int x :: st) σ :=
  fun p e s m args below meth c D cI cB n0 ad0 ad A Z H locs ls hC hW hL hk hn hR => lv_i2c hC.1 hC.2.1 hd rfl (h p e s m args below meth c D cI cB n0 ad0 ad A Z H locs ls hC hW hL hk hn hR)
theorem fs_i2b {x : Int32} (hd : decode (fw_b mi) pc = .ok (.i2b, 1))  (h : fw_Go X l mi Q (pc + 1) k n lo (.int x.toInt8.toInt32 :: st) σ) : fw_Go X l mi Q pc k n lo (.int x :: st) σ :=
  fun p e s m args below meth c D cI cB n0 ad0 ad A Z H locs ls hC hW hL hk hn hR => lv_i2b hC.1 hC.2.1 hd rfl (h p e s m args below meth c D cI cB n0 ad0 ad A Z H locs ls hC hW hL hk hn hR)
theorem fs_ladd {x y : Int64} (hd : decode (fw_b mi) pc = .ok (.ladd, 1))  (h : fw_Go X l mi Q (pc + 1) k n lo (.long (x + y) :: st) σ) : fw_Go X l mi Q pc k n lo (.long y :: .long x :: st) σ :=
  fun p e s m args below meth c D cI cB n0 ad0 ad A Z H locs ls hC hW hL hk hn hR => lv_ladd hC.1 hC.2.1 hd (h p e s m args below meth c D cI cB n0 ad0 ad A Z H locs ls hC hW hL hk hn hR)
theorem fs_lsub {x y : Int64} (hd : decode (fw_b mi) pc = .ok (.lsub, 1))  (h : fw_Go X l mi Q (pc + 1) k n lo (.long (x - y) :: st) σ) : fw_Go X l mi Q pc k n lo (.long y :: .long x :: st) σ :=
  fun p e s m args below meth c D cI cB n0 ad0 ad A Z H locs ls hC hW hL hk hn hR => lv_lsub hC.1 hC.2.1 hd (h p e s m args below meth c D cI cB n0 ad0 ad A Z H locs ls hC hW hL hk hn hR)
theorem fs_lmul {x y : Int64} (hd : decode (fw_b mi) pc = .ok (.lmul, 1))  (h : fw_Go X l mi Q (pc + 1) k n lo (.long (x * y) :: st) σ) : fw_Go X l mi Q pc k n lo (.long y :: .long x :: st) σ :=
  fun p e s m args below meth c D cI cB n0 ad0 ad A Z H locs ls hC hW hL hk hn hR => lv_lmul hC.1 hC.2.1 hd (h p e s m args below meth c D cI cB n0 ad0 ad A Z H locs ls hC hW hL hk hn hR)
theorem fs_ldiv {x y : Int64} (hd : decode (fw_b mi) pc = .ok (.ldiv, 1)) (hz : ¬ y = 0) (h : fw_Go X l mi Q (pc + 1) k n lo (.long (x / y) :: st) σ) : fw_Go X l mi Q pc k n lo (.long y :: .long x :: st) σ :=
  fun p e s m args below meth c D cI cB n0 ad0 ad A Z H locs ls hC hW hL hk hn hR => lv_ldiv hC.1 hC.2.1 hd hz (h p e s m args below meth c D cI cB n0 ad0 ad A Z H locs ls hC hW hL hk hn hR)
theorem fs_lrem {x y : Int64} (hd : decode (fw_b mi) pc = .ok (.lrem, 1)) (hz : ¬ y = 0) (h : fw_Go X l mi Q (pc + 1) k n lo (.long (x - x / y * y) :: st) σ) : fw_Go X l mi Q pc k n lo (.long y :: .long x :: st) σ :=
  fun p e s m args below meth c D cI cB n0 ad0 ad A Z H locs ls hC hW hL hk hn hR => lv_lrem hC.1 hC.2.1 hd hz (h p e s m args below meth c D cI cB n0 ad0 ad A Z H locs ls hC hW hL hk hn hR)
theorem fs_lcmp {x y : Int64} (hd : decode (fw_b mi) pc = .ok (.lcmp, 1))  (h : fw_Go X l mi Q (pc + 1) k n lo (.int (lg_cmp x y) :: st) σ) : fw_Go X l mi Q pc k n lo (.long y :: .long x :: st) σ :=
  fun p e s m args below meth c D cI cB n0 ad0 ad A Z H locs ls hC hW hL hk hn hR => W.lcmp hC.1 hC.2.1 hd (h p e s m args below meth c D cI cB n0 ad0 ad A Z H locs ls hC hW hL hk hn hR)
theorem fs_dupi {x : Int32} (hd : decode (fw_b mi) pc = .ok (.dup, 1))  (h : fw_Go X l mi Q (pc + 1) k n lo (.int x :: .int x :: st) σ) : fw_Go X l mi Q pc k n lo (.int x :: st) σ :=
  fun p e s m args below meth c D cI cB n0 ad0 ad A Z H locs ls hC hW hL hk hn hR => lv_dup hC.1 hC.2.1 hd rfl (h p e s m args below meth c D cI cB n0 ad0 ad A Z H locs ls hC hW hL hk hn hR)
theorem fs_dupr {x : Nat} (hd : decode (fw_b mi) pc = .ok (.dup, 1))  (h : fw_Go X l mi Q (pc + 1) k n lo (.ref x :: .ref x :: st) σ) : fw_Go X l mi Q pc k n lo (.ref x :: st) σ :=
  fun p e s m args below meth c D cI cB n0 ad0 ad A Z H locs ls hC hW hL hk hn hR => lv_dup hC.1 hC.2.1 hd rfl (h p e s m args below meth c D cI cB n0 ad0 ad A Z H locs ls hC hW hL hk hn hR)
theorem fs_popi {x : Int32} (hd : decode (fw_b mi) pc = .ok (.pop, 1))  (h : fw_Go X l mi Q (pc + 1) k n lo (st) σ) : fw_Go X l mi Q pc k n lo (.int x :: st) σ :=
  fun p e s m args below meth c D cI cB n0 ad0 ad A Z H locs ls hC hW hL hk hn hR => lv_pop hC.1 hC.2.1 hd rfl (h p e s m args below meth c D cI cB n0 ad0 ad A Z H locs ls hC hW hL hk hn hR)
theorem fs_dup2 {x : Int32} {y : Nat} (hd : decode (fw_b mi) pc = .ok (.dup2, 1))  (h : fw_Go X l mi Q (pc + 1) k n lo (.int x :: .ref y :: .int x :: .ref y :: st) σ) : fw_Go X l mi Q pc k n lo (.int x :: .ref y :: st) σ :=
  fun p e s m args below meth c D cI cB n0 ad0 ad A Z H locs ls hC hW hL hk hn hR => lv_dup2_11 hC.1 hC.2.1 hd rfl rfl (h p e s m args below meth c D cI cB n0 ad0 ad A Z H locs ls hC hW hL hk hn hR)
theorem fs_iconst {z : Int} {v : Int32} (hd : decode (fw_b mi) pc = .ok (.iconst z, 1)) (hv : Int32.ofInt z = v) (h : fw_Go X l mi Q (pc + 1) k n lo (.int v :: st) σ) : fw_Go X l mi Q pc k n lo (st) σ :=
  fun p e s m args below meth c D cI cB n0 ad0 ad A Z H locs ls hC hW hL hk hn hR => lv_iconst hC.1 hC.2.1 hd hv (h p e s m args below meth c D cI cB n0 ad0 ad A Z H locs ls hC hW hL hk hn hR)
theorem fs_bipush {z : Int} {v : Int32} (hd : decode (fw_b mi) pc = .ok (.bipush z, 2)) (hv : (Int8.ofInt z).toInt32 = v) (h : fw_Go X l mi Q (pc + 2) k n lo (.int v :: st) σ) : fw_Go X l mi Q pc k n lo (st) σ :=
  fun p e s m args below meth c D cI cB n0 ad0 ad A Z H locs ls hC hW hL hk hn hR => lv_bipush hC.1 hC.2.1 hd hv (h p e s m args below meth c D cI cB n0 ad0 ad A Z H locs ls hC hW hL hk hn hR)
theorem fs_sipush {z : Int} {v : Int32} (hd : decode (fw_b mi) pc = .ok (.sipush z, 3)) (hv : (Int16.ofInt z).toInt32 = v) (h : fw_Go X l mi Q (pc + 3) k n lo (.int v :: st) σ) : fw_Go X l mi Q pc k n lo (st) σ :=
  fun p e s m args below meth c D cI cB n0 ad0 ad A Z H locs ls hC hW hL hk hn hR => lv_sipush hC.1 hC.2.1 hd hv (h p e s m args below meth c D cI cB n0 ad0 ad A Z H locs ls hC hW hL hk hn hR)
theorem fs_lconst {z : Fin 2} {v : Int64} (hd : decode (fw_b mi) pc = .ok (.lconst z, 1)) (hv : Int64.ofNat (z : Nat) = v) (h : fw_Go X l mi Q (pc + 1) k n lo (.long v :: st) σ) : fw_Go X l mi Q pc k n lo (st) σ :=
  fun p e s m args below meth c D cI cB n0 ad0 ad A Z H locs ls hC hW hL hk hn hR => lv_lconst hC.1 hC.2.1 hd hv (h p e s m args below meth c D cI cB n0 ad0 ad A Z H locs ls hC hW hL hk hn hR)
theorem fs_iload_n {z : Fin 4} {a : Nat} {x : Int32} (hd : decode (fw_b mi) pc = .ok (.iload_n z, 1)) (hz : (z : Nat) = a) (hg : fw_get lo a = some (.int x)) (h : fw_Go X l mi Q (pc + 1) k n lo (.int x :: st) σ) : fw_Go X l mi Q pc k n lo (st) σ :=
  fun p e s m args below meth c D cI cB n0 ad0 ad A Z H locs ls hC hW hL hk hn hR => lv_iload_n hC.1 hC.2.1 hd hz (hL.2.2 a _ hg) (h p e s m args below meth c D cI cB n0 ad0 ad A Z H locs ls hC hW hL hk hn hR)
theorem fs_iload {a : Nat} {x : Int32} (hd : decode (fw_b mi) pc = .ok (.iload a, 2)) (hg : fw_get lo a = some (.int x)) (h : fw_Go X l mi Q (pc + 2) k n lo (.int x :: st) σ) : fw_Go X l mi Q pc k n lo (st) σ :=
  fun p e s m args below meth c D cI cB n0 ad0 ad A Z H locs ls hC hW hL hk hn hR => lv_iload hC.1 hC.2.1 hd (hL.2.2 a _ hg) (h p e s m args below meth c D cI cB n0 ad0 ad A Z H locs ls hC hW hL hk hn hR)
theorem fs_lload_n {z : Fin 4} {a : Nat} {x : Int64} (hd : decode (fw_b mi) pc = .ok (.lload_n z, 1)) (hz : (z : Nat) = a) (hg : fw_get lo a = some (.long x)) (h : fw_Go X l mi Q (pc + 1) k n lo (.long x :: st) σ) : fw_Go X l mi Q pc k n lo (st) σ :=
  fun p e s m args below meth c D cI cB n0 ad0 ad A Z H locs ls hC hW hL hk hn hR => lv_lload_n hC.1 hC.2.1 hd hz (hL.2.2 a _ hg) (h p e s m args below meth c D cI cB n0 ad0 ad A Z H locs ls hC hW hL hk hn hR)
theorem fs_lload {a : Nat} {x : Int64} (hd : decode (fw_b mi) pc = .ok (.lload a, 2)) (hg : fw_get lo a = some (.long x)) (h : fw_Go X l mi Q (pc + 2) k n lo (.long x :: st) σ) : fw_Go X l mi Q pc k n lo (st) σ :=
  fun p e s m args below meth c D cI cB n0 ad0 ad A Z H locs ls hC hW hL hk hn hR => lv_lload hC.1 hC.2.1 hd (hL.2.2 a _ hg) (h p e s m args below meth c D cI cB n0 ad0 ad A Z H locs ls hC hW hL hk hn hR)
theorem fs_aload_n {z : Fin 4} {a : Nat} {x : Nat} (hd : decode (fw_b mi) pc = .ok (.aload_n z, 1)) (hz : (z : Nat) = a) (hg : fw_get lo a = some (.ref x)) (h : fw_Go X l mi Q (pc + 1) k n lo (.ref x :: st) σ) : fw_Go X l mi Q pc k n lo (st) σ :=
  fun p e s m args below meth c D cI cB n0 ad0 ad A Z H locs ls hC hW hL hk hn hR => lv_aload_n hC.1 hC.2.1 hd hz (hL.2.2 a _ hg) (h p e s m args below meth c D cI cB n0 ad0 ad A Z H locs ls hC hW hL hk hn hR)
theorem fs_aload {a : Nat} {x : Nat} (hd : decode (fw_b mi) pc = .ok (.aload a, 2)) (hg : fw_get lo a = some (.ref x)) (h : fw_Go X l mi Q (pc + 2) k n lo (.ref x :: st) σ) : fw_Go X l mi Q pc k n lo (st) σ :=
  fun p e s m args below meth c D cI cB n0 ad0 ad A Z H locs ls hC hW hL hk hn hR => lv_aload hC.1 hC.2.1 hd (hL.2.2 a _ hg) (h p e s m args below meth c D cI cB n0 ad0 ad A Z H locs ls hC hW hL hk hn hR)
theorem fs_istore_n {z : Fin 4} {a : Nat} {x : Int32} (hd : decode (fw_b mi) pc = .ok (.istore_n z, 1)) (hz : (z : Nat) = a) (hb : a < fw_ml mi) (h : fw_st1 lo a (.int x) (fun lo' => fw_Go X l mi Q (pc + 1) k n lo' st σ)) : fw_Go X l mi Q pc k n lo (.int x :: st) σ := by
  obtain ⟨lo', h1, h2⟩ := fw_st1_sp h
  intro p e s m args below meth c D cI cB n0 ad0 ad A Z H locs ls hC hW hL hk hn hR
  exact lv_istore_n hC.1 hC.2.1 hd hz hL.has hb rfl (fun ls1 hl1 => h1 p e s m args below meth c D cI cB n0 ad0 ad A Z H locs ls1 hC hW (fw_lo_of1 h2 hl1) hk hn hR)
theorem fs_istore {a : Nat} {x : Int32} (hd : decode (fw_b mi) pc = .ok (.istore a, 2)) (hb : a < fw_ml mi) (h : fw_st1 lo a (.int x) (fun lo' => fw_Go X l mi Q (pc + 2) k n lo' st σ)) : fw_Go X l mi Q pc k n lo (.int x :: st) σ := by
  obtain ⟨lo', h1, h2⟩ := fw_st1_sp h
  intro p e s m args below meth c D cI cB n0 ad0 ad A Z H locs ls hC hW hL hk hn hR
  exact lv_istore hC.1 hC.2.1 hd hL.has hb rfl (fun ls1 hl1 => h1 p e s m args below meth c D cI cB n0 ad0 ad A Z H locs ls1 hC hW (fw_lo_of1 h2 hl1) hk hn hR)
theorem fs_lstore_n {z : Fin 4} {a : Nat} {x : Int64} (hd : decode (fw_b mi) pc = .ok (.lstore_n z, 1)) (hz : (z : Nat) = a) (hb : a + 1 < fw_ml mi) (h : fw_st2 lo a (.long x) (fun lo' => fw_Go X l mi Q (pc + 1) k n lo' st σ)) : fw_Go X l mi Q pc k n lo (.long x :: st) σ := by
  obtain ⟨lo', h1, h2⟩ := fw_st2_sp h
  intro p e s m args below meth c D cI cB n0 ad0 ad A Z H locs ls hC hW hL hk hn hR
  exact lv_lstore_n hC.1 hC.2.1 hd hz hL.has hb rfl (fun ls1 hl1 => h1 p e s m args below meth c D cI cB n0 ad0 ad A Z H locs ls1 hC hW (fw_lo_of2 h2 hl1) hk hn hR)
theorem fs_lstore {a : Nat} {x : Int64} (hd : decode (fw_b mi) pc = .ok (.lstore a, 2)) (hb : a + 1 < fw_ml mi) (h : fw_st2 lo a (.long x) (fun lo' => fw_Go X l mi Q (pc + 2) k n lo' st σ)) : fw_Go X l mi Q pc k n lo (.long x :: st) σ := by
  obtain ⟨lo', h1, h2⟩ := fw_st2_sp h
  intro p e s m args below meth c D cI cB n0 ad0 ad A Z H locs ls hC hW hL hk hn hR
  exact lv_lstore hC.1 hC.2.1 hd hL.has hb rfl (fun ls1 hl1 => h1 p e s m args below meth c D cI cB n0 ad0 ad A Z H locs ls1 hC hW (fw_lo_of2 h2 hl1) hk hn hR)
theorem fs_astore_n {z : Fin 4} {a : Nat} {x : Nat} (hd : decode (fw_b mi) pc = .ok (.astore_n z, 1)) (hz : (z : Nat) = a) (hb : a < fw_ml mi) (h : fw_st1 lo a (.ref x) (fun lo' => fw_Go X l mi Q (pc + 1) k n lo' st σ)) : fw_Go X l mi Q pc k n lo (.ref x :: st) σ := by
  obtain ⟨lo', h1, h2⟩ := fw_st1_sp h
  intro p e s m args below meth c D cI cB n0 ad0 ad A Z H locs ls hC hW hL hk hn hR
  exact lv_astore_n hC.1 hC.2.1 hd hz hL.has hb rfl (fun ls1 hl1 => h1 p e s m args below meth c D cI cB n0 ad0 ad A Z H locs ls1 hC hW (fw_lo_of1 h2 hl1) hk hn hR)
theorem fs_astore {a : Nat} {x : Nat} (hd : decode (fw_b mi) pc = .ok (.astore a, 2)) (hb : a < fw_ml mi) (h : fw_st1 lo a (.ref x) (fun lo' => fw_Go X l mi Q (pc + 2) k n lo' st σ)) : fw_Go X l mi Q pc k n lo (.ref x :: st) σ := by
  obtain ⟨lo', h1, h2⟩ := fw_st1_sp h
  intro p e s m args below meth c D cI cB n0 ad0 ad A Z H locs ls hC hW hL hk hn hR
  exact lv_astore hC.1 hC.2.1 hd hL.has hb rfl (fun ls1 hl1 => h1 p e s m args below meth c D cI cB n0 ad0 ad A Z H locs ls1 hC hW (fw_lo_of1 h2 hl1) hk hn hR)
theorem fs_iinc {z : Int} {v : Int32} {a : Nat} {x : Int32} (hd : decode (fw_b mi) pc = .ok (.iinc a z, 3)) (hv : Int32.ofInt z = v) (hb : a < fw_ml mi) (hg : fw_get lo a = some (.int x)) (h : fw_st1 lo a (.int (x + v)) (fun lo' => fw_Go X l mi Q (pc + 3) k n lo' st σ)) : fw_Go X l mi Q pc k n lo st σ := by
  obtain ⟨lo', h1, h2⟩ := fw_st1_sp h
  intro p e s m args below meth c D cI cB n0 ad0 ad A Z H locs ls hC hW hL hk hn hR
  obtain ⟨k9, hk9⟩ := List.getElem?_of_mem (fw_as_mem (ad := ad) hg)
  exact lv_iinc (k := k9) (x := x) (v := x + v) hC.1 hC.2.1 hd hL.has hk9 (by rw [hv]) hb rfl (fun ls1 hl1 => h1 p e s m args below meth c D cI cB n0 ad0 ad A Z H locs ls1 hC hW (fw_lo_of1 h2 hl1) hk hn hR)
theorem fs_if_eq {off : Int} {t : Nat} {x : Int32} (hd : decode (fw_b mi) pc = .ok (.ifCond .eq off, 3)) (ht : (pc : Int) + off = (t : Int)) (h : (x = 0 → fw_Go X l mi Q t k n lo st σ) ∧ (¬ x = 0 → fw_Go X l mi Q (pc + 3) k n lo st σ)) : fw_Go X l mi Q pc k n lo (.int x :: st) σ :=
  fun p e s m args below meth c D cI cB n0 ad0 ad A Z H locs ls hC hW hL hk hn hR => lv_if_eq hC.1 hC.2.1 hd ht (fun q => h.1 q p e s m args below meth c D cI cB n0 ad0 ad A Z H locs ls hC hW hL hk hn hR) (fun q => h.2 q p e s m args below meth c D cI cB n0 ad0 ad A Z H locs ls hC hW hL hk hn hR)
theorem fs_icmp_eq {off : Int} {t : Nat} {x y : Int32} (hd : decode (fw_b mi) pc = .ok (.if_icmp .eq off, 3)) (ht : (pc : Int) + off = (t : Int)) (h : (x = y → fw_Go X l mi Q t k n lo st σ) ∧ (¬ x = y → fw_Go X l mi Q (pc + 3) k n lo st σ)) : fw_Go X l mi Q pc k n lo (.int y :: .int x :: st) σ :=
  fun p e s m args below meth c D cI cB n0 ad0 ad A Z H locs ls hC hW hL hk hn hR => lv_icmp_eq hC.1 hC.2.1 hd ht (fun q => h.1 q p e s m args below meth c D cI cB n0 ad0 ad A Z H locs ls hC hW hL hk hn hR) (fun q => h.2 q p e s m args below meth c D cI cB n0 ad0 ad A Z H locs ls hC hW hL hk hn hR)
theorem fs_if_ne {off : Int} {t : Nat} {x : Int32} (hd : decode (fw_b mi) pc = .ok (.ifCond .ne off, 3)) (ht : (pc : Int) + off = (t : Int)) (h : (¬ x = 0 → fw_Go X l mi Q t k n lo st σ) ∧ (x = 0 → fw_Go X l mi Q (pc + 3) k n lo st σ)) : fw_Go X l mi Q pc k n lo (.int x :: st) σ :=
  fun p e s m args below meth c D cI cB n0 ad0 ad A Z H locs ls hC hW hL hk hn hR => lv_if_ne hC.1 hC.2.1 hd ht (fun q => h.1 q p e s m args below meth c D cI cB n0 ad0 ad A Z H locs ls hC hW hL hk hn hR) (fun q => h.2 q p e s m args below meth c D cI cB n0 ad0 ad A Z H locs ls hC hW hL hk hn hR)
theorem fs_icmp_ne {off : Int} {t : Nat} {x y : Int32} (hd : decode (fw_b mi) pc = .ok (.if_icmp .ne off, 3)) (ht : (pc : Int) + off = (t : Int)) (h : (¬ x = y → fw_Go X l mi Q t k n lo st σ) ∧ (x = y → fw_Go X l mi Q (pc + 3) k n lo st σ)) : fw_Go X l mi Q pc k n lo (.int y :: .int x :: st) σ :=
  fun p e s m args below meth c D cI cB n0 ad0 ad A Z H locs ls hC hW hL hk hn hR => lv_icmp_ne hC.1 hC.2.1 hd ht (fun q => h.1 q p e s m args below meth c D cI cB n0 ad0 ad A Z H locs ls hC hW hL hk hn hR) (fun q => h.2 q p e s m args below meth c D cI cB n0 ad0 ad A Z H locs ls hC hW hL hk hn hR)
theorem fs_if_lt {off : Int} {t : Nat} {x : Int32} (hd : decode (fw_b mi) pc = .ok (.ifCond .lt off, 3)) (ht : (pc : Int) + off = (t : Int)) (h : (x < 0 → fw_Go X l mi Q t k n lo st σ) ∧ (¬ x < 0 → fw_Go X l mi Q (pc + 3) k n lo st σ)) : fw_Go X l mi Q pc k n lo (.int x :: st) σ :=
  fun p e s m args below meth c D cI cB n0 ad0 ad A Z H locs ls hC hW hL hk hn hR => lv_if_lt hC.1 hC.2.1 hd ht (fun q => h.1 q p e s m args below meth c D cI cB n0 ad0 ad A Z H locs ls hC hW hL hk hn hR) (fun q => h.2 q p e s m args below meth c D cI cB n0 ad0 ad A Z H locs ls hC hW hL hk hn hR)
theorem fs_icmp_lt {off : Int} {t : Nat} {x y : Int32} (hd : decode (fw_b mi) pc = .ok (.if_icmp .lt off, 3)) (ht : (pc : Int) + off = (t : Int)) (h : (x < y → fw_Go X l mi Q t k n lo st σ) ∧ (¬ x < y → fw_Go X l mi Q (pc + 3) k n lo st σ)) : fw_Go X l mi Q pc k n lo (.int y :: .int x :: st) σ :=
  fun p e s m args below meth c D cI cB n0 ad0 ad A Z H locs ls hC hW hL hk hn hR => lv_icmp_lt hC.1 hC.2.1 hd ht (fun q => h.1 q p e s m args below meth c D cI cB n0 ad0 ad A Z H locs ls hC hW hL hk hn hR) (fun q => h.2 q p e s m args below meth c D cI cB n0 ad0 ad A Z H locs ls hC hW hL hk hn hR)
theorem fs_if_ge {off : Int} {t : Nat} {x : Int32} (hd : decode (fw_b mi) pc = .ok (.ifCond .ge off, 3)) (ht : (pc : Int) + off = (t : Int)) (h : (0 ≤ x → fw_Go X l mi Q t k n lo st σ) ∧ (¬ 0 ≤ x → fw_Go X l mi Q (pc + 3) k n lo st σ)) : fw_Go X l mi Q pc k n lo (.int x :: st) σ :=
  fun p e s m args below meth c D cI cB n0 ad0 ad A Z H locs ls hC hW hL hk hn hR => lv_if_ge hC.1 hC.2.1 hd ht (fun q => h.1 q p e s m args below meth c D cI cB n0 ad0 ad A Z H locs ls hC hW hL hk hn hR) (fun q => h.2 q p e s m args below meth c D cI cB n0 ad0 ad A Z H locs ls hC hW hL hk hn hR)
theorem fs_icmp_ge {off : Int} {t : Nat} {x y : Int32} (hd : decode (fw_b mi) pc = .ok (.if_icmp .ge off, 3)) (ht : (pc : Int) + off = (t : Int)) (h : (y ≤ x → fw_Go X l mi Q t k n lo st σ) ∧ (¬ y ≤ x → fw_Go X l mi Q (pc + 3) k n lo st σ)) : fw_Go X l mi Q pc k n lo (.int y :: .int x :: st) σ :=
  fun p e s m args below meth c D cI cB n0 ad0 ad A Z H locs ls hC hW hL hk hn hR => lv_icmp_ge hC.1 hC.2.1 hd ht (fun q => h.1 q p e s m args below meth c D cI cB n0 ad0 ad A Z H locs ls hC hW hL hk hn hR) (fun q => h.2 q p e s m args below meth c D cI cB n0 ad0 ad A Z H locs ls hC hW hL hk hn hR)
theorem fs_if_gt {off : Int} {t : Nat} {x : Int32} (hd : decode (fw_b mi) pc = .ok (.ifCond .gt off, 3)) (ht : (pc : Int) + off = (t : Int)) (h : (0 < x → fw_Go X l mi Q t k n lo st σ) ∧ (¬ 0 < x → fw_Go X l mi Q (pc + 3) k n lo st σ)) : fw_Go X l mi Q pc k n lo (.int x :: st) σ :=
  fun p e s m args below meth c D cI cB n0 ad0 ad A Z H locs ls hC hW hL hk hn hR => lv_if_gt hC.1 hC.2.1 hd ht (fun q => h.1 q p e s m args below meth c D cI cB n0 ad0 ad A Z H locs ls hC hW hL hk hn hR) (fun q => h.2 q p e s m args below meth c D cI cB n0 ad0 ad A Z H locs ls hC hW hL hk hn hR)
theorem fs_icmp_gt {off : Int} {t : Nat} {x y : Int32} (hd : decode (fw_b mi) pc = .ok (.if_icmp .gt off, 3)) (ht : (pc : Int) + off = (t : Int)) (h : (y < x → fw_Go X l mi Q t k n lo st σ) ∧ (¬ y < x → fw_Go X l mi Q (pc + 3) k n lo st σ)) : fw_Go X l mi Q pc k n lo (.int y :: .int x :: st) σ :=
  fun p e s m args below meth c D cI cB n0 ad0 ad A Z H locs ls hC hW hL hk hn hR => lv_icmp_gt hC.1 hC.2.1 hd ht (fun q => h.1 q p e s m args below meth c D cI cB n0 ad0 ad A Z H locs ls hC hW hL hk hn hR) (fun q => h.2 q p e s m args below meth c D cI cB n0 ad0 ad A Z H locs ls hC hW hL hk hn hR)
theorem fs_if_le {off : Int} {t : Nat} {x : Int32} (hd : decode (fw_b mi) pc = .ok (.ifCond .le off, 3)) (ht : (pc : Int) + off = (t : Int)) (h : (x ≤ 0 → fw_Go X l mi Q t k n lo st σ) ∧ (¬ x ≤ 0 → fw_Go X l mi Q (pc + 3) k n lo st σ)) : fw_Go X l mi Q pc k n lo (.int x :: st) σ :=
  fun p e s m args below meth c D cI cB n0 ad0 ad A Z H locs ls hC hW hL hk hn hR => lv_if_le hC.1 hC.2.1 hd ht (fun q => h.1 q p e s m args below meth c D cI cB n0 ad0 ad A Z H locs ls hC hW hL hk hn hR) (fun q => h.2 q p e s m args below meth c D cI cB n0 ad0 ad A Z H locs ls hC hW hL hk hn hR)
theorem fs_icmp_le {off : Int} {t : Nat} {x y : Int32} (hd : decode (fw_b mi) pc = .ok (.if_icmp .le off, 3)) (ht : (pc : Int) + off = (t : Int)) (h : (x ≤ y → fw_Go X l mi Q t k n lo st σ) ∧ (¬ x ≤ y → fw_Go X l mi Q (pc + 3) k n lo st σ)) : fw_Go X l mi Q pc k n lo (.int y :: .int x :: st) σ :=
  fun p e s m args below meth c D cI cB n0 ad0 ad A Z H locs ls hC hW hL hk hn hR => lv_icmp_le hC.1 hC.2.1 hd ht (fun q => h.1 q p e s m args below meth c D cI cB n0 ad0 ad A Z H locs ls hC hW hL hk hn hR) (fun q => h.2 q p e s m args below meth c D cI cB n0 ad0 ad A Z H locs ls hC hW hL hk hn hR)
theorem fs_goto {off : Int} {t : Nat} (hd : decode (fw_b mi) pc = .ok (.goto off, 3)) (ht : (pc : Int) + off = (t : Int)) (h : fw_Go X l mi Q t k n lo st σ) : fw_Go X l mi Q pc k n lo st σ :=
  fun p e s m args below meth c D cI cB n0 ad0 ad A Z H locs ls hC hW hL hk hn hR => lv_goto hC.1 hC.2.1 hd ht (h p e s m args below meth c D cI cB n0 ad0 ad A Z H locs ls hC hW hL hk hn hR)
end fwS
