def fw_pc (cd : List fw_En) (i : Nat) : Option Nat := match fw_nth cd i with
  | some e => some e.1
  | none => none
-- the addresses: what was there stays where it was
def fw_ext (mc n0 : Nat) (ad0 ad : Nat → Nat) : Prop := ∀ i, (mc = 0 ∨ i < n0 ∨ 1000 ≤ i) → ad i = ad0 i
def fw_lo (ad : Nat → Nat) (ls : Array Slot) (nL : Nat) (lo : fw_Lo) : Prop := ls.size = nL ∧ lv_wf ls ∧ ∀ (i : Nat) (v : Value), fw_get lo i = some v → ls[i]? = some (.val (fw_cz ad v))
/-- what a method's start gives, and what stays while it runs -/
def fw_Cx (mi : fw_MI) (p : Program) (s : State) (m : MethodId) (args : Array Value) (meth : Method) (c : Code) (A : Nat → Prop) : Prop :=
  p.tables.exec = Jvm.exec ∧ c.code = fw_b mi ∧ c.maxLocals = fw_ml mi ∧ s.vm.findClass (fw_y mi).cls = some m.cls ∧ (∀ w ∈ fw_lw, w.before args s = true) ∧ (∀ q, s.heap.size ≤ q → A q) ∧ meth.name = (fw_y mi).name
/-- the world now -/
def fw_Wd (X : Nat × (Nat → Int32)) (D : va_G) (cI cB : ClassId) (mc n0 : Nat) (ad0 ad : Nat → Nat) (σ : fw_St) (A : Nat → Prop) (s : State) (H : Heap) (locs : List Loc) : Prop :=
  va_K D vwCl (fw_tys cI cB) s ∧ va_P D vwCl (fw_w ad cI cB σ) H ∧ va_D A (fw_w ad cI cB σ) ∧ va_S A s.heap H locs ∧ fw_E X ad A s s.heap ∧ fw_ext mc n0 ad0 ad ∧ n0 ≤ σ.1.length
/-- an instruction of return, and its value -/
def fw_rok (rt : Option FieldType) (ins : Instr) (v : Option Value) : Prop := match ins, v with
  | .return_, none => rt = none
  | .ireturn, some (.int x) => ∃ ty, rt = some ty ∧ narrow ty (.int x) = .int x
  | .lreturn, some (.long _) => rt = some .long
  | .areturn, some (.ref _) => ∃ nm, rt = some (.object nm)
  | _, _ => False
/-- what a return leads to -/
def fw_Rt (X : Nat × (Nat → Int32)) (l : Launch) (mi : fw_MI) (Q : Option Value → fw_St → Prop) (p : Program) (e : Env) (s : State) (m : MethodId) (args : Array Value) (below : List Frame) (meth : Method) (c : Code) (D : va_G) (cI cB : ClassId) (n0 : Nat) (ad0 : Nat → Nat) (A : Nat → Prop) (Z : State → Prop) : Prop :=
  ∀ (pc : Nat) (ins : Instr) (v : Option Value) (σ : fw_St) (ad : Nat → Nat) (H : Heap) (locs : List Loc) (ls : Array Slot) (k n : Nat), decode (fw_b mi) pc = .ok (ins, 1) → fw_rok (fw_rt mi) ins v → Q v σ → fw_Wd X D cI cB (fw_rm mi).cells n0 ad0 ad σ A s H locs → k ≤ (fw_rm mi).cells → n ≤ (fw_rm mi).slots →
    W p l e (fw_rm mi) s m args below meth c H locs k n Z (F0 m pc ls (v.toList.map (fw_cz ad)))
/-- the machine comes from here to its end, with Q -/
def fw_Go (X : Nat × (Nat → Int32)) (l : Launch) (mi : fw_MI) (Q : Option Value → fw_St → Prop) (pc k n : Nat) (lo : fw_Lo) (st : List Value) (σ : fw_St) : Prop :=
  ∀ (p : Program) (e : Env) (s : State) (m : MethodId) (args : Array Value) (below : List Frame) (meth : Method) (c : Code) (D : va_G) (cI cB : ClassId) (n0 : Nat) (ad0 ad : Nat → Nat) (A : Nat → Prop) (Z : State → Prop) (H : Heap) (locs : List Loc) (ls : Array Slot),
    fw_Cx mi p s m args meth c A → fw_Wd X D cI cB (fw_rm mi).cells n0 ad0 ad σ A s H locs → fw_lo ad ls (fw_ml mi) lo → k ≤ (fw_rm mi).cells → n ≤ (fw_rm mi).slots → fw_Rt X l mi Q p e s m args below meth c D cI cB n0 ad0 A Z →
    W p l e (fw_rm mi) s m args below meth c H locs k n Z (F0 m pc ls (st.map (fw_cz ad)))
/-- a method's start: the whole world -/
def fw_Cn (X : Nat × (Nat → Int32)) (D : va_G) (cI cB : ClassId) (ad : Nat → Nat) (σ : fw_St) (U : State) : Prop :=
  va_K D vwCl (fw_tys cI cB) U ∧ va_P D vwCl (fw_w ad cI cB σ) U.heap ∧ va_D (fun _ => True) (fw_w ad cI cB σ) ∧ fw_E X ad (va_A (fw_w ad cI cB σ) U.heap.size) U U.heap
/-- a method's end -/
def fw_Qc (Q : Option Value → fw_St → Prop) (D : va_G) (cI cB : ClassId) (ad : Nat → Nat) (σ : fw_St) (sz mc : Nat) : Array Value → State → Outcome → State → Prop := fun _ st oc t =>
  (∃ (v : Option Value) (σ' : fw_St) (ad' : Nat → Nat), oc = .returned (v.map (fw_cz ad')) ∧ Q v σ' ∧ fw_ext mc σ.1.length ad ad' ∧ σ.1.length ≤ σ'.1.length ∧ va_P D vwCl (fw_w ad' cI cB σ') t.heap ∧ va_D (va_A (fw_w ad cI cB σ) sz) (fw_w ad' cI cB σ')) ∧ va_F (va_A (fw_w ad cI cB σ) sz) st t
def fw_Sem (X : Nat × (Nat → Int32)) (l : Launch) (mi : fw_MI) (av : List Value) (σ : fw_St) (Q : Option Value → fw_St → Prop) : Prop :=
  ∀ (D : va_G) (cI cB : ClassId) (ad : Nat → Nat) (sz : Nat), Met l (fw_y mi) (fw_ws mi) (fw_rm mi) (va_Pc (av.map (fw_cz ad)) (fun U => U.heap.size = sz ∧ fw_Cn X D cI cB ad σ U)) (fw_Qc Q D cI cB ad σ sz (fw_rm mi).cells) (fw_rm mi).cells (fw_rm mi).slots (va_A (fw_w ad cI cB σ) sz)
-- how the abstract machine steps
def fw_cat : List Value → Nat
  | [] => 0
  | v :: r => v.category + fw_cat r
/-- the arguments of a call, the last on top -/
def fw_arg : Nat → List Value → List Value → (List Value → List Value → Prop) → Prop
  | 0, st, acc, κ => κ acc st
  | _ + 1, [], _, _ => False
  | n + 1, v :: st, acc, κ => fw_arg n st (v :: acc) κ
def fw_refs (n : Nat) : List Value → Bool
  | [] => true
  | .ref i :: r => match Nat.blt i n || Nat.ble 1000 i with
    | true => fw_refs n r
    | false => false
  | _ :: r => fw_refs n r
def fw_lrefs (n : Nat) : fw_Lo → Bool
  | [] => true
  | some (.ref i) :: r => match Nat.blt i n || Nat.ble 1000 i with
    | true => fw_lrefs n r
    | false => false
  | _ :: r => fw_lrefs n r
def fw_srefs (n : Nat) : fw_Sh → Bool := fun sh => sh.all (fun e => e.2.2.all (fun x => match x with
  | some (some i) => Nat.blt i n || Nat.ble 1000 i
  | _ => true))
def fw_cmp : Jvm.ClassFile.Cond → Int32 → Int32 → Prop
  | .eq, x, y => x = y
  | .ne, x, y => x ≠ y
  | .lt, x, y => x < y
  | .ge, x, y => y ≤ x
  | .gt, x, y => y < x
  | .le, x, y => x ≤ y
/-- a boolean field -/
def fw_isZ : Nat → Nat → Bool
  | 3, 3 => true
  | 4, 19 => true
  | 4, 20 => true
  | _, _ => false
def fw_fl0 : Nat → List (Option (Option Nat))
  | 0 => [some none, some none, some none, some none, some none, some none, some none, some none, some none, none, none]
  | 1 => [some none, none, none]
  | 2 => [some none, some none]
  | 3 => [some none, some none, some none, none, some none, some none, some none, none, some none]
  | _ => [some none, some none, some none, some none, some none, some none, some none, none, none, none, none, some none, some none, some none, some none, none, none, none, some none, none, none, none, some none, some none, some none, some none, none]
def fw_sw (x : Int32) (κ : Nat → Prop) (d : Nat) : List (Int32 × Nat) → Prop
  | [] => κ d
  | (k, t) :: r => (x = k → κ t) ∧ (¬ x = k → fw_sw x κ d r)
def fw_in (i : Int32) (n : Nat) : Prop := 0 ≤ i.toInt ∧ i.toInt < (n : Int)
def fw_bool (x : Int32) : Prop := x = 0 ∨ x = 1
def fw_sh : fw_Sh := [(3, 0, [some (some 1), some (some 11), some (some 21), none, some (some 31), some (some 34), some (some 36), none, some (some 37)]), (0, 0, [some (some 2), some (some 3), some (some 4), some (some 5), some (some 6), some (some 7), some (some 8), some (some 9), some (some 10), none, none]), (10, 36, []), (10, 36, []), (10, 6, []), (10, 6, []), (10, 6, []), (10, 6, []), (10, 6, []), (11, 6, []), (10, 6, []), (0, 0, [some (some 12), some (some 13), some (some 14), some (some 15), some (some 16), some (some 17), some (some 18), some (some 19), some (some 20), none, none]), (10, 36, []), (10, 36, []), (10, 6, []), (10, 6, []), (10, 6, []), (10, 6, []), (10, 6, []), (11, 6, []), (10, 6, []), (0, 0, [some (some 22), some (some 23), some (some 24), some (some 25), some (some 26), some (some 27), some (some 28), some (some 29), some (some 30), none, none]), (10, 36, []), (10, 36, []), (10, 6, []), (10, 6, []), (10, 6, []), (10, 6, []), (10, 6, []), (11, 6, []), (10, 6, []), (2, 0, [some (some 32), some (some 33)]), (10, 36, []), (10, 36, []), (1, 0, [some (some 35), none, none]), (10, 96, []), (10, 16, []), (10, 7, []), (4, 0, [some (some 39), some (some 40), some (some 41), some (some 42), some (some 43), some (some 44), some (some 45), none, none, none, none, some (some 46), some (some 47), some (some 48), some (some 49), none, none, none, some (some 50), none, none, none, some (some 51), some (some 52), some (some 53), some (some 54), none]), (10, 7, []), (10, 36, []), (10, 6, []), (10, 6, []), (10, 6, []), (10, 6, []), (10, 6, []), (10, 96, []), (10, 48, []), (10, 48, []), (10, 240, []), (10, 210, []), (10, 36, []), (10, 36, []), (10, 4, []), (10, 16, [])]
