/-! An abstract machine over the kit: cells by their numbers, addresses by a function of the number; 'Go' (the machine comes from a place of a method's code to its end), 'Sem' (a method's contract over the abstract state), and 'run', a function that walks code and leaves what is to be shown. -/
def fw_mem (n : Nat) : List Nat → Bool
  | [] => false
  | a :: r => match Nat.beq a n with
    | true => true
    | false => fw_mem n r
abbrev fw_Sh : Type := List (Nat × Nat × List (Option (Option Nat)))
abbrev fw_St : Type := fw_Sh × (Nat → Nat → Int32)
abbrev fw_Lo : Type := List (Option Value)
def fw_cz (ad : Nat → Nat) : Value → Value
  | .ref i => .ref (ad i)
  | .retAddr _ => if ad 3001 = 0 then .null else .ref (ad 3000)
  | v => v
def fw_get (lo : fw_Lo) (i : Nat) : Option Value := match fw_nth lo i with
  | some (some v) => some v
  | _ => none
/-- a local is set, and the walk goes on with the new list -/
def fw_set : fw_Lo → Nat → Option Value → (fw_Lo → Prop) → Prop
  | [], _, _, _ => False
  | _ :: r, 0, v, κ => κ (v :: r)
  | x :: r, i + 1, v, κ => fw_set r i v (fun r' => κ (x :: r'))
theorem fw_set_iff : ∀ (lo : fw_Lo) (i : Nat) (v : Option Value) (κ : fw_Lo → Prop), fw_set lo i v κ ↔ i < lo.length ∧ κ (lo.set i v)
  | [], i, v, κ => by simp [fw_set]
  | x :: r, 0, v, κ => by simp [fw_set]
  | x :: r, i + 1, v, κ => by simp [fw_set, fw_set_iff r i v]
def fw_long : Option Value → Bool
  | some v => Nat.beq v.category 2
  | none => false
/-- in front of a store at i: a long whose second half stands there is gone -/
def fw_kill (lo : fw_Lo) (i : Nat) (κ : fw_Lo → Prop) : Prop := match i with
  | 0 => κ lo
  | j + 1 => match fw_long (fw_get lo j) with
    | true => fw_set lo j none κ
    | false => κ lo
def fw_st1 (lo : fw_Lo) (i : Nat) (v : Value) (κ : fw_Lo → Prop) : Prop := fw_kill lo i (fun lo' => fw_set lo' i (some v) κ)
def fw_st2 (lo : fw_Lo) (i : Nat) (v : Value) (κ : fw_Lo → Prop) : Prop := fw_kill lo i (fun lo' => fw_set lo' (i + 1) none (fun lo'' => fw_set lo'' i (some v) κ))
def fw_up (I : Nat → Nat → Int32) (o k : Nat) (x : Int32) : Nat → Nat → Int32 := fun a b => if a = o then (if b = k then x else I a b) else I a b
def fw_f1 (ad : Nat → Nat) (I : Nat → Nat → Int32) (o k : Nat) : Option (Option Nat) → Value
  | none => .int (I o k)
  | some none => .null
  | some (some q) => .ref (ad q)
def fw_ce (ad : Nat → Nat) (cI cB : ClassId) (I : Nat → Nat → Int32) (o : Nat) (e : Nat × Nat × List (Option (Option Nat))) : va_E :=
  if e.1 = 10 then .inl (cI, e.2.1, .inl (I o)) else if e.1 = 11 then .inl (cB, e.2.1, .inl (I o)) else .inr (e.1, e.2.2.mapIdx (fun k x => fw_f1 ad I o k x))
def fw_w (ad : Nat → Nat) (cI cB : ClassId) (σ : fw_St) : va_W := σ.1.mapIdx (fun o e => (ad o, fw_ce ad cI cB σ.2 o e))
theorem fw_w_at (ad : Nat → Nat) (cI cB : ClassId) (σ : fw_St) (o : Nat) : (fw_w ad cI cB σ)[o]? = (σ.1[o]?).map (fun e => (ad o, fw_ce ad cI cB σ.2 o e)) := by
  simp [fw_w, List.getElem?_mapIdx]
theorem fw_w_len (ad : Nat → Nat) (cI cB : ClassId) (σ : fw_St) : (fw_w ad cI cB σ).length = σ.1.length := by simp [fw_w]
abbrev fw_tys (cI cB : ClassId) : List (ClassId × FieldType) := [(cI, .int), (cB, .boolean)]
-- the String constants, and what stands outside the world
def fw_six : Nat → Nat
  | 0 => 27 | 1 => 19 | 2 => 21 | 3 => 23 | 4 => 25 | _ => 29
def fw_stx : Nat → String
  | 0 => "" | 1 => "kddddd;" | 2 => "d;" | 3 => "ddddd;" | 4 => "dd;" | _ => "ptmcfh"
def fw_slen : List Nat := [0, 7, 2, 6, 3, 6]
def fw_sbyt : List (List Int32) := [[], [107, 100, 100, 100, 100, 100, 59], [100, 59], [100, 100, 100, 100, 100, 59], [100, 100, 59], [112, 116, 109, 99, 102, 104]]
def fw_E (X : Nat × (Nat → Int32)) (ad : Nat → Nat) (A : Nat → Prop) (U : State) (H : Heap) : Prop :=
  (∀ q ∈ fw_nst, va_Nw (.methodLinkNest q.1 q.2.1 q.2.2.1 q.2.2.2) U) ∧
  vk_S 6 fw_slen fw_sbyt (fun i => ad (1000 + i)) (fun i => ad (1100 + i)) A U H ∧
  (∀ i, i < 6 → vk_R RX3 (fw_six i) (fw_stx i) (ad (1000 + i)) U) ∧
  va_Z RJ0 "COMPACT_STRINGS" "Z" (.int 1) A U H ∧
  va_Z RJ3 "SIOOBE_FORMATTER" "Ljava/util/function/BiFunction;" (fw_cz ad (.retAddr 0)) A U H ∧
  (va_X (ad 2000) X.1 X.2 U H ∧ ad 2000 < H.size ∧ ¬ A (ad 2000))
theorem fw_E.narrow {X : Nat × (Nat → Int32)} {ad : Nat → Nat} {A B : Nat → Prop} {U : State} {H : Heap} (h : fw_E X ad A U H) (hAB : ∀ q, B q → A q) : fw_E X ad B U H :=
  ⟨h.1, h.2.1.narrow hAB, h.2.2.1, h.2.2.2.1.narrow hAB, h.2.2.2.2.1.narrow hAB, h.2.2.2.2.2.1, h.2.2.2.2.2.2.1, fun z => h.2.2.2.2.2.2.2 (hAB _ z)⟩
theorem fw_E.kept {X : Nat × (Nat → Int32)} {ad : Nat → Nat} {A : Nat → Prop} {U : State} {H H1 : Heap} (h : fw_E X ad A U H) (hz : H.size ≤ H1.size) (hq : ∀ a : Nat, a < H.size → ¬ A a → H1[a]? = H[a]?) : fw_E X ad A U H1 :=
  ⟨h.1, h.2.1.kept hq, h.2.2.1, h.2.2.2.1.kept hq, h.2.2.2.2.1.kept hq, h.2.2.2.2.2.1.kept (hq _ h.2.2.2.2.2.2.1 h.2.2.2.2.2.2.2), Nat.lt_of_lt_of_le h.2.2.2.2.2.2.1 hz, h.2.2.2.2.2.2.2⟩
theorem fw_E.warm {X : Nat × (Nat → Int32)} {ad : Nat → Nat} {A : Nat → Prop} {s U : State} {H : Heap} (hW : s.WarmedH U.vm) (h : fw_E X ad A s H) : fw_E X ad A U H :=
  ⟨fun q hq => va_Nw.warmM hW (h.1 q hq), h.2.1.moved hW.alike, fun i hi => (h.2.2.1 i hi).warm hW, h.2.2.2.1.moved hW.alike, h.2.2.2.2.1.moved hW.alike, h.2.2.2.2.2.1.moved hW.alike, h.2.2.2.2.2.2⟩
theorem fw_E.same {X : Nat × (Nat → Int32)} {ad : Nat → Nat} {A : Nat → Prop} {s U : State} {H : Heap} (hv : s.vm = U.vm) (h : fw_E X ad A s H) : fw_E X ad A U H := by
  have hal : s.vm.Alike U.vm := by rw [hv]; exact Vm.Alike.refl _
  exact ⟨fun q hq => va_Nw.same rfl hv (h.1 q hq), h.2.1.moved hal, fun i hi => (h.2.2.1 i hi).same hv.symm, h.2.2.2.1.moved hal, h.2.2.2.2.1.moved hal, h.2.2.2.2.2.1.moved hal, h.2.2.2.2.2.2⟩
theorem fw_E.ext {X : Nat × (Nat → Int32)} {ad ad' : Nat → Nat} {A : Nat → Prop} {s : State} {H : Heap} (he : ∀ i, 1000 ≤ i → ad' i = ad i) (h : fw_E X ad A s H) : fw_E X ad' A s H := by
  have e1 : (fun i => ad' (1000 + i)) = (fun i => ad (1000 + i)) := funext fun i => he _ (by omega)
  have e2 : (fun i => ad' (1100 + i)) = (fun i => ad (1100 + i)) := funext fun i => he _ (by omega)
  have e3 : fw_cz ad' (.retAddr 0) = fw_cz ad (.retAddr 0) := by simp only [fw_cz, he 3001 (by omega), he 3000 (by omega)]
  have e4 := he 2000 (by omega)
  refine ⟨h.1, by rw [e1, e2]; exact h.2.1, fun i hi => by rw [he (1000 + i) (by omega)]; exact h.2.2.1 i hi, h.2.2.2.1, by rw [e3]; exact h.2.2.2.2.1, by rw [e4]; exact h.2.2.2.2.2⟩
