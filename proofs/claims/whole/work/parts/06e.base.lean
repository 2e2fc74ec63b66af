def fw_nth {α : Type} : List α → Nat → Option α
  | [], _ => none
  | a :: _, 0 => some a
  | _ :: r, n + 1 => fw_nth r n
theorem fw_nth_eq {α : Type} : ∀ (l : List α) (n : Nat), fw_nth l n = l[n]?
  | [], n => by simp [fw_nth]
  | a :: r, 0 => by simp [fw_nth]
  | a :: r, n + 1 => by simp [fw_nth, fw_nth_eq r n]
def fw_nst : List (String × Nat × MethodName × String) := [(RX5, 24, yX4_init, RX5), (RX5, 31, yX3_init, RX5), (RX1, 53, yX5_isYard, RX5), (RX3, 107, yX5_isYard, RX5)]
-- words
def fw_lw : List Cond := lw_tbl.filter goodWord
theorem fw_inlw {i : Nat} {w : Cond} (h : fw_nth lw_tbl i = some w) (hg : goodWord w = true) : w ∈ fw_lw := by
  rw [fw_nth_eq] at h
  exact List.mem_filter.mpr ⟨List.mem_of_getElem? h, hg⟩
abbrev fw_y (mi : fw_MI) : MethodName := mi.1
abbrev fw_b (mi : fw_MI) : ByteArray := mi.2.1
abbrev fw_ml (mi : fw_MI) : Nat := mi.2.2.1
abbrev fw_rt (mi : fw_MI) : Option FieldType := mi.2.2.2.1
abbrev fw_rm (mi : fw_MI) : Room := mi.2.2.2.2.1
abbrev fw_ow (mi : fw_MI) : Nat := mi.2.2.2.2.2.1
abbrev fw_cd (mi : fw_MI) : List fw_En := mi.2.2.2.2.2.2
def fw_ws (mi : fw_MI) : List Cond := Cond.code (fw_y mi) (fw_b mi) (fw_ml mi) (fw_rt mi) :: fw_lw
def fw_cn : List String := [RX1, RX3, RX4, RX5, RX6, RX0, RX2, RL, RJ0, RJ1, RJ6, RJ9, RJ2, RJ3, RJ11, RJ10]
def fw_lc : Nat → Int64
  | 0 => 0
  | 1 => 1
  | _ => 4000000000000000000
