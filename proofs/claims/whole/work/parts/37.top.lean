abbrev zS : Type := (Nat → Nat → Nat) × (Nat → Nat → Nat) × (Nat → Nat → Nat) × (Nat → Int32)
/-- a refusal's number -/
def zn_g (c : Nat) : Int32 := -(nI c)
theorem zn_g0 {c : Nat} (hc : c ≤ 6) : zn_g c = 0 ↔ c = 0 := by
  rcases (show c = 0 ∨ c = 1 ∨ c = 2 ∨ c = 3 ∨ c = 4 ∨ c = 5 ∨ c = 6 by omega) with rfl | rfl | rfl | rfl | rfl | rfl | rfl <;> decide
-- the state beside the land now (1) and in the image (2): 3: 0 is there an image, 1 how many letters, 2 the letters, 3 how many told, 4 the told; 4: the refusals
def zs_wf (s : zS) : Prop := s.1 10 0 ≤ 999 ∧ s.2.2.1 0 0 ≤ 1 ∧ s.2.2.1 1 0 ≤ 96 ∧ (∀ j, s.2.2.1 2 j ≤ 255) ∧ s.2.2.1 3 0 ≤ 16 ∧ (∀ j, s.2.2.1 4 j ≤ 99) ∧ (s.2.2.1 0 0 = 1 → s.2.1 10 0 ≤ 999)
def zc_at (s : zS) (I : Nat → Nat → Int32) : Prop :=
  zs_wf s ∧ zl_at 1 s.1 (zl_ow s.1 6) I ∧ I 0 3 = nI (s.2.2.1 0 0) ∧ (s.2.2.1 0 0 = 1 → zl_at 21 s.2.1 (zl_ow s.2.1 6) I) ∧ I 34 1 = nI (s.2.2.1 1 0) ∧ (∀ j, j < s.2.2.1 1 0 → I 35 j = nI (s.2.2.1 2 j)) ∧ I 0 7 = nI (s.2.2.1 3 0) ∧ (∀ j, j < s.2.2.1 3 0 → I 36 j = nI (s.2.2.1 4 j)) ∧ ∀ k, k < 7 → I 37 k = s.2.2.2 k
def zf_hi (I I' : Nat → Nat → Int32) : Prop := ∀ c, 38 ≤ c → I' c = I c
theorem zf_hi.rf {I : Nat → Nat → Int32} : zf_hi I I := fun _ _ => rfl
theorem zf_fr.hi {cs : List Nat} {I I' : Nat → Nat → Int32} (h : zf_fr cs I I') (hc : ∀ c, c ∈ cs → c < 38) : zf_hi I I' := fun c hc2 => h c (fun z => by have := hc c z; omega)
theorem zf_hi.tr {I I' I'' : Nat → Nat → Int32} (h : zf_hi I I') (h2 : zf_hi I' I'') : zf_hi I I'' := fun c hc => (h2 c hc).trans (h c hc)
theorem zf_hi.up {I I' : Nat → Nat → Int32} {o k : Nat} {x : Int32} (h : zf_hi I I') (ho : o < 38) : zf_hi I (fw_up I' o k x) := fun c hc => by rw [fw_up_ne c (by omega)]; exact h c hc
theorem zc_keep {s : zS} {I I' : Nat → Nat → Int32} (h : zc_at s I) (hf : ∀ c, c ≤ 9 ∨ (21 ≤ c ∧ c ≤ 29) ∨ (34 ≤ c ∧ c ≤ 37) → I' c = I c) : zc_at s I' := by
  obtain ⟨h1, h2, h3, h4, h5, h6, h7, h8, h9⟩ := h
  refine ⟨h1, h2.keep (fun c _ _ => hf c (by omega)), by rw [hf 0 (by omega)]; exact h3, fun z => (h4 z).keep (fun c _ _ => hf c (by omega)), by rw [hf 34 (by omega)]; exact h5, fun j hj => by rw [hf 35 (by omega)]; exact h6 j hj, by rw [hf 0 (by omega)]; exact h7, fun j hj => by rw [hf 36 (by omega)]; exact h8 j hj, fun k hk => by rw [hf 37 (by omega)]; exact h9 k hk⟩
theorem zc_now {s : zS} {L' : Nat → Nat → Nat} {I I' : Nat → Nat → Int32} (h : zc_at s I) (hl : zl_at 1 L' (zl_ow L' 6) I') (hd : L' 10 0 ≤ 999) (hf : ∀ c, c = 0 ∨ (21 ≤ c ∧ c ≤ 29) ∨ (34 ≤ c ∧ c ≤ 37) → I' c = I c) : zc_at (L', s.2) I' := by
  obtain ⟨h1, h2, h3, h4, h5, h6, h7, h8, h9⟩ := h
  refine ⟨⟨hd, h1.2⟩, hl, by rw [hf 0 (by omega)]; exact h3, fun z => (h4 z).keep (fun c _ _ => hf c (by omega)), by rw [hf 34 (by omega)]; exact h5, fun j hj => by rw [hf 35 (by omega)]; exact h6 j hj, by rw [hf 0 (by omega)]; exact h7, fun j hj => by rw [hf 36 (by omega)]; exact h8 j hj, fun k hk => by rw [hf 37 (by omega)]; exact h9 k hk⟩
/-- refused: counted -/
def zs_no (s : zS) (c : Nat) : zS := (s.1, s.2.1, s.2.2.1, fun k => if k = c then s.2.2.2 k + 1 else s.2.2.2 k)
theorem zc_no {s : zS} {I : Nat → Nat → Int32} (h : zc_at s I) {c : Nat} (hc : c < 7) : zc_at (zs_no s c) (fw_up I 37 c (I 37 c + 1)) := by
  obtain ⟨h1, h2, h3, h4, h5, h6, h7, h8, h9⟩ := h
  refine ⟨h1, h2.keep (fun c _ _ => fw_up_ne c (by omega)), by rw [fw_up_ne 0 (by omega)]; exact h3, fun z => (h4 z).keep (fun c _ _ => fw_up_ne c (by omega)), by rw [fw_up_ne 34 (by omega)]; exact h5, fun j hj => by rw [fw_up_ne 35 (by omega)]; exact h6 j hj, by rw [fw_up_ne 0 (by omega)]; exact h7, fun j hj => by rw [fw_up_ne 36 (by omega)]; exact h8 j hj, fun k hk => ?_⟩
  by_cases hkc : k = c
  · subst hkc; rw [fw_up_at, h9 k hk]; simp [zs_no]
  · rw [fw_up_k hkc, h9 k hk]; simp [zs_no, hkc]
/-- an operation's contract: its answer, and the state behind it -/
abbrev zs_c (X : Nat × (Nat → Int32)) (l : Launch) (m : fw_MI) (av : List Value) (I : Nat → Nat → Int32) (o : Int32 × zS) : Prop := fw_Sem X l m av (fw_sh, I) (fun r σ => r = some (.int o.1) ∧ ∃ I', σ = (fw_sh, I') ∧ zc_at o.2 I' ∧ zf_hi I I')
def zx_no (s : zS) (c : Nat) : Int32 × zS := (zn_g c, zs_no s c)
def zk_out (x : Int32) (a b : Nat) : Nat := if x.toInt < a then 4 else if (b : Int) < x.toInt then 6 else 0
def zk_oth (x : Int32) (b : Nat) : Nat := if x.toInt < 0 ∨ (b : Int) < x.toInt then 2 else 0
def zk_first (a b : Nat) : Nat := if a = 0 then b else a
theorem zk_out_sp {x : Int32} {a b : Nat} (h : zk_out x a b = 0) (hb : b < 2 ^ 31 := by omega) : ∃ j, a ≤ j ∧ j ≤ b ∧ x = nI j := by
  unfold zk_out at h
  split at h
  · cases h
  · split at h
    · cases h
    · exact ⟨x.toInt.toNat, by omega, by omega, Int32.toInt_inj.mp (by rw [nI_toInt (by omega)]; omega)⟩
theorem zk_oth_sp {x : Int32} {b : Nat} (h : zk_oth x b = 0) (hb : b < 2 ^ 31 := by omega) : ∃ j, j ≤ b ∧ x = nI j := by
  unfold zk_oth at h
  split at h
  · cases h
  · exact ⟨x.toInt.toNat, by omega, Int32.toInt_inj.mp (by rw [nI_toInt (by omega)]; omega)⟩
theorem zk_out_le {x : Int32} {a b : Nat} : zk_out x a b ≤ 6 := by unfold zk_out; repeat' split
                                                                   all_goals omega
theorem zk_oth_le {x : Int32} {b : Nat} : zk_oth x b ≤ 6 := by unfold zk_oth; split <;> omega
theorem zk_first_le {a b : Nat} (ha : a ≤ 6) (hb : b ≤ 6) : zk_first a b ≤ 6 := by unfold zk_first; split <;> omega
theorem fw_mono {X : Nat × (Nat → Int32)} {l : Launch} {mi : fw_MI} {av : List Value} {σ : fw_St} {Q Q' : Option Value → fw_St → Prop} (h : fw_Sem X l mi av σ Q) (hq : ∀ v σ', Q v σ' → Q' v σ') : fw_Sem X l mi av σ Q' := by
  intro D cI cB ad sz
  refine MetFree.mono (h D cI cB ad sz) (fun _ _ h => h) (fun _ _ _ _ _ h => h) ?_
  rintro a st o t _ ⟨⟨⟨v, σ', ad', h1, h2, h3⟩, h4⟩, h5⟩
  exact ⟨⟨⟨v, σ', ad', h1, hq v σ' h2, h3⟩, h4⟩, h5⟩
section zT
variable {X : Nat × (Nat → Int32)} {l : Launch} {I : Nat → Nat → Int32} {s : zS}
theorem ct_out (x : Int32) (a b : Nat) (ha : a < 2 ^ 31 := by omega) (hb : b < 2 ^ 31 := by omega) : zs_p X l mX5_outside [.int x, .int (nI a), .int (nI b)] I (zn_g (zk_out x a b)) := by
  have e : zn_g (zk_out x a b) = zf_out x (nI a) (nI b) := by
    unfold zk_out zf_out
    simp only [zt_lt, nI_toInt ha, nI_toInt hb]
    split
    · rfl
    · split <;> rfl
  rw [e]
  exact ct_outside x (nI a) (nI b)
theorem ct_oth (x : Int32) (b : Nat) (hb : b < 2 ^ 31 := by omega) : zs_p X l mX5_otherThan [.int x, .int (nI b)] I (zn_g (zk_oth x b)) := by
  have e : zn_g (zk_oth x b) = zf_oth x (nI b) := by
    unfold zk_oth zf_oth
    simp only [zt_lt, nI_toInt hb, show (0 : Int32).toInt = 0 from rfl]
    by_cases h1 : x.toInt < 0
    · simp [h1]; rfl
    · by_cases h2 : (b : Int) < x.toInt
      · simp [h1, h2]; rfl
      · simp [h1, h2]; rfl
  rw [e]
  exact ct_otherThan x (nI b)
theorem ct_first {a b : Nat} (ha : a ≤ 6) : zs_p X l mX5_firstOf [.int (zn_g a), .int (zn_g b)] I (zn_g (zk_first a b)) := by
  have e : zn_g (zk_first a b) = zf_first (zn_g a) (zn_g b) := by
    unfold zk_first zf_first
    by_cases h : a = 0
    · simp [h, (zn_g0 (show 0 ≤ 6 by omega)).mpr rfl]
    · rw [if_neg h, if_neg (fun z => h ((zn_g0 ha).mp z))]
  rw [e]
  exact ct_firstOf _ _
theorem ct_no (h : zc_at s I) {c : Nat} (h1 : 1 ≤ c) (h6 : c ≤ 6) : zs_c X l mX5_refuse [.ref 0, .int (zn_g c)] I (zx_no s c) := by
  refine fw_mono (ct_refuse (X := X) (l := l) (I := I) c h1 h6) ?_
  rintro v σ' ⟨rfl, rfl⟩
  exact ⟨rfl, _, rfl, zc_no h (by omega), zf_hi.rf.up (by omega)⟩
end zT
