theorem fw_set_mono {κ κ' : fw_Lo → Prop} (hκ : ∀ lo, κ lo → κ' lo) : ∀ (lo : fw_Lo) (i : Nat) (v : Option Value), fw_set lo i v κ → fw_set lo i v κ' := fun lo i v h => by
  rw [fw_set_iff] at h ⊢
  exact ⟨h.1, hκ _ h.2⟩
theorem fw_kill_mono {κ κ' : fw_Lo → Prop} (hκ : ∀ lo, κ lo → κ' lo) {lo : fw_Lo} {i : Nat} (h : fw_kill lo i κ) : fw_kill lo i κ' := by
  unfold fw_kill at h ⊢
  split
  · exact hκ _ h
  · rename_i j
    dsimp only at h
    split
    · rename_i hl
      rw [hl] at h
      exact fw_set_mono hκ _ _ _ h
    · rename_i hl
      rw [hl] at h
      exact hκ _ h
theorem fw_mono1 {κ κ' : fw_Lo → Prop} (hκ : ∀ lo, κ lo → κ' lo) {lo : fw_Lo} {i : Nat} {v : Value} (h : fw_st1 lo i v κ) : fw_st1 lo i v κ' := fw_kill_mono (fun _ h => fw_set_mono hκ _ _ _ h) h
theorem fw_mono2 {κ κ' : fw_Lo → Prop} (hκ : ∀ lo, κ lo → κ' lo) {lo : fw_Lo} {i : Nat} {v : Value} (h : fw_st2 lo i v κ) : fw_st2 lo i v κ' := fw_kill_mono (fun _ h => fw_set_mono (fun _ h => fw_set_mono hκ _ _ _ h) _ _ _ h) h
section fwX
variable {X : Nat × (Nat → Int32)} {l : Launch} {mi : fw_MI} {Q : Option Value → fw_St → Prop} {k n pc : Nat} {lo : fw_Lo} {st : List Value} {σ : fw_St} {K : fw_Ki}
theorem fs_table {x : Int32} {d lo1 hi : Int} {offs : Array Int} {len a : Nat} (hd : decode (fw_b mi) pc = .ok (.tableswitch d lo1 hi offs, len)) (ha : fw_tg (fw_cd mi) pc d a = true) (hK : ∀ (i' k n : Nat) (lo : fw_Lo) (st : List Value) (σ : fw_St) (pc' : Nat), fw_pc (fw_cd mi) i' = some pc' → K i' k n lo st σ → fw_Go X l mi Q pc' k n lo st σ) :
    ∀ (sw : List (Int32 × Nat)) (j : Nat), fw_ts (fw_cd mi) pc lo1 offs j sw = true → lo1 + (j : Int) + (sw.length : Int) = hi + 1 → (x.toInt < lo1 ∨ lo1 + (j : Int) ≤ x.toInt) → fw_sw x (fun t => K t k n lo st σ) a sw → fw_Go X l mi Q pc k n lo (.int x :: st) σ
  | [], j, _, h1, h2, h => by
    obtain ⟨t, ht, hp⟩ := fw_tg_sp ha
    intro p e s m args below meth c D cI cB n0 ad0 ad A Z H locs ls hC hW hL hk hn hR
    refine lv_tableOut (tgt := t) hC.1 hC.2.1 hd ?_ hp (hK _ _ _ _ _ _ _ ht h p e s m args below meth c D cI cB n0 ad0 ad A Z H locs ls hC hW hL hk hn hR)
    simp at h1
    omega
  | (q, t) :: r, j, hs, h1, h2, h => by
    simp only [fw_ts, Bool.and_eq_true, decide_eq_true_eq] at hs
    obtain ⟨hs1, hs2, hs3⟩ := hs
    by_cases hx : x = q
    · split at hs2
      · rename_i off hoff
        obtain ⟨tp, ht, hp⟩ := fw_tg_sp hs2
        have hh := h.1 hx
        intro p e s m args below meth c D cI cB n0 ad0 ad A Z H locs ls hC hW hL hk hn hR
        have hxi : x.toInt = lo1 + (j : Int) := by rw [hx]; exact hs1
        refine lv_tableIn (tgt := tp) (off := off) hC.1 hC.2.1 hd (by omega) (by simp at h1; omega) ?_ hp (hK _ _ _ _ _ _ _ ht hh p e s m args below meth c D cI cB n0 ad0 ad A Z H locs ls hC hW hL hk hn hR)
        have e9 : (x.toInt - lo1).toNat = j := by omega
        rw [e9]; exact hoff
      · cases hs2
    · refine fs_table hd ha hK r (j + 1) hs3 (by simp at h1 ⊢; omega) ?_ (h.2 hx)
      have : x.toInt ≠ lo1 + (j : Int) := fun z => hx (Int32.toInt_inj.mp (z.trans hs1.symm))
      omega
theorem fs_look {x : Int32} {d : Int} {ps0 : Array (Int × Int)} {len a : Nat} (hd : decode (fw_b mi) pc = .ok (.lookupswitch d ps0, len)) (hsrt : (ps0.toList.zip (ps0.toList.drop 1)).all (fun (a, next) => a.1 < next.1) = true) (ha : fw_tg (fw_cd mi) pc d a = true) (hK : ∀ (i' k n : Nat) (lo : fw_Lo) (st : List Value) (σ : fw_St) (pc' : Nat), fw_pc (fw_cd mi) i' = some pc' → K i' k n lo st σ → fw_Go X l mi Q pc' k n lo st σ) :
    ∀ (ps : List (Int × Int)) (sw : List (Int32 × Nat)), fw_lk (fw_cd mi) pc ps sw = true → Op.lookupswitch.offset ps0.toList d x.toInt = Op.lookupswitch.offset ps d x.toInt → fw_sw x (fun t => K t k n lo st σ) a sw → fw_Go X l mi Q pc k n lo (.int x :: st) σ
  | [], [], _, h2, h => by
    obtain ⟨t, ht, hp⟩ := fw_tg_sp ha
    intro p e s m args below meth c D cI cB n0 ad0 ad A Z H locs ls hC hW hL hk hn hR
    exact lv_lookup (tgt := t) (off := d) hC.1 hC.2.1 hd hsrt (h2.trans rfl) hp (hK _ _ _ _ _ _ _ ht h p e s m args below meth c D cI cB n0 ad0 ad A Z H locs ls hC hW hL hk hn hR)
  | (mm, off) :: ps, (q, t) :: sw, hs, h2, h => by
    simp only [fw_lk, Bool.and_eq_true, decide_eq_true_eq] at hs
    obtain ⟨hs1, hs2, hs3⟩ := hs
    by_cases hx : x = q
    · obtain ⟨tp, ht, hp⟩ := fw_tg_sp hs2
      have hh := h.1 hx
      intro p e s m args below meth c D cI cB n0 ad0 ad A Z H locs ls hC hW hL hk hn hR
      refine lv_lookup (tgt := tp) (off := off) hC.1 hC.2.1 hd hsrt (h2.trans ?_) hp (hK _ _ _ _ _ _ _ ht hh p e s m args below meth c D cI cB n0 ad0 ad A Z H locs ls hC hW hL hk hn hR)
      have hxi : x.toInt = mm := by rw [hx]; exact hs1
      rw [hxi]
      simp [Op.lookupswitch.offset]
    · exact fs_look hd hsrt ha hK ps sw hs3 (h2.trans (lv_osw hx hs1)) (h.2 hx)
  | [], _ :: _, hs, _, _ => by simp [fw_lk] at hs
  | _ :: _, [], hs, _, _ => by simp [fw_lk] at hs
theorem fw_cl_sp {mc : fw_MI} {i : Nat} {av : List Value} (h : fw_cl X l mi mc K i k n lo av st σ) : fw_cat st ≤ 8 ∧ ((fw_rm mc).cells = 0 ∧ (fw_rm mc).slots = 0 ∨ (k + (fw_rm mc).cells ≤ (fw_rm mi).cells ∧ n + (fw_rm mc).slots ≤ (fw_rm mi).slots ∧ fw_lrefs σ.1.length lo = true ∧ fw_refs σ.1.length st = true)) ∧ ∃ Q' : Option Value → fw_St → Prop, fw_Sem X l mc av σ Q' ∧ ∀ (v : Option Value) (σ' : fw_St), Q' v σ' → K (i + 1) (k + (fw_rm mc).cells) (n + (fw_rm mc).slots) lo (v.toList ++ st) σ' := by
  unfold fw_cl at h
  split at h
  · rename_i h1 h2
    split at h
    · rename_i h3
      refine ⟨Nat.le_of_ble_eq_true h1, Or.inl ⟨h2, h3⟩, ?_⟩
      rw [h2, h3]
      exact h
    · exact h.elim
  · rename_i c h1 h2
    split at h
    · rename_i h3
      simp only [Bool.and_eq_true, Nat.ble_eq] at h3
      refine ⟨Nat.le_of_ble_eq_true h1, Or.inr ⟨by rw [h2]; exact h3.1.1.1, h3.1.1.2, h3.1.2, h3.2⟩, ?_⟩
      rw [h2]
      exact h
    · exact h.elim
  · exact h.elim
theorem fw_ex_sound (hmt : ∀ mc ∈ fw_mt, fw_cdP mc) (hown : fw_nth fw_cn (fw_ow mi) = some (fw_y mi).cls) (hK : ∀ (i' k n : Nat) (lo : fw_Lo) (st : List Value) (σ : fw_St) (pc' : Nat), fw_pc (fw_cd mi) i' = some pc' → K i' k n lo st σ → fw_Go X l mi Q pc' k n lo st σ) {i len : Nat} {v : Int32} {a b : Nat} {sw : List (Int32 × Nat)} {ins : Instr}
    (hok : fw_ok1 mi (fw_pc (fw_cd mi) (i + 1)) (pc, len, v, a, b, sw, ins) = true) (h : fw_ex X l mi Q K i (pc, len, v, a, b, sw, ins) k n lo st σ) : fw_Go X l mi Q pc k n lo st σ := by
  cases ins with
  | iconst z =>
    simp only [fw_ok1, Bool.and_eq_true, decide_eq_true_eq] at hok
    obtain ⟨hd, hv, hn⟩ := hok
    obtain ⟨rfl, hx⟩ := fw_nb_sp hn
    exact fs_iconst hd hv (hK _ _ _ _ _ _ _ hx h)
  | bipush z =>
    simp only [fw_ok1, Bool.and_eq_true, decide_eq_true_eq] at hok
    obtain ⟨hd, hv, hn⟩ := hok
    obtain ⟨rfl, hx⟩ := fw_nb_sp hn
    exact fs_bipush hd hv (hK _ _ _ _ _ _ _ hx h)
  | sipush z =>
    simp only [fw_ok1, Bool.and_eq_true, decide_eq_true_eq] at hok
    obtain ⟨hd, hv, hn⟩ := hok
    obtain ⟨rfl, hx⟩ := fw_nb_sp hn
    exact fs_sipush hd hv (hK _ _ _ _ _ _ _ hx h)
  | lconst z =>
    simp only [fw_ok1, Bool.and_eq_true, decide_eq_true_eq] at hok
    obtain ⟨hd, hv, hn⟩ := hok
    obtain ⟨rfl, hx⟩ := fw_nb_sp hn
    exact fs_lconst hd hv (hK _ _ _ _ _ _ _ hx h)
  | ldc idx =>
    simp only [fw_ok1, Bool.and_eq_true, decide_eq_true_eq] at hok
    obtain ⟨hd, hv, hn⟩ := hok
    obtain ⟨rfl, hx⟩ := fw_nb_sp hn
    match b, hv, h with
    | 0, hv, h => exact fs_ldc hd (fw_csq_sp hv hown) (hK _ _ _ _ _ _ _ hx h)
    | 1, hv, h =>
      simp only [decide_eq_true_eq] at hv
      have e1 : a = 1000 + (a - 1000) := by omega
      have e2 : (fw_y mi).cls = RX3 := by rw [hv.2.2.2] at hown; exact (Option.some.inj hown).symm
      have h9 := hK _ _ _ _ _ _ _ hx h
      rw [e1] at h9
      exact fs_ldcs hd e2 (by omega) hv.2.2.1 h9
    | b + 2, hv, h => exact (show False from h).elim
  | ldc_w idx =>
    simp only [fw_ok1, Bool.and_eq_true, decide_eq_true_eq] at hok
    obtain ⟨hd, hv, hn⟩ := hok
    obtain ⟨rfl, hx⟩ := fw_nb_sp hn
    exact fs_ldcw hd (fw_csq_sp hv hown) (hK _ _ _ _ _ _ _ hx h)
  | ldc2_w idx =>
    simp only [fw_ok1, Bool.and_eq_true, decide_eq_true_eq] at hok
    obtain ⟨hd, hv, hn⟩ := hok
    obtain ⟨rfl, hx⟩ := fw_nb_sp hn
    exact fs_ldc2 hd (fw_lsq_sp hv hown) (hK _ _ _ _ _ _ _ hx h)
  | iload_n z =>
    simp only [fw_ok1, Bool.and_eq_true, decide_eq_true_eq] at hok
    obtain ⟨hd, hv, hn⟩ := hok
    obtain ⟨rfl, hx⟩ := fw_nb_sp hn
    simp only [fw_ex] at h
    split at h
    · rename_i x hg
      exact fs_iload_n hd hv hg (hK _ _ _ _ _ _ _ hx h)
    · exact h.elim
  | iload z =>
    simp only [fw_ok1, Bool.and_eq_true, decide_eq_true_eq] at hok
    obtain ⟨hd, hv, hn⟩ := hok
    obtain ⟨rfl, hx⟩ := fw_nb_sp hn
    subst hv
    simp only [fw_ex] at h
    split at h
    · rename_i x hg
      exact fs_iload hd hg (hK _ _ _ _ _ _ _ hx h)
    · exact h.elim
  | istore_n z =>
    simp only [fw_ok1, Bool.and_eq_true, decide_eq_true_eq] at hok
    obtain ⟨hd, hv, hn⟩ := hok
    obtain ⟨rfl, hx⟩ := fw_nb_sp hn
    simp only [fw_ex] at h
    split at h
    · exact fs_istore_n hd hv.1 hv.2 (fw_mono1 (fun lo' hh => hK _ _ _ _ _ _ _ hx hh) h)
    · exact h.elim
  | istore z =>
    simp only [fw_ok1, Bool.and_eq_true, decide_eq_true_eq] at hok
    obtain ⟨hd, ⟨rfl, hv⟩, hn⟩ := hok
    obtain ⟨rfl, hx⟩ := fw_nb_sp hn
    simp only [fw_ex] at h
    split at h
    · exact fs_istore hd hv (fw_mono1 (fun lo' hh => hK _ _ _ _ _ _ _ hx hh) h)
    · exact h.elim
  | lload_n z =>
    simp only [fw_ok1, Bool.and_eq_true, decide_eq_true_eq] at hok
    obtain ⟨hd, hv, hn⟩ := hok
    obtain ⟨rfl, hx⟩ := fw_nb_sp hn
    simp only [fw_ex] at h
    split at h
    · rename_i x hg
      exact fs_lload_n hd hv hg (hK _ _ _ _ _ _ _ hx h)
    · exact h.elim
  | lload z =>
    simp only [fw_ok1, Bool.and_eq_true, decide_eq_true_eq] at hok
    obtain ⟨hd, hv, hn⟩ := hok
    obtain ⟨rfl, hx⟩ := fw_nb_sp hn
    subst hv
    simp only [fw_ex] at h
    split at h
    · rename_i x hg
      exact fs_lload hd hg (hK _ _ _ _ _ _ _ hx h)
    · exact h.elim
  | lstore_n z =>
    simp only [fw_ok1, Bool.and_eq_true, decide_eq_true_eq] at hok
    obtain ⟨hd, hv, hn⟩ := hok
    obtain ⟨rfl, hx⟩ := fw_nb_sp hn
    simp only [fw_ex] at h
    split at h
    · exact fs_lstore_n hd hv.1 hv.2 (fw_mono2 (fun lo' hh => hK _ _ _ _ _ _ _ hx hh) h)
    · exact h.elim
  | lstore z =>
    simp only [fw_ok1, Bool.and_eq_true, decide_eq_true_eq] at hok
    obtain ⟨hd, ⟨rfl, hv⟩, hn⟩ := hok
    obtain ⟨rfl, hx⟩ := fw_nb_sp hn
    simp only [fw_ex] at h
    split at h
    · exact fs_lstore hd hv (fw_mono2 (fun lo' hh => hK _ _ _ _ _ _ _ hx hh) h)
    · exact h.elim
  | aload_n z =>
    simp only [fw_ok1, Bool.and_eq_true, decide_eq_true_eq] at hok
    obtain ⟨hd, hv, hn⟩ := hok
    obtain ⟨rfl, hx⟩ := fw_nb_sp hn
    simp only [fw_ex] at h
    split at h
    · rename_i x hg
      exact fs_aload_n hd hv hg (hK _ _ _ _ _ _ _ hx h)
    · exact h.elim
  | aload z =>
    simp only [fw_ok1, Bool.and_eq_true, decide_eq_true_eq] at hok
    obtain ⟨hd, hv, hn⟩ := hok
    obtain ⟨rfl, hx⟩ := fw_nb_sp hn
    subst hv
    simp only [fw_ex] at h
    split at h
    · rename_i x hg
      exact fs_aload hd hg (hK _ _ _ _ _ _ _ hx h)
    · exact h.elim
  | astore_n z =>
    simp only [fw_ok1, Bool.and_eq_true, decide_eq_true_eq] at hok
    obtain ⟨hd, hv, hn⟩ := hok
    obtain ⟨rfl, hx⟩ := fw_nb_sp hn
    simp only [fw_ex] at h
    split at h
    · exact fs_astore_n hd hv.1 hv.2 (fw_mono1 (fun lo' hh => hK _ _ _ _ _ _ _ hx hh) h)
    · exact h.elim
  | astore z =>
    simp only [fw_ok1, Bool.and_eq_true, decide_eq_true_eq] at hok
    obtain ⟨hd, ⟨rfl, hv⟩, hn⟩ := hok
    obtain ⟨rfl, hx⟩ := fw_nb_sp hn
    simp only [fw_ex] at h
    split at h
    · exact fs_astore hd hv (fw_mono1 (fun lo' hh => hK _ _ _ _ _ _ _ hx hh) h)
    · exact h.elim
  | iinc z w =>
    simp only [fw_ok1, Bool.and_eq_true, decide_eq_true_eq] at hok
    obtain ⟨hd, ⟨rfl, hv, hb⟩, hn⟩ := hok
    obtain ⟨rfl, hx⟩ := fw_nb_sp hn
    simp only [fw_ex] at h
    split at h
    · rename_i x hg
      exact fs_iinc hd hv hb hg (fw_mono1 (fun lo' hh => hK _ _ _ _ _ _ _ hx hh) h)
    · exact h.elim
  | iadd =>
    simp only [fw_ok1, Bool.and_eq_true, decide_eq_true_eq] at hok
    obtain ⟨hd, hn⟩ := hok
    obtain ⟨rfl, hx⟩ := fw_nb_sp hn
    simp only [fw_ex] at h
    split at h
    · exact fs_iadd hd (hK _ _ _ _ _ _ _ hx h)
    · exact h.elim
  | isub =>
    simp only [fw_ok1, Bool.and_eq_true, decide_eq_true_eq] at hok
    obtain ⟨hd, hn⟩ := hok
    obtain ⟨rfl, hx⟩ := fw_nb_sp hn
    simp only [fw_ex] at h
    split at h
    · exact fs_isub hd (hK _ _ _ _ _ _ _ hx h)
    · exact h.elim
  | imul =>
    simp only [fw_ok1, Bool.and_eq_true, decide_eq_true_eq] at hok
    obtain ⟨hd, hn⟩ := hok
    obtain ⟨rfl, hx⟩ := fw_nb_sp hn
    simp only [fw_ex] at h
    split at h
    · exact fs_imul hd (hK _ _ _ _ _ _ _ hx h)
    · exact h.elim
  | iand =>
    simp only [fw_ok1, Bool.and_eq_true, decide_eq_true_eq] at hok
    obtain ⟨hd, hn⟩ := hok
    obtain ⟨rfl, hx⟩ := fw_nb_sp hn
    simp only [fw_ex] at h
    split at h
    · exact fs_iand hd (hK _ _ _ _ _ _ _ hx h)
    · exact h.elim
  | ior =>
    simp only [fw_ok1, Bool.and_eq_true, decide_eq_true_eq] at hok
    obtain ⟨hd, hn⟩ := hok
    obtain ⟨rfl, hx⟩ := fw_nb_sp hn
    simp only [fw_ex] at h
    split at h
    · exact fs_ior hd (hK _ _ _ _ _ _ _ hx h)
    · exact h.elim
  | ixor =>
    simp only [fw_ok1, Bool.and_eq_true, decide_eq_true_eq] at hok
    obtain ⟨hd, hn⟩ := hok
    obtain ⟨rfl, hx⟩ := fw_nb_sp hn
    simp only [fw_ex] at h
    split at h
    · exact fs_ixor hd (hK _ _ _ _ _ _ _ hx h)
    · exact h.elim
  | ishl =>
    simp only [fw_ok1, Bool.and_eq_true, decide_eq_true_eq] at hok
    obtain ⟨hd, hn⟩ := hok
    obtain ⟨rfl, hx⟩ := fw_nb_sp hn
    simp only [fw_ex] at h
    split at h
    · exact fs_ishl hd (hK _ _ _ _ _ _ _ hx h)
    · exact h.elim
  | ishr =>
    simp only [fw_ok1, Bool.and_eq_true, decide_eq_true_eq] at hok
    obtain ⟨hd, hn⟩ := hok
    obtain ⟨rfl, hx⟩ := fw_nb_sp hn
    simp only [fw_ex] at h
    split at h
    · exact fs_ishr hd (hK _ _ _ _ _ _ _ hx h)
    · exact h.elim
  | iushr =>
    simp only [fw_ok1, Bool.and_eq_true, decide_eq_true_eq] at hok
    obtain ⟨hd, hn⟩ := hok
    obtain ⟨rfl, hx⟩ := fw_nb_sp hn
    simp only [fw_ex] at h
    split at h
    · exact fs_iushr hd (hK _ _ _ _ _ _ _ hx h)
    · exact h.elim
  | ineg =>
    simp only [fw_ok1, Bool.and_eq_true, decide_eq_true_eq] at hok
    obtain ⟨hd, hn⟩ := hok
    obtain ⟨rfl, hx⟩ := fw_nb_sp hn
    simp only [fw_ex] at h
    split at h
    · exact fs_ineg hd (hK _ _ _ _ _ _ _ hx h)
    · exact h.elim
  | i2l =>
    simp only [fw_ok1, Bool.and_eq_true, decide_eq_true_eq] at hok
    obtain ⟨hd, hn⟩ := hok
    obtain ⟨rfl, hx⟩ := fw_nb_sp hn
    simp only [fw_ex] at h
    split at h
    · exact fs_i2l hd (hK _ _ _ _ _ _ _ hx h)
    · exact h.elim
  | i2c =>
    simp only [fw_ok1, Bool.and_eq_true, decide_eq_true_eq] at hok
    obtain ⟨hd, hn⟩ := hok
    obtain ⟨rfl, hx⟩ := fw_nb_sp hn
    simp only [fw_ex] at h
    split at h
    · exact fs_i2c hd (hK _ _ _ _ _ _ _ hx h)
    · exact h.elim
  | i2b =>
    simp only [fw_ok1, Bool.and_eq_true, decide_eq_true_eq] at hok
    obtain ⟨hd, hn⟩ := hok
    obtain ⟨rfl, hx⟩ := fw_nb_sp hn
    simp only [fw_ex] at h
    split at h
    · exact fs_i2b hd (hK _ _ _ _ _ _ _ hx h)
    · exact h.elim
  | ladd =>
    simp only [fw_ok1, Bool.and_eq_true, decide_eq_true_eq] at hok
    obtain ⟨hd, hn⟩ := hok
    obtain ⟨rfl, hx⟩ := fw_nb_sp hn
    simp only [fw_ex] at h
    split at h
    · exact fs_ladd hd (hK _ _ _ _ _ _ _ hx h)
    · exact h.elim
  | lsub =>
    simp only [fw_ok1, Bool.and_eq_true, decide_eq_true_eq] at hok
    obtain ⟨hd, hn⟩ := hok
    obtain ⟨rfl, hx⟩ := fw_nb_sp hn
    simp only [fw_ex] at h
    split at h
    · exact fs_lsub hd (hK _ _ _ _ _ _ _ hx h)
    · exact h.elim
  | lmul =>
    simp only [fw_ok1, Bool.and_eq_true, decide_eq_true_eq] at hok
    obtain ⟨hd, hn⟩ := hok
    obtain ⟨rfl, hx⟩ := fw_nb_sp hn
    simp only [fw_ex] at h
    split at h
    · exact fs_lmul hd (hK _ _ _ _ _ _ _ hx h)
    · exact h.elim
  | lcmp =>
    simp only [fw_ok1, Bool.and_eq_true, decide_eq_true_eq] at hok
    obtain ⟨hd, hn⟩ := hok
    obtain ⟨rfl, hx⟩ := fw_nb_sp hn
    simp only [fw_ex] at h
    split at h
    · exact fs_lcmp hd (hK _ _ _ _ _ _ _ hx h)
    · exact h.elim
  | dup2 =>
    simp only [fw_ok1, Bool.and_eq_true, decide_eq_true_eq] at hok
    obtain ⟨hd, hn⟩ := hok
    obtain ⟨rfl, hx⟩ := fw_nb_sp hn
    simp only [fw_ex] at h
    split at h
    · exact fs_dup2 hd (hK _ _ _ _ _ _ _ hx h)
    · exact h.elim
  | idiv =>
    simp only [fw_ok1, Bool.and_eq_true, decide_eq_true_eq] at hok
    obtain ⟨hd, hn⟩ := hok
    obtain ⟨rfl, hx⟩ := fw_nb_sp hn
    simp only [fw_ex] at h
    split at h
    · exact fs_idiv hd h.1 (hK _ _ _ _ _ _ _ hx h.2)
    · exact h.elim
  | irem =>
    simp only [fw_ok1, Bool.and_eq_true, decide_eq_true_eq] at hok
    obtain ⟨hd, hn⟩ := hok
    obtain ⟨rfl, hx⟩ := fw_nb_sp hn
    simp only [fw_ex] at h
    split at h
    · exact fs_irem hd h.1 (hK _ _ _ _ _ _ _ hx h.2)
    · exact h.elim
  | ldiv =>
    simp only [fw_ok1, Bool.and_eq_true, decide_eq_true_eq] at hok
    obtain ⟨hd, hn⟩ := hok
    obtain ⟨rfl, hx⟩ := fw_nb_sp hn
    simp only [fw_ex] at h
    split at h
    · exact fs_ldiv hd h.1 (hK _ _ _ _ _ _ _ hx h.2)
    · exact h.elim
  | lrem =>
    simp only [fw_ok1, Bool.and_eq_true, decide_eq_true_eq] at hok
    obtain ⟨hd, hn⟩ := hok
    obtain ⟨rfl, hx⟩ := fw_nb_sp hn
    simp only [fw_ex] at h
    split at h
    · exact fs_lrem hd h.1 (hK _ _ _ _ _ _ _ hx h.2)
    · exact h.elim
  | dup =>
    simp only [fw_ok1, Bool.and_eq_true, decide_eq_true_eq] at hok
    obtain ⟨hd, hn⟩ := hok
    obtain ⟨rfl, hx⟩ := fw_nb_sp hn
    simp only [fw_ex] at h
    split at h
    · exact fs_dupi hd (hK _ _ _ _ _ _ _ hx h)
    · exact fs_dupr hd (hK _ _ _ _ _ _ _ hx h)
    · exact h.elim
  | pop =>
    simp only [fw_ok1, Bool.and_eq_true, decide_eq_true_eq] at hok
    obtain ⟨hd, hn⟩ := hok
    obtain ⟨rfl, hx⟩ := fw_nb_sp hn
    simp only [fw_ex] at h
    split at h
    · exact fs_popi hd (hK _ _ _ _ _ _ _ hx h)
    · exact h.elim
  | ifCond cnd off =>
    simp only [fw_ok1, Bool.and_eq_true, decide_eq_true_eq] at hok
    obtain ⟨hd, hg, hn⟩ := hok
    obtain ⟨rfl, hx⟩ := fw_nb_sp hn
    obtain ⟨tp, ht, hp⟩ := fw_tg_sp hg
    simp only [fw_ex] at h
    split at h
    · cases cnd with
      | eq => exact fs_if_eq hd hp ⟨fun q => hK _ _ _ _ _ _ _ ht (h.1 q), fun q => hK _ _ _ _ _ _ _ hx (h.2 q)⟩
      | ne => exact fs_if_ne hd hp ⟨fun q => hK _ _ _ _ _ _ _ ht (h.1 q), fun q => hK _ _ _ _ _ _ _ hx (h.2 q)⟩
      | lt => exact fs_if_lt hd hp ⟨fun q => hK _ _ _ _ _ _ _ ht (h.1 q), fun q => hK _ _ _ _ _ _ _ hx (h.2 q)⟩
      | ge => exact fs_if_ge hd hp ⟨fun q => hK _ _ _ _ _ _ _ ht (h.1 q), fun q => hK _ _ _ _ _ _ _ hx (h.2 q)⟩
      | gt => exact fs_if_gt hd hp ⟨fun q => hK _ _ _ _ _ _ _ ht (h.1 q), fun q => hK _ _ _ _ _ _ _ hx (h.2 q)⟩
      | le => exact fs_if_le hd hp ⟨fun q => hK _ _ _ _ _ _ _ ht (h.1 q), fun q => hK _ _ _ _ _ _ _ hx (h.2 q)⟩
    · exact h.elim
  | if_icmp cnd off =>
    simp only [fw_ok1, Bool.and_eq_true, decide_eq_true_eq] at hok
    obtain ⟨hd, hg, hn⟩ := hok
    obtain ⟨rfl, hx⟩ := fw_nb_sp hn
    obtain ⟨tp, ht, hp⟩ := fw_tg_sp hg
    simp only [fw_ex] at h
    split at h
    · cases cnd with
      | eq => exact fs_icmp_eq hd hp ⟨fun q => hK _ _ _ _ _ _ _ ht (h.1 q), fun q => hK _ _ _ _ _ _ _ hx (h.2 q)⟩
      | ne => exact fs_icmp_ne hd hp ⟨fun q => hK _ _ _ _ _ _ _ ht (h.1 q), fun q => hK _ _ _ _ _ _ _ hx (h.2 q)⟩
      | lt => exact fs_icmp_lt hd hp ⟨fun q => hK _ _ _ _ _ _ _ ht (h.1 q), fun q => hK _ _ _ _ _ _ _ hx (h.2 q)⟩
      | ge => exact fs_icmp_ge hd hp ⟨fun q => hK _ _ _ _ _ _ _ ht (h.1 q), fun q => hK _ _ _ _ _ _ _ hx (h.2 q)⟩
      | gt => exact fs_icmp_gt hd hp ⟨fun q => hK _ _ _ _ _ _ _ ht (h.1 q), fun q => hK _ _ _ _ _ _ _ hx (h.2 q)⟩
      | le => exact fs_icmp_le hd hp ⟨fun q => hK _ _ _ _ _ _ _ ht (h.1 q), fun q => hK _ _ _ _ _ _ _ hx (h.2 q)⟩
    · exact h.elim
  | goto off =>
    simp only [fw_ok1, Bool.and_eq_true, decide_eq_true_eq] at hok
    obtain ⟨hd, hg, hn⟩ := hok
    have hn := Nat.eq_of_beq_eq_true hn
    subst hn
    obtain ⟨tp, ht, hp⟩ := fw_tg_sp hg
    exact fs_goto hd hp (hK _ _ _ _ _ _ _ ht h)
  | tableswitch d lo1 hi offs =>
    simp only [fw_ok1, Bool.and_eq_true, decide_eq_true_eq] at hok
    obtain ⟨hd, ha, h1, h2⟩ := hok
    simp only [fw_ex] at h
    split at h
    · exact fs_table hd ha hK sw 0 h2 (by simpa using h1) (by have : ((0 : Nat) : Int) = 0 := rfl
                                                              omega) h
    · exact h.elim
  | lookupswitch d ps =>
    simp only [fw_ok1, Bool.and_eq_true, decide_eq_true_eq] at hok
    obtain ⟨hd, ha, h1, h2⟩ := hok
    simp only [fw_ex] at h
    split at h
    · exact fs_look hd h1 ha hK ps.toList sw h2 rfl h
    · exact h.elim
  | getfield idx =>
    simp only [fw_ok1, Bool.and_eq_true, decide_eq_true_eq] at hok
    obtain ⟨hd, hf, hn⟩ := hok
    obtain ⟨rfl, hx⟩ := fw_nb_sp hn
    simp only [fw_ex] at h
    split at h
    · rename_i o1 st'
      obtain ⟨o, rfl⟩ : ∃ o : Nat, o = o1 := ⟨o1, rfl⟩
      split at h
      · rename_i ha
        rw [ha] at hf
        have ha := Nat.le_of_ble_eq_true ha
        obtain ⟨C, T, N, hq, hbN, hl⟩ := fw_fkq_sp hf hown
        split at h
        · rename_i cl ln fl ho
          split at h
          · rename_i hcl
            have hcl := Nat.eq_of_beq_eq_true hcl
            subst hcl
            split at h
            · rename_i hfb
              exact fs_getfield (v := .int (σ.2 o b)) hd ha hq hbN hl ho hfb (fun _ => rfl) (hK _ _ _ _ _ _ _ hx h)
            · rename_i r hfb
              exact fs_getfield (v := .ref r) hd ha hq hbN hl ho hfb (fun _ => rfl) (hK _ _ _ _ _ _ _ hx h)
            · exact h.elim
          · exact h.elim
        · exact h.elim
      · rename_i ha
        rw [ha] at hf
        simp only [Bool.and_eq_true, Nat.ble_eq] at hf
        split at h
        · rename_i ho
          simp only [Bool.and_eq_true, Nat.ble_eq] at ho
          obtain ⟨p, hsf⟩ := fw_sfq_sp hf.2
          simp only [fw_sfB, hown] at hsf
          have eo : 1000 + (o - 1000) = o := by omega
          match b, hf, hsf, h with
          | 0, hf, hsf, h =>
            refine fs_strf (v := .ref (o + 100)) (b := 0) hd (fw_wd_in hsf) (fun hE => ?_) (hK _ _ _ _ _ _ _ hx h)
            have h8 := (hE.2.1.1 (o - 1000) (by omega)).2.2.1
            dsimp only at h8
            rw [eo, show 1100 + (o - 1000) = o + 100 by omega] at h8
            exact h8
          | 1, hf, hsf, h =>
            refine fs_strf (v := .int 0) (b := 1) hd (fw_wd_in hsf) (fun hE => ?_) (hK _ _ _ _ _ _ _ hx h)
            have h8 := (hE.2.1.1 (o - 1000) (by omega)).2.1
            dsimp only at h8
            rw [eo] at h8
            exact h8
          | b + 2, hf, hsf, h => exact absurd hf.1 (by omega)
        · exact h.elim
    · exact h.elim
  | putfield idx =>
    simp only [fw_ok1, Bool.and_eq_true, decide_eq_true_eq] at hok
    obtain ⟨hd, ha, hf, hini, hn⟩ := hok
    obtain ⟨rfl, hx⟩ := fw_nb_sp hn
    have ha := Nat.le_of_ble_eq_true ha
    obtain ⟨C, T, N, hq, hbN, hl⟩ := fw_fkq_sp hf hown
    simp only [fw_ex] at h
    split at h
    · rename_i x o st'
      split at h
      · rename_i cl ln fl ho
        split at h
        · rename_i hcl
          have hcl := Nat.eq_of_beq_eq_true hcl
          subst hcl
          split at h
          · rename_i h1 h2
            split at h
            · rename_i hz
              exact fs_putfield hd ha hq hbN hl ho h1 h2 (fun _ => h.1) (hK _ _ _ _ _ _ _ hx h.2)
            · rename_i hz
              exact fs_putfield hd ha hq hbN hl ho h1 h2 (fun z => by rw [hz] at z; cases z) (hK _ _ _ _ _ _ _ hx h)
          · exact h.elim
        · exact h.elim
      · exact h.elim
    · rename_i r o st'
      split at h
      · rename_i cl ln fl ho
        split at h
        · rename_i hcl
          have hcl := Nat.eq_of_beq_eq_true hcl
          subst hcl
          split at h
          · rename_i x0 x1 h1 h2
            simp only [hq, h2, Bool.and_eq_true, decide_eq_true_eq] at hini
            exact fs_putfieldR hd ha hq hbN hl hini.1 hini.2 ho h1 h2 (hK _ _ _ _ _ _ _ hx h)
          · exact h.elim
        · exact h.elim
      · exact h.elim
    · exact h.elim
  | iaload =>
    simp only [fw_ok1, Bool.and_eq_true, decide_eq_true_eq] at hok
    obtain ⟨hd, hn⟩ := hok
    obtain ⟨rfl, hx⟩ := fw_nb_sp hn
    simp only [fw_ex] at h
    split at h
    · split at h
      · rename_i kd ln fl hr
        split at h
        · rename_i hkd
          have hkd := Nat.eq_of_beq_eq_true hkd
          subst hkd
          exact fs_iaload hd hr h.1 (hK _ _ _ _ _ _ _ hx h.2)
        · exact h.elim
      · split at h
        · rename_i hr
          have hr := Nat.eq_of_beq_eq_true hr
          subst hr
          exact fs_sld hd h.1 (hK _ _ _ _ _ _ _ hx h.2)
        · exact h.elim
    · exact h.elim
  | iastore =>
    simp only [fw_ok1, Bool.and_eq_true, decide_eq_true_eq] at hok
    obtain ⟨hd, hn⟩ := hok
    obtain ⟨rfl, hx⟩ := fw_nb_sp hn
    simp only [fw_ex] at h
    split at h
    · split at h
      · rename_i kd ln fl hr
        split at h
        · rename_i hkd
          have hkd := Nat.eq_of_beq_eq_true hkd
          subst hkd
          exact fs_iastore hd hr h.1 (hK _ _ _ _ _ _ _ hx h.2)
        · exact h.elim
      · exact h.elim
    · exact h.elim
  | baload =>
    simp only [fw_ok1, Bool.and_eq_true, decide_eq_true_eq] at hok
    obtain ⟨hd, hn⟩ := hok
    obtain ⟨rfl, hx⟩ := fw_nb_sp hn
    simp only [fw_ex] at h
    split at h
    · split at h
      · rename_i kd ln fl hr
        split at h
        · rename_i hkd
          have hkd := Nat.eq_of_beq_eq_true hkd
          subst hkd
          exact fs_baload hd hr h.1 (hK _ _ _ _ _ _ _ hx h.2)
        · exact h.elim
      · split at h
        · rename_i hr
          simp only [Bool.and_eq_true, Nat.ble_eq] at hr
          exact fs_strb hd hr h.1 (hK _ _ _ _ _ _ _ hx h.2)
        · exact h.elim
    · exact h.elim
  | bastore =>
    simp only [fw_ok1, Bool.and_eq_true, decide_eq_true_eq] at hok
    obtain ⟨hd, hn⟩ := hok
    obtain ⟨rfl, hx⟩ := fw_nb_sp hn
    simp only [fw_ex] at h
    split at h
    · split at h
      · rename_i kd ln fl hr
        split at h
        · rename_i hkd
          have hkd := Nat.eq_of_beq_eq_true hkd
          subst hkd
          exact fs_bastore hd hr h.1 h.2.1 (hK _ _ _ _ _ _ _ hx h.2.2)
        · exact h.elim
      · exact h.elim
    · exact h.elim
  | arraylength =>
    simp only [fw_ok1, Bool.and_eq_true, decide_eq_true_eq] at hok
    obtain ⟨hd, hn⟩ := hok
    obtain ⟨rfl, hx⟩ := fw_nb_sp hn
    simp only [fw_ex] at h
    split at h
    · split at h
      · rename_i kd ln fl hr
        split at h
        · rename_i hkd
          have hkd := Nat.eq_of_beq_eq_true hkd
          subst hkd
          exact fs_alen hd hr (hK _ _ _ _ _ _ _ hx h)
        · exact h.elim
      · split at h
        · rename_i hr
          have hr := Nat.eq_of_beq_eq_true hr
          subst hr
          exact fs_slen hd (hK _ _ _ _ _ _ _ hx h)
        · split at h
          · rename_i hr
            simp only [Bool.and_eq_true, Nat.ble_eq] at hr
            exact fs_stral hd hr (hK _ _ _ _ _ _ _ hx h)
          · exact h.elim
    · exact h.elim
  | getstatic idx =>
    simp only [fw_ok1, Bool.and_eq_true, decide_eq_true_eq] at hok
    obtain ⟨hd, hs, hn⟩ := hok
    obtain ⟨rfl, hx⟩ := fw_nb_sp hn
    obtain ⟨p, hss⟩ := fw_ssq_sp hs
    simp only [fw_ssB, hown] at hss
    match a, hss, h with
    | 0, hss, h => exact fs_gets (v := .int 1) hd (fw_wd_in hss) (fun hE => hE.2.2.2.1) (hK _ _ _ _ _ _ _ hx h)
    | 1, hss, h => exact fs_gets (v := .retAddr 0) hd (fw_wd_in hss) (fun hE => hE.2.2.2.2.1) (hK _ _ _ _ _ _ _ hx h)
    | a + 2, hss, h => exact (show False from h).elim
  | newarray t =>
    simp only [fw_ok1, Bool.and_eq_true, decide_eq_true_eq] at hok
    obtain ⟨hd, hn⟩ := hok
    obtain ⟨rfl, hx⟩ := fw_nb_sp hn
    simp only [fw_ex] at h
    split at h
    · split at h
      · split at h
        · rename_i hc
          simp only [Bool.and_eq_true, Nat.ble_eq] at hc
          exact fs_newa hd h.1 hc.1.1.1.1.2 hc.1.1.1.1.1.1 hc.1.1.1.1.1.2 hc.2 hc.1.2 hc.1.1.1.2 hc.1.1.2 (hK _ _ _ _ _ _ _ hx h.2)
        · exact h.elim
      · split at h
        · rename_i hc
          simp only [Bool.and_eq_true, Nat.ble_eq] at hc
          exact fs_newz hd h.1 hc.1.1.1.1.2 hc.1.1.1.1.1.1 hc.1.1.1.1.1.2 hc.2 hc.1.2 hc.1.1.1.2 hc.1.1.2 (hK _ _ _ _ _ _ _ hx h.2)
        · exact h.elim
      · exact h.elim
    · exact h.elim
  | new idx =>
    simp only [fw_ok1, Bool.and_eq_true, decide_eq_true_eq] at hok
    obtain ⟨hd, ha, hf, hn⟩ := hok
    obtain ⟨rfl, hx⟩ := fw_nb_sp hn
    have ha := Nat.le_of_ble_eq_true ha
    obtain ⟨C, T, hq, h1, h2, h3⟩ := fw_nlq_sp hf hown
    simp only [fw_ex] at h
    split at h
    · rename_i hc
      simp only [Bool.and_eq_true, Nat.ble_eq] at hc
      exact fs_new hd ha hq h1 h2 h3 hc.1.1.1.1.1 hc.1.1.1.1.2 hc.2 hc.1.2 hc.1.1.1.2 hc.1.1.2 (hK _ _ _ _ _ _ _ hx h)
    · exact h.elim
  | invokevirtual idx =>
    simp only [fw_ok1, Bool.and_eq_true, decide_eq_true_eq] at hok
    obtain ⟨hd, hf, hn⟩ := hok
    obtain ⟨rfl, hx⟩ := fw_nb_sp hn
    simp only [fw_ex] at h
    split at h
    · rename_i mc hmc
      simp only [hmc, Bool.and_eq_true] at hf
      obtain ⟨p0, p1, p2, p3, hB⟩ := fw_mkq_sp hf.1
      simp only [fw_mkB, hown, hmc, Bool.and_eq_true] at hB
      have hcd := hmt mc (by rw [fw_nth_eq] at hmc; exact List.mem_of_getElem? hmc)
      have hcn : fw_nth fw_cn (fw_ow mc) = some (fw_y mc).cls := by
        obtain ⟨p, h9⟩ := hcd
        simp only [fw_cdB, Bool.and_eq_true, decide_eq_true_eq] at h9
        exact h9.1.1.2
      have hh := fw_arg_sp _ _ _ _ h
      clear h
      obtain ⟨av, st1, hal, rfl, h⟩ := hh
      rw [List.append_nil] at h
      subst hal
      have hce := fw_callee_of hcd hf.2 (fw_wd_in hB.2)
      split at h
      · rename_i o1 st'
        obtain ⟨o, rfl⟩ : ∃ o : Nat, o = o1 := ⟨o1, rfl⟩
        split at h
        · rename_i how
          have how := Nat.le_of_ble_eq_true how
          split at h
          · rename_i cl ln fl ho
            split at h
            · rename_i hcl
              have hcl := Nat.eq_of_beq_eq_true hcl
              subst hcl
              obtain ⟨hcat, hkn, Q', hsem, hg⟩ := fw_cl_sp h
              refine fs_virt hd hce (fw_wd_in hB.1.1.1) (fw_wd_in hB.1.1.2) (fw_wd_in hB.1.2) hcat (fun hW => ?_) hkn hsem (fun v σ' hq => hK _ _ _ _ _ _ _ hx (hg v σ' hq))
              obtain ⟨q, hq, hqn⟩ : ∃ q : vw_C, vwCl[fw_ow mc]? = some q ∧ q.1 = (fw_y mc).cls := by
                generalize fw_ow mc = w at how hcn
                match w, how, hcn with
                | 0, _, hcn => exact ⟨_, rfl, Option.some.inj hcn⟩
                | 1, _, hcn => exact ⟨_, rfl, Option.some.inj hcn⟩
                | 2, _, hcn => exact ⟨_, rfl, Option.some.inj hcn⟩
                | 3, _, hcn => exact ⟨_, rfl, Option.some.inj hcn⟩
                | 4, _, hcn => exact ⟨_, rfl, Option.some.inj hcn⟩
              have h8 := va_recv hW.1 hW.2.1 hq (show _ = some (_, (Sum.inr (fw_ow mc, _) : va_E)) by rw [fw_w_some ho, fw_ce_obj how])
              rw [hqn] at h8
              exact h8
            · exact h.elim
          · exact h.elim
        · split at h
          · rename_i ho
            simp only [Bool.and_eq_true, Nat.ble_eq] at ho
            obtain ⟨hcat, hkn, Q', hsem, hg⟩ := fw_cl_sp h
            refine fs_virt hd hce (fw_wd_in hB.1.1.1) (fw_wd_in hB.1.1.2) (fw_wd_in hB.1.2) hcat (fun hW => ?_) hkn hsem (fun v σ' hq => hK _ _ _ _ _ _ _ hx (hg v σ' hq))
            have e8 : (fw_y mc).cls = RJ0 := by
              rw [Nat.eq_of_beq_eq_true ho.1.1] at hcn
              exact (Option.some.inj hcn).symm
            rw [e8]
            have h8 := vk_recv hW.2.2.2.2.1.2.1 (i := o - 1000) (by omega) hW.2.2.2.1
            rw [show 1000 + (o - 1000) = o by omega] at h8
            exact h8
          · exact h.elim
      · exact h.elim
    · exact h.elim
  | invokestatic idx =>
    simp only [fw_ok1, Bool.and_eq_true, decide_eq_true_eq] at hok
    obtain ⟨hd, hf, hn⟩ := hok
    obtain ⟨rfl, hx⟩ := fw_nb_sp hn
    simp only [fw_ex] at h
    split at h
    · rename_i mc hmc
      simp only [hmc, Bool.and_eq_true, Bool.or_eq_true] at hf
      have hcd := hmt mc (by rw [fw_nth_eq] at hmc; exact List.mem_of_getElem? hmc)
      have hh := fw_arg_sp _ _ _ _ h
      clear h
      obtain ⟨av, st1, hal, rfl, h⟩ := hh
      rw [List.append_nil] at h
      subst hal
      obtain ⟨hcat, hkn, Q', hsem, hg⟩ := fw_cl_sp h
      rcases hf.1 with hf1 | hf1
      · obtain ⟨p0, p1, p2, p3, hB⟩ := fw_mkq_sp hf1
        simp only [fw_mkB, hown, hmc, Bool.and_eq_true] at hB
        exact fs_stat hd (fw_callee_of hcd hf.2 (fw_wd_in hB.2)) (fw_wd_in hB.1.1) (fw_wd_in hB.1.2) hcat hkn hsem (fun v σ' hq => hK _ _ _ _ _ _ _ hx (hg v σ' hq))
      · obtain ⟨p0, p1, p2, p3, hB⟩ := fw_mkq_sp hf1
        simp only [fw_mkB, hown, hmc, Bool.and_eq_true, decide_eq_true_eq] at hB
        exact fs_statN hd (fw_callee_of hcd hf.2 (fw_wd_in hB.2)) hB.1.1 (fw_wd_in hB.1.2) hcat hkn hsem (fun v σ' hq => hK _ _ _ _ _ _ _ hx (hg v σ' hq))
    · rename_i hmc
      simp only [hmc] at hf
      split at h
      · rename_i e1
        simp only [e1, Bool.and_eq_true] at hf
        split at h
        · split at h
          · rename_i k0 n0 f0 k1 n1 f1 hr0 hr1 hcat
            split at h
            · rename_i hk
              simp only [Bool.and_eq_true] at hk
              have hk0 := Nat.eq_of_beq_eq_true hk.1
              have hk1 := Nat.eq_of_beq_eq_true hk.2
              subst hk0; subst hk1
              obtain ⟨p0, p1, p2, p3, hB⟩ := fw_mkq_sp hf.1
              simp only [fw_mkB, hown, Bool.and_eq_true] at hB
              exact fs_copy hd (fw_wd_in hB.1.1.1) (fw_wd_in hB.1.2) (fw_wd_in hB.1.1.2) (fw_wd_in hB.2) (Nat.le_of_ble_eq_true hcat) (Nat.le_of_ble_eq_true hf.2.2) (Nat.le_of_ble_eq_true hf.2.1) hr0 hr1 h.1 (hK _ _ _ _ _ _ _ hx h.2)
            · exact h.elim
          · exact h.elim
        · exact h.elim
      · rename_i e1
        simp only [e1] at hf
        split at h
        · rename_i e2
          simp only [e2, Bool.and_eq_true] at hf
          split at h
          · split at h
            · rename_i hcat
              obtain ⟨p0, p1, p2, p3, hB⟩ := fw_mkq_sp hf.1
              simp only [fw_mkB, hown, Bool.and_eq_true] at hB
              exact fs_mmax hd (fw_wd_in hB.1.1.1) (fw_wd_in hB.1.1.2) (fw_wd_in hB.1.2) (fw_wd_in hB.2) (Nat.le_of_ble_eq_true hcat) (Nat.le_of_ble_eq_true hf.2.2) (Nat.le_of_ble_eq_true hf.2.1) (hK _ _ _ _ _ _ _ hx h)
            · exact h.elim
          · exact h.elim
        · rename_i e2
          simp only [e2] at hf
          split at h
          · rename_i e3
            simp only [e3, Bool.and_eq_true] at hf
            split at h
            · split at h
              · rename_i hcat
                obtain ⟨p0, p1, p2, p3, hB⟩ := fw_mkq_sp hf.1
                simp only [fw_mkB, hown, Bool.and_eq_true] at hB
                exact fs_mmin hd (fw_wd_in hB.1.1.1) (fw_wd_in hB.1.1.2) (fw_wd_in hB.1.2) (fw_wd_in hB.2) (Nat.le_of_ble_eq_true hcat) (Nat.le_of_ble_eq_true hf.2.2) (Nat.le_of_ble_eq_true hf.2.1) (hK _ _ _ _ _ _ _ hx h)
              · exact h.elim
            · exact h.elim
          · exact h.elim
  | invokespecial idx =>
    simp only [fw_ok1, Bool.and_eq_true, decide_eq_true_eq] at hok
    obtain ⟨hd, hf, hn⟩ := hok
    obtain ⟨rfl, hx⟩ := fw_nb_sp hn
    simp only [fw_ex] at h
    split at h
    · rename_i mc hmc
      simp only [hmc, Bool.and_eq_true, Bool.or_eq_true, decide_eq_true_eq] at hf
      have hcd := hmt mc (by rw [fw_nth_eq] at hmc; exact List.mem_of_getElem? hmc)
      have hh := fw_arg_sp _ _ _ _ h
      clear h
      obtain ⟨av, st1, hal, rfl, h⟩ := hh
      rw [List.append_nil] at h
      subst hal
      split at h
      · obtain ⟨hcat, hkn, Q', hsem, hg⟩ := fw_cl_sp h
        rcases hf.1 with hf1 | hf1
        · obtain ⟨p0, p1, p2, p3, hB⟩ := fw_mkq_sp hf1
          simp only [fw_mkB, hown, hmc, Bool.and_eq_true, decide_eq_true_eq] at hB
          exact fs_spec hd (fw_callee_of hcd hf.2.1 (fw_wd_in hB.1.2)) hf.2.2 hB.2 (fw_wd_in hB.1.1.1) (fw_wd_in hB.1.1.2) hcat hkn hsem (fun v σ' hq => hK _ _ _ _ _ _ _ hx (hg v σ' hq))
        · obtain ⟨p0, p1, p2, p3, hB⟩ := fw_mkq_sp hf1
          simp only [fw_mkB, hown, hmc, Bool.and_eq_true, decide_eq_true_eq] at hB
          exact fs_specN hd (fw_callee_of hcd hf.2.1 (fw_wd_in hB.1.2)) hf.2.2 hB.2 hB.1.1.1 (fw_wd_in hB.1.1.2) hcat hkn hsem (fun v σ' hq => hK _ _ _ _ _ _ _ hx (hg v σ' hq))
      · exact h.elim
    · rename_i hmc
      simp only [hmc, Bool.and_eq_true] at hf
      split at h
      · split at h
        · split at h
          · rename_i hcat
            obtain ⟨p0, p1, p2, p3, hB⟩ := fw_mkq_sp hf.1
            simp only [fw_mkB, hown, Bool.and_eq_true] at hB
            exact fs_obj hd (fw_wd_in hB.1) (fw_wd_in hB.2) (Nat.le_of_ble_eq_true hcat) (Nat.le_of_ble_eq_true hf.2.1) (Nat.le_of_ble_eq_true hf.2.2) (hK _ _ _ _ _ _ _ hx h)
          · exact h.elim
        · exact h.elim
      · exact h.elim
  | ireturn =>
    simp only [fw_ok1, Bool.and_eq_true, decide_eq_true_eq] at hok
    obtain ⟨hd, hn⟩ := hok
    have hn := Nat.eq_of_beq_eq_true hn
    subst hn
    simp only [fw_ex] at h
    split at h
    · rename_i x
      split at h
      · rename_i hr
        exact fs_ret (v := some (.int x)) hd ⟨_, hr, rfl⟩ h
      · rename_i ty hr hne
        exact fs_ret (v := some (.int x)) hd ⟨_, hne, h.1⟩ h.2
      · exact h.elim
    · exact h.elim
  | lreturn =>
    simp only [fw_ok1, Bool.and_eq_true, decide_eq_true_eq] at hok
    obtain ⟨hd, hn, hr⟩ := hok
    have hn := Nat.eq_of_beq_eq_true hn
    subst hn
    simp only [fw_ex] at h
    split at h
    · rename_i x
      exact fs_ret (v := some (.long x)) hd hr h
    · exact h.elim
  | areturn =>
    simp only [fw_ok1, Bool.and_eq_true, decide_eq_true_eq] at hok
    obtain ⟨hd, hn, hr⟩ := hok
    have hn := Nat.eq_of_beq_eq_true hn
    subst hn
    simp only [fw_ex] at h
    split at h
    · rename_i x
      split at hr
      · rename_i nm hr2
        exact fs_ret (v := some (.ref x)) hd ⟨nm, hr2⟩ h
      · cases hr
    · exact h.elim
  | return_ =>
    simp only [fw_ok1, Bool.and_eq_true, decide_eq_true_eq] at hok
    obtain ⟨hd, hn, hr⟩ := hok
    have hn := Nat.eq_of_beq_eq_true hn
    subst hn
    simp only [fw_ex] at h
    split at h
    · exact fs_ret (v := none) hd hr h
    · exact h.elim
  | _ => exact (show False from h).elim
theorem fw_run_sound (hmt : ∀ mc ∈ fw_mt, fw_cdP mc) (hown : fw_nth fw_cn (fw_ow mi) = some (fw_y mi).cls) (hok : fw_okc mi (fw_cd mi) = true) (cuts : List Nat) : ∀ (f : Nat) (fresh : Bool) (i k n : Nat) (lo : fw_Lo) (st : List Value) (σ : fw_St) (pc : Nat), fw_pc (fw_cd mi) i = some pc → fw_run X l mi Q cuts f fresh i k n lo st σ → fw_Go X l mi Q pc k n lo st σ
  | 0, fresh, i, k, n, lo, st, σ, pc, hp, h => by
    simp only [fw_run] at h
    simp only [fw_pc] at hp
    split at h
    · rename_i e he
      rw [he] at hp
      cases hp
      exact h
    · exact h.elim
  | f + 1, fresh, i, k, n, lo, st, σ, pc, hp, h => by
    simp only [fw_run] at h
    simp only [fw_pc] at hp
    split at h
    · rename_i pc' e he
      rw [he] at hp
      cases hp
      split at h
      · obtain ⟨len, v, a, b, sw, ins⟩ := e
        exact fw_ex_sound hmt hown (fun i' k n lo st σ pc' hp' h' => fw_run_sound hmt hown hok cuts f false i' k n lo st σ pc' hp' h') (fw_okc_at _ _ _ hok he) h
      · exact h
    · exact h.elim
end fwX
