def fw_ent : Nat → List Value → fw_Lo
  | n, [] => List.replicate n none
  | n, v :: r => match Nat.beq v.category 2 with
    | true => some v :: none :: fw_ent (n - 2) r
    | false => some v :: fw_ent (n - 1) r
theorem fw_ent_get : ∀ (av : List Value) (n i j : Nat) (v : Value), (fw_ent n av)[j]? = some (some v) → (i + j, v) ∈ lv_args i av
  | [], n, i, j, v, h => by
    simp only [fw_ent] at h
    have := List.mem_of_getElem? h
    simp at this
  | w :: r, n, i, j, v, h => by
    simp only [fw_ent] at h
    split at h
    · rename_i hc
      have hc := Nat.eq_of_beq_eq_true hc
      match j, h with
      | 0, h =>
        simp at h
        subst h
        simp [lv_args]
      | 1, h => simp at h
      | j + 2, h =>
        have h1 := fw_ent_get r (n - 2) (i + 2) j v (by simpa using h)
        simp only [lv_args, hc]
        exact List.mem_cons_of_mem _ (by rw [show i + (j + 2) = i + 2 + j by omega]; exact h1)
    · rename_i hc
      have hc : w.category = 1 := (lv_cat w).resolve_right (fun z => by rw [z] at hc; cases hc)
      match j, h with
      | 0, h =>
        simp at h
        subst h
        simp [lv_args]
      | j + 1, h =>
        have h1 := fw_ent_get r (n - 1) (i + 1) j v (by simpa using h)
        simp only [lv_args, hc]
        exact List.mem_cons_of_mem _ (by rw [show i + (j + 1) = i + 1 + j by omega]; exact h1)
theorem fw_args_map (ad : Nat → Nat) : ∀ (av : List Value) (i : Nat), lv_args i (av.map (fw_cz ad)) = (lv_args i av).map (fun q => (q.1, fw_cz ad q.2))
  | [], i => rfl
  | v :: r, i => by simp [lv_args, fw_cz_cat, fw_args_map ad r]
theorem fw_sl_len : ∀ av : List Value, (lg_sl av).length = fw_cat av
  | [] => rfl
  | v :: r => by
    have ih := fw_sl_len r
    simp only [lg_sl] at ih
    rcases lv_cat v with h | h
    · simp [lg_sl, fw_cat, h, ih]; omega
    · simp [lg_sl, fw_cat, h, ih]; omega
theorem fw_cat_cz (ad : Nat → Nat) : ∀ av : List Value, fw_cat (av.map (fw_cz ad)) = fw_cat av
  | [] => rfl
  | v :: r => by
    show (fw_cz ad v).category + fw_cat (r.map (fw_cz ad)) = v.category + fw_cat r
    rw [fw_cz_cat, fw_cat_cz ad r]
theorem fw_enter_go {X : Nat × (Nat → Int32)} {l : Launch} {mi : fw_MI} {av : List Value} {σ : fw_St} {Q : Option Value → fw_St → Prop} (hcd : fw_cdP mi) (hlen : fw_cat av ≤ fw_ml mi) (h : fw_Go X l mi Q 0 0 0 (fw_ent (fw_ml mi) av) [] σ) : fw_Sem X l mi av σ Q := by
  obtain ⟨p9, hcd⟩ := hcd
  simp only [fw_cdB, Bool.and_eq_true, decide_eq_true_eq] at hcd
  intro D cI cB ad sz
  refine Met.ofW (cc := fw_b mi) (maxL := fw_ml mi) (ret := fw_rt mi) hcd.1.1.1.2 rfl ?_
  intro p e s m args below meth c s₁ B hml hv
  obtain ⟨rfl, hsz, hK, hP, hD0, hE⟩ := hv
  have hts := atoms_spec (ws := fw_ws mi) B.pre
  have hown : s.vm.findClass (fw_y mi).cls = some m.cls := findClass_of_methodNamed B.named
  have hlocks := B.notSynchronized
  have hr := B.returns
  subst hsz
  have hD := hD0.self (sz := s.heap.size)
  have hl := lv_entry (av.map (fw_cz ad)) (n := fw_ml mi) (by rw [fw_sl_len, fw_cat_cz]; exact hlen)
  rw [lg_entry_eq]
  generalize (lg_sl (av.map (fw_cz ad)) ++ List.replicate (fw_ml mi - (lg_sl (av.map (fw_cz ad))).length) Slot.unset).toArray = ls at hl ⊢
  refine h p e s m _ below meth c D cI cB σ.1.length ad ad (va_A (fw_w ad cI cB σ) s.heap.size) _ s.heap [] ls ⟨B.exec, B.bytes, hml, hown, fun w hw => hts w (List.mem_cons_of_mem _ hw), fun q hq => Or.inr hq, (name_of_methodNamed B.named B.method).1⟩ ⟨hK, hP, hD, va_S.rf, hE, fun _ _ => rfl, Nat.le_refl _⟩ ⟨hl.1, hl.2.1, fun j v hj => ?_⟩ (Nat.zero_le _) (Nat.zero_le _) ?_
  · have h1 := fw_ent_get av (fw_ml mi) 0 j v (fw_get_lt hj)
    rw [Nat.zero_add] at h1
    refine hl.2.2 (j, fw_cz ad v) ?_
    rw [fw_args_map]
    exact List.mem_map.mpr ⟨(j, v), h1, rfl⟩
  · intro pc ins v σ' ad' H locs ls' k n hd hrok hq hW hk hn
    obtain ⟨wK, wP, wD, wS, wE, wext, wlen⟩ := hW
    have hqc : ∀ (t : State), t.heap = H → fw_Qc Q D cI cB ad σ s.heap.size (fw_rm mi).cells (av.map (fw_cz ad)).toArray s (.returned (v.map (fw_cz ad'))) t := fun t ht => ⟨⟨v, σ', ad', rfl, hq, wext, wlen, by rw [ht]; exact wP, wD⟩, wS.F ht⟩
    refine W.widen hk hn ?_
    match ins, v, hrok, hqc, hd with
    | .return_, none, hrok, hqc, hd => exact W.vret B.exec B.bytes (hr.trans hrok) (fun t ht _ => hqc t ht) wS.2.2 hd
    | .ireturn, some (.int x), hrok, hqc, hd =>
      obtain ⟨ty, h1, h2⟩ := hrok
      exact W.zret B.exec B.bytes (hr.trans h1) h2 (fun t ht _ => hqc t ht) wS.2.2 hd
    | .lreturn, some (.long x), hrok, hqc, hd => exact W.lret B.exec B.bytes (hr.trans hrok) (fun t ht _ => hqc t ht) wS.2.2 hd
    | .areturn, some (.ref x), hrok, hqc, hd =>
      obtain ⟨nm, h1⟩ := hrok
      exact W.aret (v := .ref (ad' x)) B.exec B.bytes (hr.trans h1) (Or.inl ⟨nm, rfl⟩) (Or.inr ⟨_, rfl⟩) (fun t ht _ => hqc t ht) wS.2.2 hd
set_option maxRecDepth 100000 in
theorem fw_mt_ok : ∀ mc ∈ fw_mt, fw_cdP mc := (fw_fc ⟨_, wc_J6_bitCount_0f7a4⟩ (fw_fc ⟨_, wc_J0_length_8abf5⟩ (fw_fc ⟨_, wc_J0_isEmpty_aae02⟩ (fw_fc ⟨_, wc_J0_charAt_5068e⟩ (fw_fc ⟨_, wc_J0_indexOf_0f7a4⟩ (fw_fc ⟨_, wc_J0_indexOf_7cf53⟩ (fw_fc ⟨_, wc_J0_coder_7d493⟩ (fw_fc ⟨_, wc_J0_isLatin1_aae02⟩ (fw_fc ⟨_, wc_J0_checkIndex_df160⟩ (fw_fc ⟨_, wc_J0_checkBoundsBeginEnd_23922⟩ (fw_fc ⟨_, wc_J1_charAt_3b067⟩ (fw_fc ⟨_, wc_J1_canEncode_9a6ad⟩ (fw_fc ⟨_, wc_J1_indexOf_4cfef⟩ (fw_fc ⟨_, wc_J1_indexOfChar_4cfef⟩ (fw_fc ⟨_, wc_J3_checkIndex_8e157⟩ (fw_fc ⟨_, wc_J3_checkFromToIndex_8c36e⟩ (fw_fc ⟨_, wc_X0_ofKind⟩ (fw_fc ⟨_, wc_X1_init⟩ (fw_fc ⟨_, wc_X1_copyFrom⟩ (fw_fc ⟨_, wc_X1_hasPiece⟩ (fw_fc ⟨_, wc_X1_canLay⟩ (fw_fc ⟨_, wc_X1_lay⟩ (fw_fc ⟨_, wc_X1_settleWithout⟩ (fw_fc ⟨_, wc_X1_covers⟩ (fw_fc ⟨_, wc_X1_overlap⟩ (fw_fc ⟨_, wc_X1_turnOver⟩ (fw_fc ⟨_, wc_X1_treadDown⟩ (fw_fc ⟨_, wc_X1_growthOn⟩ (fw_fc ⟨_, wc_X1_growthOver⟩ (fw_fc ⟨_, wc_X1_passDays⟩ (fw_fc ⟨_, wc_X1_grownBehind⟩ (fw_fc ⟨_, wc_X1_daysToThistle⟩ (fw_fc ⟨_, wc_X1_mostGrownOn⟩ (fw_fc ⟨_, wc_X1_grownOn⟩ (fw_fc ⟨_, wc_X1_yardsOf⟩ (fw_fc ⟨_, wc_X1_allGrown⟩ (fw_fc ⟨_, wc_X1_countThistles⟩ (fw_fc ⟨_, wc_X1_isOpen⟩ (fw_fc ⟨_, wc_X1_countOpen⟩ (fw_fc ⟨_, wc_X1_rolledBits⟩ (fw_fc ⟨_, wc_X1_laidOutAfter⟩ (fw_fc ⟨_, wc_X1_isAtEdge⟩ (fw_fc ⟨_, wc_X2_power⟩ (fw_fc ⟨_, wc_X2_commonDivisor⟩ (fw_fc ⟨_, wc_X2_nextSeed⟩ (fw_fc ⟨_, wc_X2_halfDraw⟩ (fw_fc ⟨_, wc_X3_init⟩ (fw_fc ⟨_, wc_X3_add⟩ (fw_fc ⟨_, wc_X3_formOf⟩ (fw_fc ⟨_, wc_X3_fits⟩ (fw_fc ⟨_, wc_X3_firstOddLetter⟩ (fw_fc ⟨_, wc_X3_tellTo⟩ (fw_fc ⟨_, wc_X3_tellStatement⟩ (fw_fc ⟨_, wc_X3_number⟩ (fw_fc ⟨_, wc_X3_tellPiece⟩ (fw_fc ⟨_, wc_X3_tellRolled⟩ (fw_fc ⟨_, wc_X3_tellTrod⟩ (fw_fc ⟨_, wc_X3_tellGrown⟩ (fw_fc ⟨_, wc_X3_tellDays⟩ (fw_fc ⟨_, wc_X4_init⟩ (fw_fc ⟨_, wc_X4_beside⟩ (fw_fc ⟨_, wc_X4_measureFrom⟩ (fw_fc ⟨_, wc_X4_spread⟩ (fw_fc ⟨_, wc_X4_fewestSteps⟩ (fw_fc ⟨_, wc_X4_countWithin⟩ (fw_fc ⟨_, wc_X4_standsAfter⟩ (fw_fc ⟨_, wc_X4_nearer⟩ (fw_fc ⟨_, wc_X5_init⟩ (fw_fc ⟨_, wc_X5_letter⟩ (fw_fc ⟨_, wc_X5_land⟩ (fw_fc ⟨_, wc_X5_yard⟩ (fw_fc ⟨_, wc_X5_piece⟩ (fw_fc ⟨_, wc_X5_grows⟩ (fw_fc ⟨_, wc_X5_makes⟩ (fw_fc ⟨_, wc_X5_rolls⟩ (fw_fc ⟨_, wc_X5_treads⟩ (fw_fc ⟨_, wc_X5_turn⟩ (fw_fc ⟨_, wc_X5_days⟩ (fw_fc ⟨_, wc_X5_behind⟩ (fw_fc ⟨_, wc_X5_thistles⟩ (fw_fc ⟨_, wc_X5_firstThistle⟩ (fw_fc ⟨_, wc_X5_longest⟩ (fw_fc ⟨_, wc_X5_steps⟩ (fw_fc ⟨_, wc_X5_reached⟩ (fw_fc ⟨_, wc_X5_cut⟩ (fw_fc ⟨_, wc_X5_opens⟩ (fw_fc ⟨_, wc_X5_putAway⟩ (fw_fc ⟨_, wc_X5_treadings⟩ (fw_fc ⟨_, wc_X5_turns⟩ (fw_fc ⟨_, wc_X5_needy⟩ (fw_fc ⟨_, wc_X5_sold⟩ (fw_fc ⟨_, wc_X5_hay⟩ (fw_fc ⟨_, wc_X5_same⟩ (fw_fc ⟨_, wc_X5_edge⟩ (fw_fc ⟨_, wc_X5_rain⟩ (fw_fc ⟨_, wc_X5_two⟩ (fw_fc ⟨_, wc_X5_patch⟩ (fw_fc ⟨_, wc_X5_whatWas⟩ (fw_fc ⟨_, wc_X5_row⟩ (fw_fc ⟨_, wc_X5_judge⟩ (fw_fc ⟨_, wc_X5_clear⟩ (fw_fc ⟨_, wc_X5_lots⟩ (fw_fc ⟨_, wc_X5_image⟩ (fw_fc ⟨_, wc_X5_on⟩ (fw_fc ⟨_, wc_X5_count⟩ (fw_fc ⟨_, wc_X5_refuse⟩ (fw_fc ⟨_, wc_X5_isYard⟩ (fw_fc ⟨_, wc_X5_areTwoYards⟩ (fw_fc ⟨_, wc_X5_outside⟩ (fw_fc ⟨_, wc_X5_firstOf⟩ (fw_fc ⟨_, wc_X5_otherThan⟩ (fw_fc ⟨_, wc_X5_cuts⟩ (fw_fc ⟨_, wc_X5_countTreadings⟩ (fw_fc ⟨_, wc_X5_firstTreading⟩ (fw_fc ⟨_, wc_X5_thistlesIfTrod⟩ (fw_fc ⟨_, wc_X5_grownWithout⟩ (fw_fc ⟨_, wc_X5_outsideOdds⟩ (fw_fc ⟨_, wc_X5_thistleCases⟩ (fw_fc ⟨_, wc_X5_stepsIfTurned⟩ (fw_fc ⟨_, wc_X5_patchFits⟩ (fw_fc ⟨_, wc_X5_kindsAsTold⟩ (fw_fc ⟨_, wc_X5_figuresAsTold⟩ (fw_fc ⟨_, wc_X5_grewAsTold⟩ (fw_fc ⟨_, wc_X6_init⟩ (fw_fc ⟨_, wc_X6_no⟩ (fw_fc ⟨_, wc_X6_lowest⟩ (fw_fc ⟨_, wc_X6_isIn⟩ (fw_fc ⟨_, wc_X6_bound⟩ (fw_fc ⟨_, wc_X6_has⟩ (fw_fc ⟨_, wc_X6_bits⟩ (fw_fc ⟨_, wc_X6_isYard⟩ (fw_fc ⟨_, wc_X6_isPiece⟩ (fw_fc ⟨_, wc_X6_hasYard⟩ (fw_fc ⟨_, wc_X6_ownerOf⟩ (fw_fc ⟨_, wc_X6_letter⟩ (fw_fc ⟨_, wc_X6_next⟩ (fw_fc ⟨_, wc_X6_readsDigits⟩ (fw_fc ⟨_, wc_X6_kindOf⟩ (fw_fc ⟨_, wc_X6_readsPiece⟩ (fw_fc ⟨_, wc_X6_readsAll⟩ (fw_fc ⟨_, wc_X6_statement⟩ (fw_fc ⟨_, wc_X6_comesPiece⟩ (fw_fc ⟨_, wc_X6_comesGrown⟩ (fw_fc ⟨_, wc_X6_comesDays⟩ (fw_fc ⟨_, wc_X6_comes⟩ (fw_fc ⟨_, wc_X6_land⟩ (fw_fc ⟨_, wc_X6_passes⟩ (fw_fc ⟨_, wc_X6_passOne⟩ (fw_fc ⟨_, wc_X6_passesAll⟩ (fw_fc ⟨_, wc_X6_thinks⟩ (fw_fc ⟨_, wc_X6_forgets⟩ (fw_fc ⟨_, wc_X6_image⟩ (fw_fc ⟨_, wc_X6_on⟩ (fw_fc ⟨_, wc_X6_growsBy⟩ (fw_fc ⟨_, wc_X6_goesDay⟩ (fw_fc ⟨_, wc_X6_goes⟩ (fw_fc ⟨_, wc_X6_hayOf⟩ (fw_fc ⟨_, wc_X6_trod⟩ (fw_fc ⟨_, wc_X6_manyThistles⟩ (fw_fc ⟨_, wc_X6_isOpen⟩ (fw_fc ⟨_, wc_X6_manyOpen⟩ (fw_fc ⟨_, wc_X6_allGrown⟩ (fw_fc ⟨_, wc_X6_yard⟩ (fw_fc ⟨_, wc_X6_manyOf⟩ (fw_fc ⟨_, wc_X6_piece⟩ (fw_fc ⟨_, wc_X6_grows⟩ (fw_fc ⟨_, wc_X6_makes⟩ (fw_fc ⟨_, wc_X6_rolls⟩ (fw_fc ⟨_, wc_X6_treads⟩ (fw_fc ⟨_, wc_X6_turn⟩ (fw_fc ⟨_, wc_X6_days⟩ (fw_fc ⟨_, wc_X6_notDays⟩ (fw_fc ⟨_, wc_X6_behind⟩ (fw_fc ⟨_, wc_X6_thistlesIn⟩ (fw_fc ⟨_, wc_X6_thistles⟩ (fw_fc ⟨_, wc_X6_hasThistle⟩ (fw_fc ⟨_, wc_X6_firstOf⟩ (fw_fc ⟨_, wc_X6_firstThistle⟩ (fw_fc ⟨_, wc_X6_lateOf⟩ (fw_fc ⟨_, wc_X6_longest⟩ (fw_fc ⟨_, wc_X6_beside⟩ (fw_fc ⟨_, wc_X6_findFar⟩ (fw_fc ⟨_, wc_X6_stepsOf⟩ (fw_fc ⟨_, wc_X6_notYards⟩ (fw_fc ⟨_, wc_X6_steps⟩ (fw_fc ⟨_, wc_X6_reached⟩ (fw_fc ⟨_, wc_X6_stepsRolled⟩ (fw_fc ⟨_, wc_X6_cut⟩ (fw_fc ⟨_, wc_X6_stepsTrod⟩ (fw_fc ⟨_, wc_X6_opens⟩ (fw_fc ⟨_, wc_X6_putAway⟩ (fw_fc ⟨_, wc_X6_mostOf⟩ (fw_fc ⟨_, wc_X6_treadings⟩ (fw_fc ⟨_, wc_X6_nextLaid⟩ (fw_fc ⟨_, wc_X6_turns⟩ (fw_fc ⟨_, wc_X6_thistlesTrod⟩ (fw_fc ⟨_, wc_X6_needy⟩ (fw_fc ⟨_, wc_X6_grownWithout⟩ (fw_fc ⟨_, wc_X6_sold⟩ (fw_fc ⟨_, wc_X6_hay⟩ (fw_fc ⟨_, wc_X6_shareYard⟩ (fw_fc ⟨_, wc_X6_same⟩ (fw_fc ⟨_, wc_X6_isEdge⟩ (fw_fc ⟨_, wc_X6_edge⟩ (fw_fc ⟨_, wc_X6_divisor⟩ (fw_fc ⟨_, wc_X6_rain⟩ (fw_fc ⟨_, wc_X6_two⟩ (fw_fc ⟨_, wc_X6_isPatch⟩ (fw_fc ⟨_, wc_X6_patch⟩ (fw_fc ⟨_, wc_X6_isSo⟩ (fw_fc ⟨_, wc_X6_bitsFor⟩ (fw_fc ⟨_, wc_X6_whatWas⟩ (fw_fc ⟨_, wc_X6_row⟩ (fw_fc ⟨_, wc_X6_judge⟩ (fw_fc ⟨_, wc_X6_clear⟩ (fw_fc ⟨_, wc_X6_lots⟩ (fw_fc ⟨_, wc_X6_count⟩ (fun _ h => absurd h List.not_mem_nil))))))))))))))))))))))))))))))))))))))))))))))))))))))))))))))))))))))))))))))))))))))))))))))))))))))))))))))))))))))))))))))))))))))))))))))))))))))))))))))))))))))))))))))))))))))))))))))))))))))))))))))))))))))))))
/-- a method's contract out of a walk from its first instruction -/
theorem fw_enter {X : Nat × (Nat → Int32)} {l : Launch} {mi : fw_MI} {av : List Value} {σ : fw_St} {Q : Option Value → fw_St → Prop} {lo : fw_Lo} (cuts : List Nat) (f : Nat) (hok : fw_okc mi (fw_cd mi) = true) (hcd : fw_cdP mi) (hlen : Nat.ble (fw_cat av) (fw_ml mi) = true) (hlo : fw_ent (fw_ml mi) av = lo) (h0 : fw_pc (fw_cd mi) 0 = some 0) (h : fw_run X l mi Q cuts f true 0 0 0 lo [] σ) : fw_Sem X l mi av σ Q := by
  subst hlo
  refine fw_enter_go hcd (Nat.le_of_ble_eq_true hlen) (fw_run_sound fw_mt_ok ?_ hok cuts f true 0 0 0 _ [] σ 0 h0 h)
  obtain ⟨p, h9⟩ := hcd
  simp only [fw_cdB, Bool.and_eq_true, decide_eq_true_eq] at h9
  exact h9.1.1.2
/-- a walk from a place of the code -/
theorem fw_from {X : Nat × (Nat → Int32)} {l : Launch} {mi : fw_MI} {Q : Option Value → fw_St → Prop} {k n pc : Nat} {lo : fw_Lo} {st : List Value} {σ : fw_St} (cuts : List Nat) (f : Nat) (i : Nat) (hok : fw_okc mi (fw_cd mi) = true) (hcd : fw_cdP mi) (h0 : fw_pc (fw_cd mi) i = some pc) (h : fw_run X l mi Q cuts f true i k n lo st σ) : fw_Go X l mi Q pc k n lo st σ := by
  refine fw_run_sound fw_mt_ok ?_ hok cuts f true i k n lo st σ pc h0 h
  obtain ⟨p, h9⟩ := hcd
  simp only [fw_cdB, Bool.and_eq_true, decide_eq_true_eq] at h9
  exact h9.1.1.2
