theorem fw_arg_sp : ∀ (b : Nat) (st acc : List Value) (κ : List Value → List Value → Prop), fw_arg b st acc κ → ∃ av st', av.length = b ∧ st = av.reverse ++ st' ∧ κ (av ++ acc) st'
  | 0, st, acc, κ, h => ⟨[], st, rfl, rfl, h⟩
  | b + 1, [], acc, κ, h => h.elim
  | b + 1, v :: st, acc, κ, h => by
    obtain ⟨av, st', h1, h2, h3⟩ := fw_arg_sp b st (v :: acc) κ h
    exact ⟨av ++ [v], st', by simp [h1], by simp [h2], by simpa using h3⟩
theorem fw_refs_map {n : Nat} {ad ad' : Nat → Nat} (he : ∀ i, i < n ∨ 1000 ≤ i → ad' i = ad i) : ∀ st : List Value, fw_refs n st = true → st.map (fw_cz ad') = st.map (fw_cz ad)
  | [], _ => rfl
  | .ref i :: r, h => by
    simp only [fw_refs] at h
    split at h
    · rename_i hh
      simp only [Bool.or_eq_true, Nat.blt_eq, Nat.ble_eq] at hh
      simp [fw_cz, he i hh, fw_refs_map he r h]
    · cases h
  | .int _ :: r, h => by simp [fw_cz, fw_refs_map he r h]
  | .long _ :: r, h => by simp [fw_cz, fw_refs_map he r h]
  | .float _ :: r, h => by simp [fw_cz, fw_refs_map he r h]
  | .double _ :: r, h => by simp [fw_cz, fw_refs_map he r h]
  | .null :: r, h => by simp [fw_cz, fw_refs_map he r h]
  | .retAddr _ :: r, h => by simp [fw_cz, he 3001 (Or.inr (by omega)), he 3000 (Or.inr (by omega)), fw_refs_map he r h]
theorem fw_lrefs_get {n : Nat} {ad ad' : Nat → Nat} (he : ∀ i, i < n ∨ 1000 ≤ i → ad' i = ad i) : ∀ (lo : fw_Lo) (j : Nat) (v : Value), fw_lrefs n lo = true → lo[j]? = some (some v) → fw_cz ad' v = fw_cz ad v
  | [], j, v, _, hj => by simp at hj
  | x :: r, j, v, h, hj => by
    have h2 : fw_lrefs n r = true := by
      rcases x with _ | y
      · exact h
      · cases y with
        | ref i =>
          simp only [fw_lrefs] at h
          split at h
          · exact h
          · cases h
        | _ => exact h
    cases j with
    | succ j => exact fw_lrefs_get he r j v h2 (by simpa using hj)
    | zero =>
      simp at hj
      subst hj
      cases v with
      | ref i =>
        simp only [fw_lrefs] at h
        split at h
        · rename_i hh
          simp only [Bool.or_eq_true, Nat.blt_eq, Nat.ble_eq] at hh
          simp [fw_cz, he i hh]
        · cases h
      | retAddr _ => simp [fw_cz, he 3001 (Or.inr (by omega)), he 3000 (Or.inr (by omega))]
      | _ => rfl
theorem fw_cat_map (ad : Nat → Nat) : ∀ st : List Value, ((st.map (fw_cz ad)).map fun v => v.category).sum = fw_cat st
  | [] => rfl
  | v :: r => by
    show (fw_cz ad v).category + ((r.map (fw_cz ad)).map fun v => v.category).sum = v.category + fw_cat r
    rw [fw_cz_cat, fw_cat_map ad r]
section fwC
variable {X : Nat × (Nat → Int32)} {l : Launch} {mi mc : fw_MI} {Q Q' : Option Value → fw_St → Prop} {k n pc : Nat} {lo : fw_Lo} {av st : List Value} {σ : fw_St}
/-- behind a call -/
theorem fs_back {p : Program} {e : Env} {s : State} {m : MethodId} {args : Array Value} {below : List Frame} {meth : Method} {c : Code} {D : va_G} {cI cB : ClassId} {n0 : Nat} {ad0 ad : Nat → Nat} {A : Nat → Prop} {Z : State → Prop} {H : Heap} {locs : List Loc} {ls : Array Slot} {st0 : List Value} {a' : Array Value}
    (hC : fw_Cx mi p s m args meth c A) (hW : fw_Wd X D cI cB (fw_rm mi).cells n0 ad0 ad σ A s H locs) (hL : fw_lo ad ls (fw_ml mi) lo) (hR : fw_Rt X l mi Q p e s m args below meth c D cI cB n0 ad0 A Z)
    (hk : k + (fw_rm mc).cells ≤ (fw_rm mi).cells) (hn : n + (fw_rm mc).slots ≤ (fw_rm mi).slots) (hv : (fw_rm mc).cells = 0 ∨ (fw_lrefs σ.1.length lo = true ∧ fw_refs σ.1.length st = true))
    (hr : va_Run p l e (fw_rm mi) s m args below meth c H locs k n (fw_rm mc).cells (fw_rm mc).slots (F0 m pc ls st0) (st.map (fw_cz ad)) (fw_Qc Q' D cI cB ad σ H.size (fw_rm mc).cells a') (va_A (fw_w ad cI cB σ) H.size))
    (hg : ∀ (v : Option Value) (σ' : fw_St), Q' v σ' → fw_Go X l mi Q (pc + 3) (k + (fw_rm mc).cells) (n + (fw_rm mc).slots) lo (v.toList ++ st) σ') : W p l e (fw_rm mi) s m args below meth c H locs k n Z (F0 m pc ls st0) := by
  obtain ⟨hK, hP, hD, hS, hE, hext, hn0⟩ := hW
  have hF : ∀ q, va_A (fw_w ad cI cB σ) H.size q → A q := by
    rintro q (⟨j, ee, hj⟩ | hq)
    · exact hD.2 j _ hj
    · exact hC.2.2.2.2.2.1 q (Nat.le_trans hS.1 hq)
  intro T hT X0
  obtain ⟨v, st₀, t, T', L, h0, X', hL1, e1, e2, ⟨⟨v', σ', ad', hv', hq, hext', hlen, hP1, hD1⟩, hz, hk1⟩, stp⟩ := hr T hT X0
  have hvv : v = v'.map (fw_cz ad') := by cases hv'; rfl
  subst hvv
  rw [h0] at hz hk1
  have hall : ∀ i, ((fw_rm mc).cells = 0 ∨ i < σ.1.length ∨ 1000 ≤ i) → ad' i = ad i := hext'
  have hlo : fw_lo ad' ls (fw_ml mi) lo := by
    refine ⟨hL.1, hL.2.1, fun j w hj => ?_⟩
    rcases hv with h9 | h9
    · have : ad' = ad := funext fun i => hall i (Or.inl h9)
      rw [this]; exact hL.2.2 j w hj
    · rw [fw_lrefs_get (fun i hi => hall i (Or.inr hi)) lo j w h9.1 (fw_get_lt hj)]
      exact hL.2.2 j w hj
  have hst : st.map (fw_cz ad') = st.map (fw_cz ad) := by
    rcases hv with h9 | h9
    · have : ad' = ad := funext fun i => hall i (Or.inl h9)
      rw [this]
    · exact fw_refs_map (fun i hi => hall i (Or.inr hi)) st h9.2
  have hW' : fw_Wd X D cI cB (fw_rm mi).cells n0 ad0 ad' σ' A s T'.heap (locs ++ L) := by
    refine ⟨hK, by rw [e1]; exact hP1, hD1.weaken (fun _ q _ hq => hF q.1 hq), ?_, hE.ext (fun i hi => hall i (Or.inr (Or.inr hi))), ?_, Nat.le_trans hn0 hlen⟩
    · exact ⟨Nat.le_trans hS.1 (by rw [e1]; exact hz), fun q h1 h2 => by rw [e1, hk1 q (Nat.lt_of_lt_of_le h1 hS.1) (fun z => h2 (hF q z))]; exact hS.2.1 q h1 h2, fun q hq => by
        rcases List.mem_append.mp hq with h | h
        · exact hS.2.2 q h
        · exact hF _ (hL1 q h)⟩
    · intro i hi
      rw [hall i ?_]
      · exact hext i hi
      · rcases hi with hi | hi | hi
        · exact Or.inl (by omega)
        · exact Or.inr (Or.inl (by omega))
        · exact Or.inr (Or.inr hi)
  obtain ⟨t2, a1, b1⟩ := hg v' σ' hq p e s m args below meth c D cI cB n0 ad0 ad' A Z T'.heap (locs ++ L) ls hC hW' hlo hk hn hR T' rfl X'
  refine ⟨t2, stp t2 ?_, b1⟩
  have e3 : (v'.toList ++ st).map (fw_cz ad') = (v'.map (fw_cz ad')).toList ++ st.map (fw_cz ad) := by
    rw [List.map_append, hst]
    cases v' <;> rfl
  rw [e3] at a1
  exact a1
theorem fw_pay {args : Array Value} {s : State} (hts : ∀ w ∈ fw_lw, w.before args s = true) (hc : Cond.code (fw_y mc) (fw_b mc) (fw_ml mc) (fw_rt mc) ∈ fw_lw) : ∀ w ∈ fw_ws mc, ∀ (a' : Array Value) (U : State), s.WarmedH U.vm → w.before a' U = true := by
  have hG : ∀ w ∈ fw_lw, (w.onTables && w.keeps) = true ∨ ∃ ty, w = .arrayClass ty := fun w hw => good_of_word (List.mem_filter.mp hw).2
  refine pay_in (big := fw_lw) hts (fun w hw => ?_)
  rcases List.mem_cons.mp hw with h | h
  · exact ⟨h ▸ hc, hG w (h ▸ hc)⟩
  · exact ⟨h, hG w h⟩
theorem fw_blind {D : va_G} {cI cB : ClassId} {ad : Nat → Nat} {sz : Nat} : FrameBlind (va_Pc (av.map (fw_cz ad)) (fun U => U.heap.size = sz ∧ fw_Cn X D cI cB ad σ U)) := by
  intro a U g mk q
  obtain ⟨q0, q1, qK, qP, qD, qE⟩ := q
  exact ⟨q0, q1, va_K.moved (u := U) (U := U.calling g mk a) (Vm.Alike.refl U.vm) qK, qP, qD, fw_E.same (s := U) (U := U.calling g mk a) rfl qE⟩
theorem fw_Cn_of {s U : State} {A : Nat → Prop} {D : va_G} {cI cB : ClassId} {mcl n0 : Nat} {ad0 ad : Nat → Nat} {H : Heap} {locs : List Loc} (hA : ∀ q, s.heap.size ≤ q → A q) (hW : fw_Wd X D cI cB mcl n0 ad0 ad σ A s H locs) (hU : U.heap = H) (hw : s.WarmedH U.vm) : U.heap.size = H.size ∧ fw_Cn X D cI cB ad σ U := by
  obtain ⟨hK, hP, hD, hS, hE, -, -⟩ := hW
  refine ⟨by rw [hU], hK.moved hw.alike, by rw [hU]; exact hP, hD.weaken (fun _ _ _ _ => trivial), ?_⟩
  rw [hU]
  refine ((hE.warm hw).kept hS.1 hS.2.1).narrow ?_
  rintro q (⟨j, ee, hj⟩ | hq)
  · exact hD.2 j _ hj
  · exact hA q (Nat.le_trans hS.1 hq)
/-- what the code's table says of a callee -/
def fw_callee (mi mc : fw_MI) (b : Nat) : Prop := Cond.code (fw_y mc) (fw_b mc) (fw_ml mc) (fw_rt mc) ∈ fw_lw ∧ Cond.initialized (fw_y mc).cls ∈ fw_lw ∧ ((fw_y mc).cls ≠ "java/lang/invoke/MethodHandle" ∧ (fw_y mc).cls ≠ "java/lang/invoke/VarHandle") ∧ (parseMethodDescriptor (fw_y mc).desc).map (fun d => d.parameters.length) = some b ∧ (fw_rm mc).frames + 1 ≤ (fw_rm mi).frames ∧ 8 + (fw_ml mc + 11) + (fw_rm mc).locals ≤ (fw_rm mi).locals
theorem fs_virt {idx o : Nat} (hd : decode (fw_b mi) pc = .ok (.invokevirtual idx, 3)) (hcl : fw_callee mi mc av.length) (hlk : Cond.methodLink (fw_y mi).cls idx (fw_y mc) ∈ fw_lw) (hin : Cond.instanceMethod (fw_y mc) ∈ fw_lw) (hse : Cond.selects (fw_y mc).cls (fw_y mc) (fw_y mc) ∈ fw_lw) (hcat : fw_cat st ≤ 8)
    (hrec : ∀ {D : va_G} {cI cB : ClassId} {mcl n0 : Nat} {ad0 ad : Nat → Nat} {A : Nat → Prop} {s : State} {H : Heap} {locs : List Loc}, fw_Wd X D cI cB mcl n0 ad0 ad σ A s H locs → ∃ cell : Cell, H[ad o]? = some cell ∧ cell.vm.isStatics = false ∧ s.vm.findClass (fw_y mc).cls = some cell.cls)
    (hkn : (fw_rm mc).cells = 0 ∧ (fw_rm mc).slots = 0 ∨ (k + (fw_rm mc).cells ≤ (fw_rm mi).cells ∧ n + (fw_rm mc).slots ≤ (fw_rm mi).slots ∧ fw_lrefs σ.1.length lo = true ∧ fw_refs σ.1.length st = true))
    (hsem : fw_Sem X l mc (.ref o :: av) σ Q') (hg : ∀ (v : Option Value) (σ' : fw_St), Q' v σ' → fw_Go X l mi Q (pc + 3) (k + (fw_rm mc).cells) (n + (fw_rm mc).slots) lo (v.toList ++ st) σ') : fw_Go X l mi Q pc k n lo (av.reverse ++ .ref o :: st) σ := by
  intro p e s m args below meth c D cI cB n0 ad0 ad A Z H locs ls hC hW hL hk hn hR
  obtain ⟨hx, hb, hml, hown, hts, hA, hnm⟩ := id hC
  obtain ⟨c1, c2, c3, c4, c5, c6⟩ := hcl
  have hk' : k + (fw_rm mc).cells ≤ (fw_rm mi).cells := by rcases hkn with h | h <;> omega
  have hn' : n + (fw_rm mc).slots ≤ (fw_rm mi).slots := by rcases hkn with h | h <;> omega
  refine fs_back hC hW hL hR hk' hn' (hkn.imp (fun h => h.1) (fun h => h.2.2)) (va_runV (As := av.map (fw_cz ad)) (rest := st.map (fw_cz ad)) (C := (fw_y mc).cls) (b := ad o) (n := av.length) (bytes := fw_b mc) (maxL := fw_ml mc) (ret := fw_rt mc) (Ts := fw_lw) ⟨hx, hb, hml, hown, hts⟩ (hsem D cI cB ad H.size) ⟨⟨rfl, rfl, c5, c6, fw_pay hts c1, List.mem_cons_self, hts _ c1, hts _ c2, c3, fun sig h => ?_, hts _ hlk⟩, hts _ hin, hts _ hse⟩ ⟨fw_blind, hrec hW, fun U hU hw => ⟨rfl, fw_Cn_of hA hW hU hw⟩⟩ rfl (by simp) hL.1 (by simp [fw_cz]) ?_ hd ⟨hk', hn'⟩) hg
  · rw [h] at c4; exact (Option.some.inj c4).symm
  · exact lv_room (by rw [fw_cat_map]; exact hcat)
theorem fs_stat {idx : Nat} (hd : decode (fw_b mi) pc = .ok (.invokestatic idx, 3)) (hcl : fw_callee mi mc av.length) (hlk : Cond.methodLink (fw_y mi).cls idx (fw_y mc) ∈ fw_lw) (hst : Cond.static (fw_y mc) ∈ fw_lw) (hcat : fw_cat st ≤ 8)
    (hkn : (fw_rm mc).cells = 0 ∧ (fw_rm mc).slots = 0 ∨ (k + (fw_rm mc).cells ≤ (fw_rm mi).cells ∧ n + (fw_rm mc).slots ≤ (fw_rm mi).slots ∧ fw_lrefs σ.1.length lo = true ∧ fw_refs σ.1.length st = true))
    (hsem : fw_Sem X l mc av σ Q') (hg : ∀ (v : Option Value) (σ' : fw_St), Q' v σ' → fw_Go X l mi Q (pc + 3) (k + (fw_rm mc).cells) (n + (fw_rm mc).slots) lo (v.toList ++ st) σ') : fw_Go X l mi Q pc k n lo (av.reverse ++ st) σ := by
  intro p e s m args below meth c D cI cB n0 ad0 ad A Z H locs ls hC hW hL hk hn hR
  obtain ⟨hx, hb, hml, hown, hts, hA, hnm⟩ := id hC
  obtain ⟨c1, c2, c3, c4, c5, c6⟩ := hcl
  have hk' : k + (fw_rm mc).cells ≤ (fw_rm mi).cells := by rcases hkn with h | h <;> omega
  have hn' : n + (fw_rm mc).slots ≤ (fw_rm mi).slots := by rcases hkn with h | h <;> omega
  refine fs_back hC hW hL hR hk' hn' (hkn.imp (fun h => h.1) (fun h => h.2.2)) (va_runS (As := av.map (fw_cz ad)) (rest := st.map (fw_cz ad)) (n := av.length) (bytes := fw_b mc) (maxL := fw_ml mc) (ret := fw_rt mc) (Ts := fw_lw) ⟨hx, hb, hml, hown, hts⟩ (hsem D cI cB ad H.size) ⟨⟨rfl, rfl, c5, c6, fw_pay hts c1, List.mem_cons_self, hts _ c1, hts _ c2, c3, fun sig h => ?_, hts _ hlk⟩, hts _ hst⟩ ⟨fw_blind, fun U hU hw => ⟨rfl, fw_Cn_of hA hW hU hw⟩⟩ rfl (by simp) hL.1 (by simp) ?_ hd ⟨hk', hn'⟩) hg
  · rw [h] at c4; exact (Option.some.inj c4).symm
  · exact lv_room (by rw [fw_cat_map]; exact hcat)
theorem fs_statN {idx : Nat} {host : String} (hd : decode (fw_b mi) pc = .ok (.invokestatic idx, 3)) (hcl : fw_callee mi mc av.length) (hlk : ((fw_y mi).cls, idx, fw_y mc, host) ∈ fw_nst) (hst : Cond.static (fw_y mc) ∈ fw_lw) (hcat : fw_cat st ≤ 8)
    (hkn : (fw_rm mc).cells = 0 ∧ (fw_rm mc).slots = 0 ∨ (k + (fw_rm mc).cells ≤ (fw_rm mi).cells ∧ n + (fw_rm mc).slots ≤ (fw_rm mi).slots ∧ fw_lrefs σ.1.length lo = true ∧ fw_refs σ.1.length st = true))
    (hsem : fw_Sem X l mc av σ Q') (hg : ∀ (v : Option Value) (σ' : fw_St), Q' v σ' → fw_Go X l mi Q (pc + 3) (k + (fw_rm mc).cells) (n + (fw_rm mc).slots) lo (v.toList ++ st) σ') : fw_Go X l mi Q pc k n lo (av.reverse ++ st) σ := by
  intro p e s m args below meth c D cI cB n0 ad0 ad A Z H locs ls hC hW hL hk hn hR
  obtain ⟨hx, hb, hml, hown, hts, hA, hnm⟩ := id hC
  obtain ⟨c1, c2, c3, c4, c5, c6⟩ := hcl
  have hk' : k + (fw_rm mc).cells ≤ (fw_rm mi).cells := by rcases hkn with h | h <;> omega
  have hn' : n + (fw_rm mc).slots ≤ (fw_rm mi).slots := by rcases hkn with h | h <;> omega
  refine fs_back hC hW hL hR hk' hn' (hkn.imp (fun h => h.1) (fun h => h.2.2)) (va_runSN (As := av.map (fw_cz ad)) (rest := st.map (fw_cz ad)) (n := av.length) (bytes := fw_b mc) (maxL := fw_ml mc) (ret := fw_rt mc) (Ts := fw_lw) (host := host) ⟨hx, hb, hml, hown, hts⟩ (hsem D cI cB ad H.size) ⟨⟨⟨rfl, rfl, c5, c6, fw_pay hts c1, List.mem_cons_self⟩, hts _ c1, hts _ c2, c3, fun sig h => ?_, va_Nw.use rfl (hW.2.2.2.2.1.1 _ hlk)⟩, hts _ hst, trivial⟩ ⟨fw_blind, fun U hU hw => ⟨rfl, fw_Cn_of hA hW hU hw⟩⟩ rfl (by simp) hL.1 (by simp) ?_ hd ⟨hk', hn'⟩) hg
  · rw [h] at c4; exact (Option.some.inj c4).symm
  · exact lv_room (by rw [fw_cat_map]; exact hcat)
theorem fs_spec {idx o : Nat} (hd : decode (fw_b mi) pc = .ok (.invokespecial idx, 3)) (hcl : fw_callee mi mc av.length) (hrt : fw_rt mc = none) (hy : (fw_y mc).name = "<init>") (hlk : Cond.methodLink (fw_y mi).cls idx (fw_y mc) ∈ fw_lw) (hin : Cond.instanceMethod (fw_y mc) ∈ fw_lw) (hcat : fw_cat st ≤ 8)
    (hkn : (fw_rm mc).cells = 0 ∧ (fw_rm mc).slots = 0 ∨ (k + (fw_rm mc).cells ≤ (fw_rm mi).cells ∧ n + (fw_rm mc).slots ≤ (fw_rm mi).slots ∧ fw_lrefs σ.1.length lo = true ∧ fw_refs σ.1.length st = true))
    (hsem : fw_Sem X l mc (.ref o :: av) σ Q') (hg : ∀ (v : Option Value) (σ' : fw_St), Q' v σ' → fw_Go X l mi Q (pc + 3) (k + (fw_rm mc).cells) (n + (fw_rm mc).slots) lo (v.toList ++ st) σ') : fw_Go X l mi Q pc k n lo (av.reverse ++ .ref o :: st) σ := by
  intro p e s m args below meth c D cI cB n0 ad0 ad A Z H locs ls hC hW hL hk hn hR
  obtain ⟨hx, hb, hml, hown, hts, hA, hnm⟩ := id hC
  obtain ⟨c1, c2, c3, c4, c5, c6⟩ := hcl
  have hk' : k + (fw_rm mc).cells ≤ (fw_rm mi).cells := by rcases hkn with h | h <;> omega
  have hn' : n + (fw_rm mc).slots ≤ (fw_rm mi).slots := by rcases hkn with h | h <;> omega
  refine fs_back hC hW hL hR hk' hn' (hkn.imp (fun h => h.1) (fun h => h.2.2)) (va_runI (As := av.map (fw_cz ad)) (rest := st.map (fw_cz ad)) (b := ad o) (n := av.length) (bytes := fw_b mc) (maxL := fw_ml mc) (Ts := fw_lw) ⟨hx, hb, hml, hown, hts⟩ (hsem D cI cB ad H.size) ⟨⟨rfl, rfl, c5, c6, fw_pay hts c1, by rw [← hrt]; exact List.mem_cons_self, by rw [← hrt]; exact hts _ c1, hts _ c2, c3, fun sig h => ?_, hts _ hlk⟩, hy, hts _ hin⟩ ⟨fw_blind, fun U hU hw => ⟨rfl, fw_Cn_of hA hW hU hw⟩⟩ rfl (by simp) hL.1 (by simp [fw_cz]) ?_ hd ⟨hk', hn'⟩) hg
  · rw [h] at c4; exact (Option.some.inj c4).symm
  · exact lv_room (by rw [fw_cat_map]; exact hcat)
theorem fs_specN {idx o : Nat} {host : String} (hd : decode (fw_b mi) pc = .ok (.invokespecial idx, 3)) (hcl : fw_callee mi mc av.length) (hrt : fw_rt mc = none) (hy : (fw_y mc).name = "<init>") (hlk : ((fw_y mi).cls, idx, fw_y mc, host) ∈ fw_nst) (hin : Cond.instanceMethod (fw_y mc) ∈ fw_lw) (hcat : fw_cat st ≤ 8)
    (hkn : (fw_rm mc).cells = 0 ∧ (fw_rm mc).slots = 0 ∨ (k + (fw_rm mc).cells ≤ (fw_rm mi).cells ∧ n + (fw_rm mc).slots ≤ (fw_rm mi).slots ∧ fw_lrefs σ.1.length lo = true ∧ fw_refs σ.1.length st = true))
    (hsem : fw_Sem X l mc (.ref o :: av) σ Q') (hg : ∀ (v : Option Value) (σ' : fw_St), Q' v σ' → fw_Go X l mi Q (pc + 3) (k + (fw_rm mc).cells) (n + (fw_rm mc).slots) lo (v.toList ++ st) σ') : fw_Go X l mi Q pc k n lo (av.reverse ++ .ref o :: st) σ := by
  intro p e s m args below meth c D cI cB n0 ad0 ad A Z H locs ls hC hW hL hk hn hR
  obtain ⟨hx, hb, hml, hown, hts, hA, hnm⟩ := id hC
  obtain ⟨c1, c2, c3, c4, c5, c6⟩ := hcl
  have hk' : k + (fw_rm mc).cells ≤ (fw_rm mi).cells := by rcases hkn with h | h <;> omega
  have hn' : n + (fw_rm mc).slots ≤ (fw_rm mi).slots := by rcases hkn with h | h <;> omega
  refine fs_back hC hW hL hR hk' hn' (hkn.imp (fun h => h.1) (fun h => h.2.2)) (va_runIN (As := av.map (fw_cz ad)) (rest := st.map (fw_cz ad)) (b := ad o) (n := av.length) (bytes := fw_b mc) (maxL := fw_ml mc) (Ts := fw_lw) (host := host) ⟨hx, hb, hml, hown, hts⟩ (hsem D cI cB ad H.size) ⟨⟨⟨rfl, rfl, c5, c6, fw_pay hts c1, by rw [← hrt]; exact List.mem_cons_self⟩, by rw [← hrt]; exact hts _ c1, hts _ c2, c3, fun sig h => ?_, va_Nw.use rfl (hW.2.2.2.2.1.1 _ hlk)⟩, hy, hts _ hin⟩ ⟨fw_blind, fun U hU hw => ⟨rfl, fw_Cn_of hA hW hU hw⟩⟩ rfl (by simp) hL.1 (by simp [fw_cz]) ?_ hd ⟨hk', hn'⟩) hg
  · rw [h] at c4; exact (Option.some.inj c4).symm
  · exact lv_room (by rw [fw_cat_map]; exact hcat)
theorem fs_obj {idx o : Nat} (hd : decode (fw_b mi) pc = .ok (.invokespecial idx, 3)) (hlk : Cond.methodLink (fw_y mi).cls idx Lib.objectInit ∈ fw_lw) (hin : Cond.instanceMethod Lib.objectInit ∈ fw_lw) (hcat : fw_cat st ≤ 8) (hf : 1 ≤ (fw_rm mi).frames) (hlo : 20 ≤ (fw_rm mi).locals) (h : fw_Go X l mi Q (pc + 3) k n lo st σ) : fw_Go X l mi Q pc k n lo (.ref o :: st) σ := by
  intro p e s m args below meth c D cI cB n0 ad0 ad A Z H locs ls hC hW hL hk hn hR
  have h1 := lv_room (m := m) (pc := pc) (ls := ls) (rest := (.ref (ad o) :: st.map (fw_cz ad))) (st := st.map (fw_cz ad)) (by rw [fw_cat_map]; exact hcat)
  exact W.objInit hC.1 hC.2.1 hC.2.2.2.1 (hC.2.2.2.2.1 _ hlk) (hC.2.2.2.2.1 _ hin) (hC.2.2.2.2.1 _ (fw_wd_in fw_oi_ok)) rfl (hL.1.trans hC.2.2.1.symm) rfl hd hf (by exact Nat.le_trans (Nat.add_le_add_right h1 12) hlo) (h p e s m args below meth c D cI cB n0 ad0 ad A Z H locs ls hC hW hL hk hn hR)
theorem fs_mmax {idx : Nat} {x y : Int32} (hd : decode (fw_b mi) pc = .ok (.invokestatic idx, 3)) (h1 : Cond.methodLink (fw_y mi).cls idx Lib.Math.max.name ∈ fw_lw) (h2 : Cond.static Lib.Math.max.name ∈ fw_lw) (h3 : Cond.initialized "java/lang/Math" ∈ fw_lw) (h4 : Cond.code Lib.Math.max.name Lib.Math.max.code 2 (some .int) ∈ fw_lw) (hcat : fw_cat st ≤ 8) (hf : 1 ≤ (fw_rm mi).frames) (hlo : 21 ≤ (fw_rm mi).locals) (h : fw_Go X l mi Q (pc + 3) k n lo (.int (if x < y then y else x) :: st) σ) : fw_Go X l mi Q pc k n lo (.int y :: .int x :: st) σ :=
  fun p e s m args below meth c D cI cB n0 ad0 ad A Z H locs ls hC hW hL hk hn hR => va_mmax hC.1 hC.2.1 (hC.2.2.1.trans hL.1.symm) hC.2.2.2.1 (hC.2.2.2.2.1 _ h1) (hC.2.2.2.2.1 _ h2) (hC.2.2.2.2.1 _ h3) (hC.2.2.2.2.1 _ h4) hf (by rw [fw_cat_map]; omega) hk hn hd (h p e s m args below meth c D cI cB n0 ad0 ad A Z H locs ls hC hW hL hk hn hR)
theorem fs_mmin {idx : Nat} {x y : Int32} (hd : decode (fw_b mi) pc = .ok (.invokestatic idx, 3)) (h1 : Cond.methodLink (fw_y mi).cls idx Lib.Math.min.name ∈ fw_lw) (h2 : Cond.static Lib.Math.min.name ∈ fw_lw) (h3 : Cond.initialized "java/lang/Math" ∈ fw_lw) (h4 : Cond.code Lib.Math.min.name Lib.Math.min.code 2 (some .int) ∈ fw_lw) (hcat : fw_cat st ≤ 8) (hf : 1 ≤ (fw_rm mi).frames) (hlo : 21 ≤ (fw_rm mi).locals) (h : fw_Go X l mi Q (pc + 3) k n lo (.int (if y < x then y else x) :: st) σ) : fw_Go X l mi Q pc k n lo (.int y :: .int x :: st) σ :=
  fun p e s m args below meth c D cI cB n0 ad0 ad A Z H locs ls hC hW hL hk hn hR => va_mmin hC.1 hC.2.1 (hC.2.2.1.trans hL.1.symm) hC.2.2.2.1 (hC.2.2.2.2.1 _ h1) (hC.2.2.2.2.1 _ h2) (hC.2.2.2.2.1 _ h3) (hC.2.2.2.2.1 _ h4) hf (by rw [fw_cat_map]; omega) hk hn hd (h p e s m args below meth c D cI cB n0 ad0 ad A Z H locs ls hC hW hL hk hn hR)
theorem fs_copy {idx r0 r1 n9 n1 : Nat} {fl0 fl1 : List (Option (Option Nat))} {sp dp x : Int32} (hd : decode (fw_b mi) pc = .ok (.invokestatic idx, 3)) (h1 : Cond.methodLink (fw_y mi).cls idx arraycopyName ∈ fw_lw) (h2 : Cond.native arraycopyName ∈ fw_lw) (h3 : Cond.static arraycopyName ∈ fw_lw) (h4 : Cond.initialized "java/lang/System" ∈ fw_lw) (hcat : fw_cat st ≤ 8) (hf : 1 ≤ (fw_rm mi).frames) (hlo : 26 ≤ (fw_rm mi).locals)
    (hr0 : fw_nth σ.1 r0 = some (10, n9, fl0)) (hr1 : fw_nth σ.1 r1 = some (10, n1, fl1)) (hb : ¬ sp < 0 ∧ ¬ dp < 0 ∧ ¬ x < 0 ∧ sp.toNatClampNeg + x.toNatClampNeg ≤ n9 ∧ dp.toNatClampNeg + x.toNatClampNeg ≤ n1)
    (h : fw_Go X l mi Q (pc + 3) k n lo st (σ.1, fun o => if o = r1 then va_cpy (σ.2 r0) (σ.2 r1) sp.toNatClampNeg dp.toNatClampNeg x.toNatClampNeg else σ.2 o)) : fw_Go X l mi Q pc k n lo (.int x :: .int dp :: .ref r1 :: .int sp :: .ref r0 :: st) σ := by
  intro p e s m args below meth c D cI cB n0 ad0 ad A Z H locs ls hC hW hL hk hn hR
  refine va_copyi (ty := .int) hC.1 hC.2.1 (hC.2.2.1.trans hL.1.symm) hC.2.2.2.1 (hC.2.2.2.2.1 _ h1) (hC.2.2.2.2.1 _ h2) (hC.2.2.2.2.1 _ h3) (hC.2.2.2.2.1 _ h4) hW.1 hW.2.1 hW.2.2.1 hW.2.2.2.1 r0 r1 0 0 (fw_w_some hr0) (fw_w_some hr1) rfl rfl rfl hb.1 hb.2.1 hb.2.2.1 hb.2.2.2.1 hb.2.2.2.2 (fun _ _ => rfl) hf ?_ hd (fun H1 locs1 hP hD hS => ?_)
  · rw [fw_cat_map]
    have : nativeFrameWords "java/lang/System" "arraycopy" 5 = 7 := by decide +kernel
    omega
  have e1 : (fw_w ad cI cB σ).set r1 (ad r1, .inl (cI, n1, .inl (va_cpy (σ.2 r0) (σ.2 r1) sp.toNatClampNeg dp.toNatClampNeg x.toNatClampNeg))) = fw_w ad cI cB (σ.1, fun o => if o = r1 then va_cpy (σ.2 r0) (σ.2 r1) sp.toNatClampNeg dp.toNatClampNeg x.toNatClampNeg else σ.2 o) := by
    rw [fw_w_set (I' := fun o => if o = r1 then va_cpy (σ.2 r0) (σ.2 r1) sp.toNatClampNeg dp.toNatClampNeg x.toNatClampNeg else σ.2 o) (e' := (10, n1, fl1)) (fun o ho => by simp [ho]) (by simp [fw_ce]), fw_setself hr1]
  rw [e1] at hP hD
  exact h p e s m args below meth c D cI cB n0 ad0 ad A Z H1 locs1 ls hC ⟨hW.1, hP, hD, hS, hW.2.2.2.2⟩ hL hk hn hR
theorem fs_ret {ins : Instr} {v : Option Value} (hd : decode (fw_b mi) pc = .ok (ins, 1)) (hr : fw_rok (fw_rt mi) ins v) (hq : Q v σ) : fw_Go X l mi Q pc k n lo v.toList σ :=
  fun p e s m args below meth c D cI cB n0 ad0 ad A Z H locs ls hC hW hL hk hn hR => hR pc ins v σ ad H locs ls k n hd hr hq hW hk hn
end fwC
