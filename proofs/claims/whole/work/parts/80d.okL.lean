theorem okL_14 : fw_okr mL_law 626 48 = true := by decide +kernel
theorem okL_15 : fw_okr mL_law 674 48 = true := by decide +kernel
theorem okL_16 : fw_okr mL_law 722 48 = true := by decide +kernel
theorem okL_17 : fw_okr mL_law 770 48 = true := by decide +kernel
theorem okL_18 : fw_okr mL_law 818 48 = true := by decide +kernel
theorem ok_L_len : (fw_cd mL_law).length = 866 := by decide +kernel
theorem ok_L_law : fw_okc mL_law (fw_cd mL_law) = true := by
  refine fw_okc_of _ (fun i e he => ?_)
  have hi : i < 866 := by
    rw [fw_nth_eq] at he
    have := (List.getElem?_eq_some_iff.mp he).1
    rw [ok_L_len] at this
    exact this
  have key : fw_oki mL_law i = true := by
    by_cases h0 : i < 20
    · exact fw_okr_at 20 okL_0 i (by omega) (by omega)
    by_cases h1 : i < 50
    · exact fw_okr_at 30 okL_1 i (by omega) (by omega)
    by_cases h2 : i < 98
    · exact fw_okr_at 48 okL_2 i (by omega) (by omega)
    by_cases h3 : i < 146
    · exact fw_okr_at 48 okL_3 i (by omega) (by omega)
    by_cases h4 : i < 194
    · exact fw_okr_at 48 okL_4 i (by omega) (by omega)
    by_cases h5 : i < 242
    · exact fw_okr_at 48 okL_5 i (by omega) (by omega)
    by_cases h6 : i < 290
    · exact fw_okr_at 48 okL_6 i (by omega) (by omega)
    by_cases h7 : i < 338
    · exact fw_okr_at 48 okL_7 i (by omega) (by omega)
    by_cases h8 : i < 386
    · exact fw_okr_at 48 okL_8 i (by omega) (by omega)
    by_cases h9 : i < 434
    · exact fw_okr_at 48 okL_9 i (by omega) (by omega)
    by_cases h10 : i < 482
    · exact fw_okr_at 48 okL_10 i (by omega) (by omega)
    by_cases h11 : i < 530
    · exact fw_okr_at 48 okL_11 i (by omega) (by omega)
    by_cases h12 : i < 578
    · exact fw_okr_at 48 okL_12 i (by omega) (by omega)
    by_cases h13 : i < 626
    · exact fw_okr_at 48 okL_13 i (by omega) (by omega)
    by_cases h14 : i < 674
    · exact fw_okr_at 48 okL_14 i (by omega) (by omega)
    by_cases h15 : i < 722
    · exact fw_okr_at 48 okL_15 i (by omega) (by omega)
    by_cases h16 : i < 770
    · exact fw_okr_at 48 okL_16 i (by omega) (by omega)
    by_cases h17 : i < 818
    · exact fw_okr_at 48 okL_17 i (by omega) (by omega)
    exact fw_okr_at 48 okL_18 i (by omega) (by omega)
  unfold fw_oki at key
  rw [he] at key
  exact key
