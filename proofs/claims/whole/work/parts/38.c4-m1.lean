set_option maxHeartbeats 4000000 in
set_option maxRecDepth 100000 in
theorem c_X8_within {l : Launch} {D : va_G} {cI cC cB cQ : ClassId} {kc : Nat → Nat} {kt : Nat} (a0 a1 a2 : Int32) {r : Int32} (hF : f_X8_within a0 a1 a2 = some r) : CT l D (tysOf cI cC cB cQ) kc kt yX8_within cX8_within 3 (some .boolean) ({ frames := 1, cells := 0, slots := 0, locals := 40 } : Room) [.int a0, .int a1, .int a2] [] ((fun (r : Int32) => []) r) ((fun (r : Int32) => some (.int r)) r) := by
  refine CT.of (ww := (fun (r : Int32) => [])) (oo := (fun (r : Int32) => some (.int r))) hF RX8 rfl rfl (Nat.le_of_ble_eq_true rfl) ?_
  intro p e s m args below meth c A K hret hlk
  rewrite [f_X8_within]
  refine s_iload_n K dX8_within_0 rfl 0 rfl ?_
  refine s_iload_n K dX8_within_1 rfl 1 rfl ?_
  refine s_icmp_lt (tgt := 14) K dX8_within_2 (by decide) (fun c_1 => ?_) (fun c_1 => ?_)
  · refine s_iconst K dX8_within_14 kic_0 ?_
    exact s_zret K hret hlk rfl rfl rfl dX8_within_15
  · refine s_iload_n K dX8_within_5 rfl 0 rfl ?_
    refine s_iload_n K dX8_within_6 rfl 2 rfl ?_
    refine s_icmp_gt (tgt := 14) K dX8_within_7 (by decide) (fun c_2 => ?_) (fun c_2 => ?_)
    · refine s_iconst K dX8_within_14 kic_0 ?_
      exact s_zret K hret hlk rfl rfl rfl dX8_within_15
    · refine s_iconst K dX8_within_10 kic_1 ?_
      refine s_goto (tgt := 15) K dX8_within_11 (by decide) ?_
      exact s_zret K hret hlk rfl rfl rfl dX8_within_15
set_option maxHeartbeats 4000000 in
set_option maxRecDepth 100000 in
theorem c_X8_letter {l : Launch} {D : va_G} {cI cC cB cQ : ClassId} {kc : Nat → Nat} {kt : Nat} (mh q_depthOf q_kindOf q_sizeOf q_placeOf q_onOf q_sticksOf q_page q_savedDepth q_gameSize q_gamePlace q_gameSticks q_gameDepth q_keptDepth q_keptSize q_keptPlace q_keptOn q_keptSticks : Nat) (m_isLawn m_lawns m_wetness m_strength m_days m_balls m_asks m_books m_pageLength m_faultAt m_savedSize m_savedPlace m_savedSticks m_bestSize m_bestFirst : Int32) (m_seedNow : Int64) (m_isKept m_keptLawn m_keptBalls m_keptStrength m_keptDays : Int32) (m_h : Int64) (m_depthOf m_kindOf m_sizeOf m_placeOf m_onOf m_sticksOf m_page m_savedDepth m_gameSize m_gamePlace m_gameSticks m_gameDepth m_keptDepth m_keptSize m_keptPlace m_keptOn m_keptSticks : Nat → Int32) (a1 : Int32) {r : Int32 × Int32 × (Nat → Int32)} (hF : f_X8_letter m_pageLength m_page a1 = some r) : CT l D (tysOf cI cC cB cQ) kc kt yX8_letter cX8_letter 2 (some .int) ({ frames := 2, cells := 0, slots := 0, locals := 102 } : Room) [.ref mh, .int a1] (wM cI cC cB cQ kc mh q_depthOf q_kindOf q_sizeOf q_placeOf q_onOf q_sticksOf q_page q_savedDepth q_gameSize q_gamePlace q_gameSticks q_gameDepth q_keptDepth q_keptSize q_keptPlace q_keptOn q_keptSticks m_isLawn m_lawns m_wetness m_strength m_days m_balls m_asks m_books m_pageLength m_faultAt m_savedSize m_savedPlace m_savedSticks m_bestSize m_bestFirst m_seedNow m_isKept m_keptLawn m_keptBalls m_keptStrength m_keptDays m_h m_depthOf m_kindOf m_sizeOf m_placeOf m_onOf m_sticksOf m_page m_savedDepth m_gameSize m_gamePlace m_gameSticks m_gameDepth m_keptDepth m_keptSize m_keptPlace m_keptOn m_keptSticks) ((fun (r : Int32 × Int32 × (Nat → Int32)) => (wM cI cC cB cQ kc mh q_depthOf q_kindOf q_sizeOf q_placeOf q_onOf q_sticksOf q_page q_savedDepth q_gameSize q_gamePlace q_gameSticks q_gameDepth q_keptDepth q_keptSize q_keptPlace q_keptOn q_keptSticks m_isLawn m_lawns m_wetness m_strength m_days m_balls m_asks m_books (r.2.1) m_faultAt m_savedSize m_savedPlace m_savedSticks m_bestSize m_bestFirst m_seedNow m_isKept m_keptLawn m_keptBalls m_keptStrength m_keptDays m_h m_depthOf m_kindOf m_sizeOf m_placeOf m_onOf m_sticksOf (r.2.2) m_savedDepth m_gameSize m_gamePlace m_gameSticks m_gameDepth m_keptDepth m_keptSize m_keptPlace m_keptOn m_keptSticks)) r) ((fun (r : Int32 × Int32 × (Nat → Int32)) => some (.int (r.1))) r) := by
  refine CT.of (ww := (fun (r : Int32 × Int32 × (Nat → Int32)) => (wM cI cC cB cQ kc mh q_depthOf q_kindOf q_sizeOf q_placeOf q_onOf q_sticksOf q_page q_savedDepth q_gameSize q_gamePlace q_gameSticks q_gameDepth q_keptDepth q_keptSize q_keptPlace q_keptOn q_keptSticks m_isLawn m_lawns m_wetness m_strength m_days m_balls m_asks m_books (r.2.1) m_faultAt m_savedSize m_savedPlace m_savedSticks m_bestSize m_bestFirst m_seedNow m_isKept m_keptLawn m_keptBalls m_keptStrength m_keptDays m_h m_depthOf m_kindOf m_sizeOf m_placeOf m_onOf m_sticksOf (r.2.2) m_savedDepth m_gameSize m_gamePlace m_gameSticks m_gameDepth m_keptDepth m_keptSize m_keptPlace m_keptOn m_keptSticks))) (oo := (fun (r : Int32 × Int32 × (Nat → Int32)) => some (.int (r.1)))) hF RX8 rfl rfl (Nat.le_of_ble_eq_true rfl) ?_
  intro p e s m args below meth c A K hret hlk
  rewrite [f_X8_letter]
  refine s_iload_n K dX8_letter_0 rfl 1 rfl ?_
  refine s_bipush K dX8_letter_1 kib_32 ?_
  refine s_bipush K dX8_letter_3 kib_126 ?_
  refine s_bind (fun q hq_2 => ?_)
  obtain ⟨r_1, rfl⟩ : ∃ z, z = q := ⟨_, rfl⟩
  refine s_callS0 (rest := []) (st1 := [.int r_1]) K (c_X8_within a1 32 126 hq_2) hd_X8_within t_676 t_677 t_10 t_678 ⟨(Nat.le_of_ble_eq_true rfl), (Nat.le_of_ble_eq_true rfl)⟩ ⟨rfl, rfl⟩ ⟨Nat.zero_le _, Nat.zero_le _⟩ rfl rfl (Nat.le_of_ble_eq_true rfl) dX8_letter_5 ?_
  refine s_if_ne (tgt := 14) K dX8_letter_8 (by decide) (fun c_3 => ?_) (fun c_3 => ?_)
  · refine s_bipush K dX8_letter_11 kib_m102 ?_
    exact s_iret K hret hlk rfl rfl dX8_letter_13
  · refine s_aload_n K dX8_letter_14 rfl 0 rfl ?_
    refine s_get K 0 rfl rfl inT8 14 (Nat.le_of_ble_eq_true rfl) t_567 rfl rfl dX8_letter_15 ?_
    refine s_bipush K dX8_letter_18 kib_26 ?_
    refine s_icmp_ne (tgt := 26) K dX8_letter_20 (by decide) (fun c_4 => ?_) (fun c_4 => ?_)
    · refine s_bipush K dX8_letter_23 kib_m104 ?_
      exact s_iret K hret hlk rfl rfl dX8_letter_25
    · refine s_aload_n K dX8_letter_26 rfl 0 rfl ?_
      refine s_get K 0 rfl rfl inT8 15 (Nat.le_of_ble_eq_true rfl) t_568 rfl rfl dX8_letter_27 ?_
      refine s_aload_n K dX8_letter_30 rfl 0 rfl ?_
      refine s_get K 0 rfl rfl inT8 14 (Nat.le_of_ble_eq_true rfl) t_567 rfl rfl dX8_letter_31 ?_
      refine s_iload_n K dX8_letter_34 rfl 1 rfl ?_
      refine s_i2b K dX8_letter_35 ?_
      refine s_ck (fun ho_5 => ?_)
      refine s_bast (w' := (wM cI cC cB cQ kc mh q_depthOf q_kindOf q_sizeOf q_placeOf q_onOf q_sticksOf q_page q_savedDepth q_gameSize q_gamePlace q_gameSticks q_gameDepth q_keptDepth q_keptSize q_keptPlace q_keptOn q_keptSticks m_isLawn m_lawns m_wetness m_strength m_days m_balls m_asks m_books m_pageLength m_faultAt m_savedSize m_savedPlace m_savedSticks m_bestSize m_bestFirst m_seedNow m_isKept m_keptLawn m_keptBalls m_keptStrength m_keptDays m_h m_depthOf m_kindOf m_sizeOf m_placeOf m_onOf m_sticksOf (upd m_page (Int32.toNatClampNeg m_pageLength) (vp_nar .byte ((Int32.toInt8 a1).toInt32))) m_savedDepth m_gameSize m_gamePlace m_gameSticks m_gameDepth m_keptDepth m_keptSize m_keptPlace m_keptOn m_keptSticks)) K 7 2 rfl rfl (ok_in ho_5) rfl rfl dX8_letter_36 ?_
      refine s_aload_n K dX8_letter_37 rfl 0 rfl ?_
      refine s_dup K dX8_letter_38 rfl ?_
      refine s_get K 0 rfl rfl inT8 14 (Nat.le_of_ble_eq_true rfl) t_567 rfl rfl dX8_letter_39 ?_
      refine s_iconst K dX8_letter_42 kic_1 ?_
      refine s_iadd K dX8_letter_43 ?_
      refine s_put (w' := (wM cI cC cB cQ kc mh q_depthOf q_kindOf q_sizeOf q_placeOf q_onOf q_sticksOf q_page q_savedDepth q_gameSize q_gamePlace q_gameSticks q_gameDepth q_keptDepth q_keptSize q_keptPlace q_keptOn q_keptSticks m_isLawn m_lawns m_wetness m_strength m_days m_balls m_asks m_books (m_pageLength + 1) m_faultAt m_savedSize m_savedPlace m_savedSticks m_bestSize m_bestFirst m_seedNow m_isKept m_keptLawn m_keptBalls m_keptStrength m_keptDays m_h m_depthOf m_kindOf m_sizeOf m_placeOf m_onOf m_sticksOf (upd m_page (Int32.toNatClampNeg m_pageLength) (vp_nar .byte ((Int32.toInt8 a1).toInt32))) m_savedDepth m_gameSize m_gamePlace m_gameSticks m_gameDepth m_keptDepth m_keptSize m_keptPlace m_keptOn m_keptSticks)) K 0 rfl rfl inT8 tyX8_ok nmX8 14 (Nat.le_of_ble_eq_true rfl) t_567 rfl rfl rfl rfl (Nat.le_of_ble_eq_true rfl) rfl dX8_letter_44 ?_
      refine s_aload_n K dX8_letter_47 rfl 0 rfl ?_
      refine s_get K 0 rfl rfl inT8 14 (Nat.le_of_ble_eq_true rfl) t_567 rfl rfl dX8_letter_48 ?_
      exact s_iret K hret hlk rfl rfl dX8_letter_51
set_option maxHeartbeats 4000000 in
set_option maxRecDepth 100000 in
theorem c_X8_blank {l : Launch} {D : va_G} {cI cC cB cQ : ClassId} {kc : Nat → Nat} {kt : Nat} (mh q_depthOf q_kindOf q_sizeOf q_placeOf q_onOf q_sticksOf q_page q_savedDepth q_gameSize q_gamePlace q_gameSticks q_gameDepth q_keptDepth q_keptSize q_keptPlace q_keptOn q_keptSticks : Nat) (m_isLawn m_lawns m_wetness m_strength m_days m_balls m_asks m_books m_pageLength m_faultAt m_savedSize m_savedPlace m_savedSticks m_bestSize m_bestFirst : Int32) (m_seedNow : Int64) (m_isKept m_keptLawn m_keptBalls m_keptStrength m_keptDays : Int32) (m_h : Int64) (m_depthOf m_kindOf m_sizeOf m_placeOf m_onOf m_sticksOf m_page m_savedDepth m_gameSize m_gamePlace m_gameSticks m_gameDepth m_keptDepth m_keptSize m_keptPlace m_keptOn m_keptSticks : Nat → Int32) {r : Int32 × Int32} (hF : f_X8_blank m_pageLength = some r) : CT l D (tysOf cI cC cB cQ) kc kt yX8_blank cX8_blank 2 (some .int) ({ frames := 1, cells := 0, slots := 0, locals := 40 } : Room) [.ref mh] (wM cI cC cB cQ kc mh q_depthOf q_kindOf q_sizeOf q_placeOf q_onOf q_sticksOf q_page q_savedDepth q_gameSize q_gamePlace q_gameSticks q_gameDepth q_keptDepth q_keptSize q_keptPlace q_keptOn q_keptSticks m_isLawn m_lawns m_wetness m_strength m_days m_balls m_asks m_books m_pageLength m_faultAt m_savedSize m_savedPlace m_savedSticks m_bestSize m_bestFirst m_seedNow m_isKept m_keptLawn m_keptBalls m_keptStrength m_keptDays m_h m_depthOf m_kindOf m_sizeOf m_placeOf m_onOf m_sticksOf m_page m_savedDepth m_gameSize m_gamePlace m_gameSticks m_gameDepth m_keptDepth m_keptSize m_keptPlace m_keptOn m_keptSticks) ((fun (r : Int32 × Int32) => (wM cI cC cB cQ kc mh q_depthOf q_kindOf q_sizeOf q_placeOf q_onOf q_sticksOf q_page q_savedDepth q_gameSize q_gamePlace q_gameSticks q_gameDepth q_keptDepth q_keptSize q_keptPlace q_keptOn q_keptSticks m_isLawn m_lawns m_wetness m_strength m_days m_balls m_asks m_books (r.2) m_faultAt m_savedSize m_savedPlace m_savedSticks m_bestSize m_bestFirst m_seedNow m_isKept m_keptLawn m_keptBalls m_keptStrength m_keptDays m_h m_depthOf m_kindOf m_sizeOf m_placeOf m_onOf m_sticksOf m_page m_savedDepth m_gameSize m_gamePlace m_gameSticks m_gameDepth m_keptDepth m_keptSize m_keptPlace m_keptOn m_keptSticks)) r) ((fun (r : Int32 × Int32) => some (.int (r.1))) r) := by
  refine CT.of (ww := (fun (r : Int32 × Int32) => (wM cI cC cB cQ kc mh q_depthOf q_kindOf q_sizeOf q_placeOf q_onOf q_sticksOf q_page q_savedDepth q_gameSize q_gamePlace q_gameSticks q_gameDepth q_keptDepth q_keptSize q_keptPlace q_keptOn q_keptSticks m_isLawn m_lawns m_wetness m_strength m_days m_balls m_asks m_books (r.2) m_faultAt m_savedSize m_savedPlace m_savedSticks m_bestSize m_bestFirst m_seedNow m_isKept m_keptLawn m_keptBalls m_keptStrength m_keptDays m_h m_depthOf m_kindOf m_sizeOf m_placeOf m_onOf m_sticksOf m_page m_savedDepth m_gameSize m_gamePlace m_gameSticks m_gameDepth m_keptDepth m_keptSize m_keptPlace m_keptOn m_keptSticks))) (oo := (fun (r : Int32 × Int32) => some (.int (r.1)))) hF RX8 rfl rfl (Nat.le_of_ble_eq_true rfl) ?_
  intro p e s m args below meth c A K hret hlk
  rewrite [f_X8_blank]
  refine s_aload_n K dX8_blank_0 rfl 0 rfl ?_
  refine s_get K 0 rfl rfl inT8 14 (Nat.le_of_ble_eq_true rfl) t_567 rfl rfl dX8_blank_1 ?_
  refine s_istore_n (lv' := [(1, .int m_pageLength), (0, .ref mh)]) K dX8_blank_4 rfl (Nat.le_of_ble_eq_true rfl) rfl ?_
  refine s_aload_n K dX8_blank_5 rfl 1 rfl ?_
  refine s_iconst K dX8_blank_6 kic_0 ?_
  refine s_put (w' := (wM cI cC cB cQ kc mh q_depthOf q_kindOf q_sizeOf q_placeOf q_onOf q_sticksOf q_page q_savedDepth q_gameSize q_gamePlace q_gameSticks q_gameDepth q_keptDepth q_keptSize q_keptPlace q_keptOn q_keptSticks m_isLawn m_lawns m_wetness m_strength m_days m_balls m_asks m_books 0 m_faultAt m_savedSize m_savedPlace m_savedSticks m_bestSize m_bestFirst m_seedNow m_isKept m_keptLawn m_keptBalls m_keptStrength m_keptDays m_h m_depthOf m_kindOf m_sizeOf m_placeOf m_onOf m_sticksOf m_page m_savedDepth m_gameSize m_gamePlace m_gameSticks m_gameDepth m_keptDepth m_keptSize m_keptPlace m_keptOn m_keptSticks)) K 0 rfl rfl inT8 tyX8_ok nmX8 14 (Nat.le_of_ble_eq_true rfl) t_567 rfl rfl rfl rfl (Nat.le_of_ble_eq_true rfl) rfl dX8_blank_7 ?_
  refine s_iload_n K dX8_blank_10 rfl 0 rfl ?_
  exact s_iret K hret hlk rfl rfl dX8_blank_11
set_option maxHeartbeats 4000000 in
set_option maxRecDepth 100000 in
theorem c_X8_readLawn {l : Launch} {D : va_G} {cI cC cB cQ : ClassId} {kc : Nat → Nat} {kt : Nat} (mh q_depthOf q_kindOf q_sizeOf q_placeOf q_onOf q_sticksOf q_page q_savedDepth q_gameSize q_gamePlace q_gameSticks q_gameDepth q_keptDepth q_keptSize q_keptPlace q_keptOn q_keptSticks : Nat) (m_isLawn m_lawns m_wetness m_strength m_days m_balls m_asks m_books m_pageLength m_faultAt m_savedSize m_savedPlace m_savedSticks m_bestSize m_bestFirst : Int32) (m_seedNow : Int64) (m_isKept m_keptLawn m_keptBalls m_keptStrength m_keptDays : Int32) (m_h : Int64) (m_depthOf m_kindOf m_sizeOf m_placeOf m_onOf m_sticksOf m_page m_savedDepth m_gameSize m_gamePlace m_gameSticks m_gameDepth m_keptDepth m_keptSize m_keptPlace m_keptOn m_keptSticks : Nat → Int32) {r : Int32} (hF : f_X8_readLawn m_pageLength m_page = some r) : CT l D (tysOf cI cC cB cQ) kc kt yX8_readLawn cX8_readLawn 4 none ({ frames := 2, cells := 0, slots := 0, locals := 102 } : Room) [.ref mh] (wM cI cC cB cQ kc mh q_depthOf q_kindOf q_sizeOf q_placeOf q_onOf q_sticksOf q_page q_savedDepth q_gameSize q_gamePlace q_gameSticks q_gameDepth q_keptDepth q_keptSize q_keptPlace q_keptOn q_keptSticks m_isLawn m_lawns m_wetness m_strength m_days m_balls m_asks m_books m_pageLength m_faultAt m_savedSize m_savedPlace m_savedSticks m_bestSize m_bestFirst m_seedNow m_isKept m_keptLawn m_keptBalls m_keptStrength m_keptDays m_h m_depthOf m_kindOf m_sizeOf m_placeOf m_onOf m_sticksOf m_page m_savedDepth m_gameSize m_gamePlace m_gameSticks m_gameDepth m_keptDepth m_keptSize m_keptPlace m_keptOn m_keptSticks) ((fun (r : Int32) => (wM cI cC cB cQ kc mh q_depthOf q_kindOf q_sizeOf q_placeOf q_onOf q_sticksOf q_page q_savedDepth q_gameSize q_gamePlace q_gameSticks q_gameDepth q_keptDepth q_keptSize q_keptPlace q_keptOn q_keptSticks m_isLawn m_lawns m_wetness m_strength m_days m_balls m_asks m_books m_pageLength (r) m_savedSize m_savedPlace m_savedSticks m_bestSize m_bestFirst m_seedNow m_isKept m_keptLawn m_keptBalls m_keptStrength m_keptDays m_h m_depthOf m_kindOf m_sizeOf m_placeOf m_onOf m_sticksOf m_page m_savedDepth m_gameSize m_gamePlace m_gameSticks m_gameDepth m_keptDepth m_keptSize m_keptPlace m_keptOn m_keptSticks)) r) ((fun (r : Int32) => none) r) := by
  refine CT.of (ww := (fun (r : Int32) => (wM cI cC cB cQ kc mh q_depthOf q_kindOf q_sizeOf q_placeOf q_onOf q_sticksOf q_page q_savedDepth q_gameSize q_gamePlace q_gameSticks q_gameDepth q_keptDepth q_keptSize q_keptPlace q_keptOn q_keptSticks m_isLawn m_lawns m_wetness m_strength m_days m_balls m_asks m_books m_pageLength (r) m_savedSize m_savedPlace m_savedSticks m_bestSize m_bestFirst m_seedNow m_isKept m_keptLawn m_keptBalls m_keptStrength m_keptDays m_h m_depthOf m_kindOf m_sizeOf m_placeOf m_onOf m_sticksOf m_page m_savedDepth m_gameSize m_gamePlace m_gameSticks m_gameDepth m_keptDepth m_keptSize m_keptPlace m_keptOn m_keptSticks))) (oo := (fun (r : Int32) => none)) hF RX8 rfl rfl (Nat.le_of_ble_eq_true rfl) ?_
  intro p e s m args below meth c A K hret hlk
  have L4 : ∀ (fu : Nat) (x1 x2 : Int32), Sw (ρ := Int32) p l e ({ frames := 2, cells := 0, slots := 0, locals := 102 } : Room) s m args below meth c 0 0 D A 4 (fun r => MQ below (CQ D ((fun (r : Int32) => (wM cI cC cB cQ kc mh q_depthOf q_kindOf q_sizeOf q_placeOf q_onOf q_sticksOf q_page q_savedDepth q_gameSize q_gamePlace q_gameSticks q_gameDepth q_keptDepth q_keptSize q_keptPlace q_keptOn q_keptSticks m_isLawn m_lawns m_wetness m_strength m_days m_balls m_asks m_books m_pageLength (r) m_savedSize m_savedPlace m_savedSticks m_bestSize m_bestFirst m_seedNow m_isKept m_keptLawn m_keptBalls m_keptStrength m_keptDays m_h m_depthOf m_kindOf m_sizeOf m_placeOf m_onOf m_sticksOf m_page m_savedDepth m_gameSize m_gamePlace m_gameSticks m_gameDepth m_keptDepth m_keptSize m_keptPlace m_keptOn m_keptSticks)) r) ((fun (r : Int32) => none) r) A) args s 0 0 A) (f_X8_readLawn_h4 m_pageLength m_page fu x1 x2) (wM cI cC cB cQ kc mh q_depthOf q_kindOf q_sizeOf q_placeOf q_onOf q_sticksOf q_page q_savedDepth q_gameSize q_gamePlace q_gameSticks q_gameDepth q_keptDepth q_keptSize q_keptPlace q_keptOn q_keptSticks m_isLawn m_lawns m_wetness m_strength m_days m_balls m_asks m_books m_pageLength m_faultAt m_savedSize m_savedPlace m_savedSticks m_bestSize m_bestFirst m_seedNow m_isKept m_keptLawn m_keptBalls m_keptStrength m_keptDays m_h m_depthOf m_kindOf m_sizeOf m_placeOf m_onOf m_sticksOf m_page m_savedDepth m_gameSize m_gamePlace m_gameSticks m_gameDepth m_keptDepth m_keptSize m_keptPlace m_keptOn m_keptSticks) [(0, .ref mh), (1, .int x1), (2, .int x2)] 4 [] := by
    intro  fu
    induction fu with
    | zero =>
      intro x1 x2
      rewrite [f_X8_readLawn_h4]
      exact s_none
    | succ fu ih =>
      intro x1 x2
      rewrite [f_X8_readLawn_h4]
      refine s_iload_n K dX8_readLawn_4 rfl 1 rfl ?_
      refine s_aload_n K dX8_readLawn_5 rfl 0 rfl ?_
      refine s_get K 0 rfl rfl inT8 14 (Nat.le_of_ble_eq_true rfl) t_567 rfl rfl dX8_readLawn_6 ?_
      refine s_icmp_ge (tgt := 119) K dX8_readLawn_9 (by decide) (fun c_1 => ?_) (fun c_1 => ?_)
      · refine s_aload_n K dX8_readLawn_119 rfl 0 rfl ?_
        refine s_iload_n K dX8_readLawn_120 rfl 1 rfl ?_
        refine s_put (w' := (wM cI cC cB cQ kc mh q_depthOf q_kindOf q_sizeOf q_placeOf q_onOf q_sticksOf q_page q_savedDepth q_gameSize q_gamePlace q_gameSticks q_gameDepth q_keptDepth q_keptSize q_keptPlace q_keptOn q_keptSticks m_isLawn m_lawns m_wetness m_strength m_days m_balls m_asks m_books m_pageLength x1 m_savedSize m_savedPlace m_savedSticks m_bestSize m_bestFirst m_seedNow m_isKept m_keptLawn m_keptBalls m_keptStrength m_keptDays m_h m_depthOf m_kindOf m_sizeOf m_placeOf m_onOf m_sticksOf m_page m_savedDepth m_gameSize m_gamePlace m_gameSticks m_gameDepth m_keptDepth m_keptSize m_keptPlace m_keptOn m_keptSticks)) K 0 rfl rfl inT8 tyX8_ok nmX8 16 (Nat.le_of_ble_eq_true rfl) t_569 rfl rfl rfl rfl (Nat.le_of_ble_eq_true rfl) rfl dX8_readLawn_121 ?_
        exact s_vret K hret hlk rfl rfl dX8_readLawn_124
      · refine s_iload_n K dX8_readLawn_12 rfl 2 rfl ?_
        refine s_if_eq (tgt := 119) K dX8_readLawn_13 (by decide) (fun c_2 => ?_) (fun c_2 => ?_)
        · refine s_aload_n K dX8_readLawn_119 rfl 0 rfl ?_
          refine s_iload_n K dX8_readLawn_120 rfl 1 rfl ?_
          refine s_put (w' := (wM cI cC cB cQ kc mh q_depthOf q_kindOf q_sizeOf q_placeOf q_onOf q_sticksOf q_page q_savedDepth q_gameSize q_gamePlace q_gameSticks q_gameDepth q_keptDepth q_keptSize q_keptPlace q_keptOn q_keptSticks m_isLawn m_lawns m_wetness m_strength m_days m_balls m_asks m_books m_pageLength x1 m_savedSize m_savedPlace m_savedSticks m_bestSize m_bestFirst m_seedNow m_isKept m_keptLawn m_keptBalls m_keptStrength m_keptDays m_h m_depthOf m_kindOf m_sizeOf m_placeOf m_onOf m_sticksOf m_page m_savedDepth m_gameSize m_gamePlace m_gameSticks m_gameDepth m_keptDepth m_keptSize m_keptPlace m_keptOn m_keptSticks)) K 0 rfl rfl inT8 tyX8_ok nmX8 16 (Nat.le_of_ble_eq_true rfl) t_569 rfl rfl rfl rfl (Nat.le_of_ble_eq_true rfl) rfl dX8_readLawn_121 ?_
          exact s_vret K hret hlk rfl rfl dX8_readLawn_124
        · refine s_aload_n K dX8_readLawn_16 rfl 0 rfl ?_
          refine s_get K 0 rfl rfl inT8 15 (Nat.le_of_ble_eq_true rfl) t_568 rfl rfl dX8_readLawn_17 ?_
          refine s_iload_n K dX8_readLawn_20 rfl 1 rfl ?_
          refine s_ck (fun ho_3 => ?_)
          refine s_bald K 7 2 rfl rfl (ok_in ho_3) rfl dX8_readLawn_21 ?_
          refine s_bipush K dX8_readLawn_22 kib_48 ?_
          refine s_bipush K dX8_readLawn_24 kib_57 ?_
          refine s_bind (fun q hq_5 => ?_)
          obtain ⟨r_4, rfl⟩ : ∃ z, z = q := ⟨_, rfl⟩
          refine s_callS0 (rest := []) (st1 := [.int r_4]) K (c_X8_within (m_page (Int32.toNatClampNeg x1)) 48 57 hq_5) hd_X8_within t_676 t_677 t_10 t_678 ⟨(Nat.le_of_ble_eq_true rfl), (Nat.le_of_ble_eq_true rfl)⟩ ⟨rfl, rfl⟩ ⟨Nat.zero_le _, Nat.zero_le _⟩ rfl rfl (Nat.le_of_ble_eq_true rfl) dX8_readLawn_26 ?_
          refine s_istore_n (lv' := [(3, .int r_4), (0, .ref mh), (1, .int x1), (2, .int x2)]) K dX8_readLawn_29 rfl (Nat.le_of_ble_eq_true rfl) rfl ?_
          refine s_iload_n K dX8_readLawn_30 rfl 2 rfl ?_
          refine s_bipush K dX8_readLawn_31 kib_23 ?_
          refine s_icmp_ne (tgt := 55) K dX8_readLawn_33 (by decide) (fun c_6 => ?_) (fun c_6 => ?_)
          · refine s_aload_n K dX8_readLawn_36 rfl 1 rfl ?_
            refine s_get K 0 rfl rfl inT8 15 (Nat.le_of_ble_eq_true rfl) t_568 rfl rfl dX8_readLawn_37 ?_
            refine s_iload_n K dX8_readLawn_40 rfl 2 rfl ?_
            refine s_bald K 7 2 rfl rfl (ok_in ho_3) rfl dX8_readLawn_41 ?_
            refine s_bipush K dX8_readLawn_42 kib_59 ?_
            refine s_icmp_ne (tgt := 51) K dX8_readLawn_44 (by decide) (fun c_7 => ?_) (fun c_7 => ?_)
            · refine s_iconst K dX8_readLawn_47 kic_1 ?_
              refine s_goto (tgt := 103) K dX8_readLawn_48 (by decide) ?_
              refine s_istore_n (lv' := [(2, .int 1), (3, .int r_4), (0, .ref mh), (1, .int x1)]) K dX8_readLawn_103 rfl (Nat.le_of_ble_eq_true rfl) rfl ?_
              refine s_iload_n K dX8_readLawn_104 rfl 3 rfl ?_
              refine s_iload_n K dX8_readLawn_105 rfl 0 rfl ?_
              refine s_if_eqF K dX8_readLawn_106 113 (by decide) (by decide +kernel) ?_
              refine s_iconst K dX8_readLawn_109 kic_1 ?_
              refine s_goto (tgt := 114) K dX8_readLawn_110 (by decide) ?_
              refine s_iadd K dX8_readLawn_114 ?_
              refine s_istore_n (lv' := [(1, .int (x1 + 1)), (2, .int 1), (3, .int r_4), (0, .ref mh)]) K dX8_readLawn_115 rfl (Nat.le_of_ble_eq_true rfl) rfl ?_
              refine s_goto (tgt := 4) K dX8_readLawn_116 (by decide) ?_
              refine s_lv (lv' := [(0, .ref mh), (1, .int (x1 + 1)), (2, .int 1)]) [3, 0, 1] rfl ?_
              exact ih (x1 + 1) 1
            · refine s_iconst K dX8_readLawn_51 kic_0 ?_
              refine s_goto (tgt := 103) K dX8_readLawn_52 (by decide) ?_
              refine s_istore_n (lv' := [(2, .int 0), (3, .int r_4), (0, .ref mh), (1, .int x1)]) K dX8_readLawn_103 rfl (Nat.le_of_ble_eq_true rfl) rfl ?_
              refine s_iload_n K dX8_readLawn_104 rfl 3 rfl ?_
              refine s_iload_n K dX8_readLawn_105 rfl 0 rfl ?_
              refine s_if_eqT (tgt := 113) K dX8_readLawn_106 (by decide) (by decide +kernel) ?_
              refine s_iconst K dX8_readLawn_113 kic_0 ?_
              refine s_iadd K dX8_readLawn_114 ?_
              refine s_istore_n (lv' := [(1, .int (x1 + 0)), (2, .int 0), (3, .int r_4), (0, .ref mh)]) K dX8_readLawn_115 rfl (Nat.le_of_ble_eq_true rfl) rfl ?_
              refine s_goto (tgt := 4) K dX8_readLawn_116 (by decide) ?_
              refine s_lv (lv' := [(0, .ref mh), (1, .int (x1 + 0)), (2, .int 0)]) [3, 0, 1] rfl ?_
              exact ih (x1 + 0) 0
          · refine s_iload_n K dX8_readLawn_55 rfl 2 rfl ?_
            refine s_bipush K dX8_readLawn_56 kib_23 ?_
            refine s_icmp_ge (tgt := 88) K dX8_readLawn_58 (by decide) (fun c_8 => ?_) (fun c_8 => ?_)
            · refine s_iload_n K dX8_readLawn_88 rfl 2 rfl ?_
              refine s_bipush K dX8_readLawn_89 kib_25 ?_
              refine s_icmp_ge (tgt := 102) K dX8_readLawn_91 (by decide) (fun c_9 => ?_) (fun c_9 => ?_)
              · refine s_iconst K dX8_readLawn_102 kic_0 ?_
                refine s_istore_n (lv' := [(2, .int 0), (3, .int r_4), (0, .ref mh), (1, .int x1)]) K dX8_readLawn_103 rfl (Nat.le_of_ble_eq_true rfl) rfl ?_
                refine s_iload_n K dX8_readLawn_104 rfl 3 rfl ?_
                refine s_iload_n K dX8_readLawn_105 rfl 0 rfl ?_
                refine s_if_eqT (tgt := 113) K dX8_readLawn_106 (by decide) (by decide +kernel) ?_
                refine s_iconst K dX8_readLawn_113 kic_0 ?_
                refine s_iadd K dX8_readLawn_114 ?_
                refine s_istore_n (lv' := [(1, .int (x1 + 0)), (2, .int 0), (3, .int r_4), (0, .ref mh)]) K dX8_readLawn_115 rfl (Nat.le_of_ble_eq_true rfl) rfl ?_
                refine s_goto (tgt := 4) K dX8_readLawn_116 (by decide) ?_
                refine s_lv (lv' := [(0, .ref mh), (1, .int (x1 + 0)), (2, .int 0)]) [3, 0, 1] rfl ?_
                exact ih (x1 + 0) 0
              · refine s_iload_n K dX8_readLawn_94 rfl 0 rfl ?_
                refine s_if_eq (tgt := 102) K dX8_readLawn_95 (by decide) (fun c_10 => ?_) (fun c_10 => ?_)
                · refine s_iconst K dX8_readLawn_102 kic_0 ?_
                  refine s_istore_n (lv' := [(2, .int 0), (3, .int r_4), (0, .ref mh), (1, .int x1)]) K dX8_readLawn_103 rfl (Nat.le_of_ble_eq_true rfl) rfl ?_
                  refine s_iload_n K dX8_readLawn_104 rfl 3 rfl ?_
                  refine s_iload_n K dX8_readLawn_105 rfl 0 rfl ?_
                  refine s_if_eqT (tgt := 113) K dX8_readLawn_106 (by decide) (by decide +kernel) ?_
                  refine s_iconst K dX8_readLawn_113 kic_0 ?_
                  refine s_iadd K dX8_readLawn_114 ?_
                  refine s_istore_n (lv' := [(1, .int (x1 + 0)), (2, .int 0), (3, .int r_4), (0, .ref mh)]) K dX8_readLawn_115 rfl (Nat.le_of_ble_eq_true rfl) rfl ?_
                  refine s_goto (tgt := 4) K dX8_readLawn_116 (by decide) ?_
                  refine s_lv (lv' := [(0, .ref mh), (1, .int (x1 + 0)), (2, .int 0)]) [3, 0, 1] rfl ?_
                  exact ih (x1 + 0) 0
                · refine s_iconst K dX8_readLawn_98 kic_1 ?_
                  refine s_goto (tgt := 103) K dX8_readLawn_99 (by decide) ?_
                  refine s_istore_n (lv' := [(2, .int 1), (3, .int r_4), (0, .ref mh), (1, .int x1)]) K dX8_readLawn_103 rfl (Nat.le_of_ble_eq_true rfl) rfl ?_
                  refine s_iload_n K dX8_readLawn_104 rfl 3 rfl ?_
                  refine s_iload_n K dX8_readLawn_105 rfl 0 rfl ?_
                  refine s_if_eqF K dX8_readLawn_106 113 (by decide) (by decide +kernel) ?_
                  refine s_iconst K dX8_readLawn_109 kic_1 ?_
                  refine s_goto (tgt := 114) K dX8_readLawn_110 (by decide) ?_
                  refine s_iadd K dX8_readLawn_114 ?_
                  refine s_istore_n (lv' := [(1, .int (x1 + 1)), (2, .int 1), (3, .int r_4), (0, .ref mh)]) K dX8_readLawn_115 rfl (Nat.le_of_ble_eq_true rfl) rfl ?_
                  refine s_goto (tgt := 4) K dX8_readLawn_116 (by decide) ?_
                  refine s_lv (lv' := [(0, .ref mh), (1, .int (x1 + 1)), (2, .int 1)]) [3, 0, 1] rfl ?_
                  exact ih (x1 + 1) 1
            · refine s_iload_n K dX8_readLawn_61 rfl 2 rfl ?_
              refine s_bipush K dX8_readLawn_62 kib_6 ?_
              refine s_irem K dX8_readLawn_64 knz_6 ?_
              refine s_iconst K dX8_readLawn_65 kic_5 ?_
              refine s_icmp_ne (tgt := 88) K dX8_readLawn_66 (by decide) (fun c_11 => ?_) (fun c_11 => ?_)
              · refine s_aload_n K dX8_readLawn_69 rfl 1 rfl ?_
                refine s_get K 0 rfl rfl inT8 15 (Nat.le_of_ble_eq_true rfl) t_568 rfl rfl dX8_readLawn_70 ?_
                refine s_iload_n K dX8_readLawn_73 rfl 2 rfl ?_
                refine s_bald K 7 2 rfl rfl (ok_in ho_3) rfl dX8_readLawn_74 ?_
                refine s_bipush K dX8_readLawn_75 kib_47 ?_
                refine s_icmp_ne (tgt := 84) K dX8_readLawn_77 (by decide) (fun c_12 => ?_) (fun c_12 => ?_)
                · refine s_iconst K dX8_readLawn_80 kic_1 ?_
                  refine s_goto (tgt := 103) K dX8_readLawn_81 (by decide) ?_
                  refine s_istore_n (lv' := [(2, .int 1), (3, .int r_4), (0, .ref mh), (1, .int x1)]) K dX8_readLawn_103 rfl (Nat.le_of_ble_eq_true rfl) rfl ?_
                  refine s_iload_n K dX8_readLawn_104 rfl 3 rfl ?_
                  refine s_iload_n K dX8_readLawn_105 rfl 0 rfl ?_
                  refine s_if_eqF K dX8_readLawn_106 113 (by decide) (by decide +kernel) ?_
                  refine s_iconst K dX8_readLawn_109 kic_1 ?_
                  refine s_goto (tgt := 114) K dX8_readLawn_110 (by decide) ?_
                  refine s_iadd K dX8_readLawn_114 ?_
                  refine s_istore_n (lv' := [(1, .int (x1 + 1)), (2, .int 1), (3, .int r_4), (0, .ref mh)]) K dX8_readLawn_115 rfl (Nat.le_of_ble_eq_true rfl) rfl ?_
                  refine s_goto (tgt := 4) K dX8_readLawn_116 (by decide) ?_
                  refine s_lv (lv' := [(0, .ref mh), (1, .int (x1 + 1)), (2, .int 1)]) [3, 0, 1] rfl ?_
                  exact ih (x1 + 1) 1
                · refine s_iconst K dX8_readLawn_84 kic_0 ?_
                  refine s_goto (tgt := 103) K dX8_readLawn_85 (by decide) ?_
                  refine s_istore_n (lv' := [(2, .int 0), (3, .int r_4), (0, .ref mh), (1, .int x1)]) K dX8_readLawn_103 rfl (Nat.le_of_ble_eq_true rfl) rfl ?_
                  refine s_iload_n K dX8_readLawn_104 rfl 3 rfl ?_
                  refine s_iload_n K dX8_readLawn_105 rfl 0 rfl ?_
                  refine s_if_eqT (tgt := 113) K dX8_readLawn_106 (by decide) (by decide +kernel) ?_
                  refine s_iconst K dX8_readLawn_113 kic_0 ?_
                  refine s_iadd K dX8_readLawn_114 ?_
                  refine s_istore_n (lv' := [(1, .int (x1 + 0)), (2, .int 0), (3, .int r_4), (0, .ref mh)]) K dX8_readLawn_115 rfl (Nat.le_of_ble_eq_true rfl) rfl ?_
                  refine s_goto (tgt := 4) K dX8_readLawn_116 (by decide) ?_
                  refine s_lv (lv' := [(0, .ref mh), (1, .int (x1 + 0)), (2, .int 0)]) [3, 0, 1] rfl ?_
                  exact ih (x1 + 0) 0
              · refine s_iload_n K dX8_readLawn_88 rfl 2 rfl ?_
                refine s_bipush K dX8_readLawn_89 kib_25 ?_
                refine s_icmp_ge (tgt := 102) K dX8_readLawn_91 (by decide) (fun c_13 => ?_) (fun c_13 => ?_)
                · refine s_iconst K dX8_readLawn_102 kic_0 ?_
                  refine s_istore_n (lv' := [(2, .int 0), (3, .int r_4), (0, .ref mh), (1, .int x1)]) K dX8_readLawn_103 rfl (Nat.le_of_ble_eq_true rfl) rfl ?_
                  refine s_iload_n K dX8_readLawn_104 rfl 3 rfl ?_
                  refine s_iload_n K dX8_readLawn_105 rfl 0 rfl ?_
                  refine s_if_eqT (tgt := 113) K dX8_readLawn_106 (by decide) (by decide +kernel) ?_
                  refine s_iconst K dX8_readLawn_113 kic_0 ?_
                  refine s_iadd K dX8_readLawn_114 ?_
                  refine s_istore_n (lv' := [(1, .int (x1 + 0)), (2, .int 0), (3, .int r_4), (0, .ref mh)]) K dX8_readLawn_115 rfl (Nat.le_of_ble_eq_true rfl) rfl ?_
                  refine s_goto (tgt := 4) K dX8_readLawn_116 (by decide) ?_
                  refine s_lv (lv' := [(0, .ref mh), (1, .int (x1 + 0)), (2, .int 0)]) [3, 0, 1] rfl ?_
                  exact ih (x1 + 0) 0
                · refine s_iload_n K dX8_readLawn_94 rfl 0 rfl ?_
                  refine s_if_eq (tgt := 102) K dX8_readLawn_95 (by decide) (fun c_14 => ?_) (fun c_14 => ?_)
                  · refine s_iconst K dX8_readLawn_102 kic_0 ?_
                    refine s_istore_n (lv' := [(2, .int 0), (3, .int r_4), (0, .ref mh), (1, .int x1)]) K dX8_readLawn_103 rfl (Nat.le_of_ble_eq_true rfl) rfl ?_
                    refine s_iload_n K dX8_readLawn_104 rfl 3 rfl ?_
                    refine s_iload_n K dX8_readLawn_105 rfl 0 rfl ?_
                    refine s_if_eqT (tgt := 113) K dX8_readLawn_106 (by decide) (by decide +kernel) ?_
                    refine s_iconst K dX8_readLawn_113 kic_0 ?_
                    refine s_iadd K dX8_readLawn_114 ?_
                    refine s_istore_n (lv' := [(1, .int (x1 + 0)), (2, .int 0), (3, .int r_4), (0, .ref mh)]) K dX8_readLawn_115 rfl (Nat.le_of_ble_eq_true rfl) rfl ?_
                    refine s_goto (tgt := 4) K dX8_readLawn_116 (by decide) ?_
                    refine s_lv (lv' := [(0, .ref mh), (1, .int (x1 + 0)), (2, .int 0)]) [3, 0, 1] rfl ?_
                    exact ih (x1 + 0) 0
                  · refine s_iconst K dX8_readLawn_98 kic_1 ?_
                    refine s_goto (tgt := 103) K dX8_readLawn_99 (by decide) ?_
                    refine s_istore_n (lv' := [(2, .int 1), (3, .int r_4), (0, .ref mh), (1, .int x1)]) K dX8_readLawn_103 rfl (Nat.le_of_ble_eq_true rfl) rfl ?_
                    refine s_iload_n K dX8_readLawn_104 rfl 3 rfl ?_
                    refine s_iload_n K dX8_readLawn_105 rfl 0 rfl ?_
                    refine s_if_eqF K dX8_readLawn_106 113 (by decide) (by decide +kernel) ?_
                    refine s_iconst K dX8_readLawn_109 kic_1 ?_
                    refine s_goto (tgt := 114) K dX8_readLawn_110 (by decide) ?_
                    refine s_iadd K dX8_readLawn_114 ?_
                    refine s_istore_n (lv' := [(1, .int (x1 + 1)), (2, .int 1), (3, .int r_4), (0, .ref mh)]) K dX8_readLawn_115 rfl (Nat.le_of_ble_eq_true rfl) rfl ?_
                    refine s_goto (tgt := 4) K dX8_readLawn_116 (by decide) ?_
                    refine s_lv (lv' := [(0, .ref mh), (1, .int (x1 + 1)), (2, .int 1)]) [3, 0, 1] rfl ?_
                    exact ih (x1 + 1) 1
  rewrite [f_X8_readLawn]
  refine s_iconst K dX8_readLawn_0 kic_0 ?_
  refine s_istore_n (lv' := [(1, .int 0), (0, .ref mh)]) K dX8_readLawn_1 rfl (Nat.le_of_ble_eq_true rfl) rfl ?_
  refine s_iconst K dX8_readLawn_2 kic_1 ?_
  refine s_istore_n (lv' := [(2, .int 1), (1, .int 0), (0, .ref mh)]) K dX8_readLawn_3 rfl (Nat.le_of_ble_eq_true rfl) rfl ?_
  refine s_lv (lv' := [(0, .ref mh), (1, .int 0), (2, .int 1)]) [2, 1, 0] rfl ?_
  exact L4 70 0 1
set_option maxHeartbeats 4000000 in
set_option maxRecDepth 100000 in
theorem c_X8_fault {l : Launch} {D : va_G} {cI cC cB cQ : ClassId} {kc : Nat → Nat} {kt : Nat} (mh q_depthOf q_kindOf q_sizeOf q_placeOf q_onOf q_sticksOf q_page q_savedDepth q_gameSize q_gamePlace q_gameSticks q_gameDepth q_keptDepth q_keptSize q_keptPlace q_keptOn q_keptSticks : Nat) (m_isLawn m_lawns m_wetness m_strength m_days m_balls m_asks m_books m_pageLength m_faultAt m_savedSize m_savedPlace m_savedSticks m_bestSize m_bestFirst : Int32) (m_seedNow : Int64) (m_isKept m_keptLawn m_keptBalls m_keptStrength m_keptDays : Int32) (m_h : Int64) (m_depthOf m_kindOf m_sizeOf m_placeOf m_onOf m_sticksOf m_page m_savedDepth m_gameSize m_gamePlace m_gameSticks m_gameDepth m_keptDepth m_keptSize m_keptPlace m_keptOn m_keptSticks : Nat → Int32) {r : Int32 × Int32} (hF : f_X8_fault m_pageLength m_page = some r) : CT l D (tysOf cI cC cB cQ) kc kt yX8_fault cX8_fault 1 (some .int) ({ frames := 3, cells := 0, slots := 0, locals := 165 } : Room) [.ref mh] (wM cI cC cB cQ kc mh q_depthOf q_kindOf q_sizeOf q_placeOf q_onOf q_sticksOf q_page q_savedDepth q_gameSize q_gamePlace q_gameSticks q_gameDepth q_keptDepth q_keptSize q_keptPlace q_keptOn q_keptSticks m_isLawn m_lawns m_wetness m_strength m_days m_balls m_asks m_books m_pageLength m_faultAt m_savedSize m_savedPlace m_savedSticks m_bestSize m_bestFirst m_seedNow m_isKept m_keptLawn m_keptBalls m_keptStrength m_keptDays m_h m_depthOf m_kindOf m_sizeOf m_placeOf m_onOf m_sticksOf m_page m_savedDepth m_gameSize m_gamePlace m_gameSticks m_gameDepth m_keptDepth m_keptSize m_keptPlace m_keptOn m_keptSticks) ((fun (r : Int32 × Int32) => (wM cI cC cB cQ kc mh q_depthOf q_kindOf q_sizeOf q_placeOf q_onOf q_sticksOf q_page q_savedDepth q_gameSize q_gamePlace q_gameSticks q_gameDepth q_keptDepth q_keptSize q_keptPlace q_keptOn q_keptSticks m_isLawn m_lawns m_wetness m_strength m_days m_balls m_asks m_books m_pageLength (r.2) m_savedSize m_savedPlace m_savedSticks m_bestSize m_bestFirst m_seedNow m_isKept m_keptLawn m_keptBalls m_keptStrength m_keptDays m_h m_depthOf m_kindOf m_sizeOf m_placeOf m_onOf m_sticksOf m_page m_savedDepth m_gameSize m_gamePlace m_gameSticks m_gameDepth m_keptDepth m_keptSize m_keptPlace m_keptOn m_keptSticks)) r) ((fun (r : Int32 × Int32) => some (.int (r.1))) r) := by
  refine CT.of (ww := (fun (r : Int32 × Int32) => (wM cI cC cB cQ kc mh q_depthOf q_kindOf q_sizeOf q_placeOf q_onOf q_sticksOf q_page q_savedDepth q_gameSize q_gamePlace q_gameSticks q_gameDepth q_keptDepth q_keptSize q_keptPlace q_keptOn q_keptSticks m_isLawn m_lawns m_wetness m_strength m_days m_balls m_asks m_books m_pageLength (r.2) m_savedSize m_savedPlace m_savedSticks m_bestSize m_bestFirst m_seedNow m_isKept m_keptLawn m_keptBalls m_keptStrength m_keptDays m_h m_depthOf m_kindOf m_sizeOf m_placeOf m_onOf m_sticksOf m_page m_savedDepth m_gameSize m_gamePlace m_gameSticks m_gameDepth m_keptDepth m_keptSize m_keptPlace m_keptOn m_keptSticks))) (oo := (fun (r : Int32 × Int32) => some (.int (r.1)))) hF RX8 rfl rfl (Nat.le_of_ble_eq_true rfl) ?_
  intro p e s m args below meth c A K hret hlk
  rewrite [f_X8_fault]
  refine s_aload_n K dX8_fault_0 rfl 0 rfl ?_
  refine s_bind (fun q hq_2 => ?_)
  obtain ⟨m_faultAt_1, rfl⟩ : ∃ z, z = q := ⟨_, rfl⟩
  refine s_callV (w' := (wM cI cC cB cQ kc mh q_depthOf q_kindOf q_sizeOf q_placeOf q_onOf q_sticksOf q_page q_savedDepth q_gameSize q_gamePlace q_gameSticks q_gameDepth q_keptDepth q_keptSize q_keptPlace q_keptOn q_keptSticks m_isLawn m_lawns m_wetness m_strength m_days m_balls m_asks m_books m_pageLength m_faultAt_1 m_savedSize m_savedPlace m_savedSticks m_bestSize m_bestFirst m_seedNow m_isKept m_keptLawn m_keptBalls m_keptStrength m_keptDays m_h m_depthOf m_kindOf m_sizeOf m_placeOf m_onOf m_sticksOf m_page m_savedDepth m_gameSize m_gamePlace m_gameSticks m_gameDepth m_keptDepth m_keptSize m_keptPlace m_keptOn m_keptSticks)) (rest := []) (st1 := []) K (c_X8_readLawn mh q_depthOf q_kindOf q_sizeOf q_placeOf q_onOf q_sticksOf q_page q_savedDepth q_gameSize q_gamePlace q_gameSticks q_gameDepth q_keptDepth q_keptSize q_keptPlace q_keptOn q_keptSticks m_isLawn m_lawns m_wetness m_strength m_days m_balls m_asks m_books m_pageLength m_faultAt m_savedSize m_savedPlace m_savedSticks m_bestSize m_bestFirst m_seedNow m_isKept m_keptLawn m_keptBalls m_keptStrength m_keptDays m_h m_depthOf m_kindOf m_sizeOf m_placeOf m_onOf m_sticksOf m_page m_savedDepth m_gameSize m_gamePlace m_gameSticks m_gameDepth m_keptDepth m_keptSize m_keptPlace m_keptOn m_keptSticks hq_2) rfl hd_X8_readLawn t_687 t_689 ts_8 t_10 t_690 ⟨(Nat.le_of_ble_eq_true rfl), (Nat.le_of_ble_eq_true rfl)⟩ ⟨rfl, rfl⟩ ⟨Nat.zero_le _, Nat.zero_le _⟩ (rv_o K 0 rfl rfl) [0, 1, 2, 3, 4, 5, 6, 7, 8, 9, 10, 11, 12, 13, 14, 15, 16, 17] [] [0, 1, 2, 3, 4, 5, 6, 7, 8, 9, 10, 11, 12, 13, 14, 15, 16, 17] rfl rfl rfl rfl (by decide) rfl rfl rfl rfl (Nat.le_of_ble_eq_true rfl) dX8_fault_1 ?_
  refine s_aload_n K dX8_fault_4 rfl 0 rfl ?_
  refine s_get K 0 rfl rfl inT8 16 (Nat.le_of_ble_eq_true rfl) t_569 rfl rfl dX8_fault_5 ?_
  exact s_iret K hret hlk rfl rfl dX8_fault_8
set_option maxHeartbeats 4000000 in
set_option maxRecDepth 100000 in
theorem c_X8_depthAll {l : Launch} {D : va_G} {cI cC cB cQ : ClassId} {kc : Nat → Nat} {kt : Nat} (mh q_depthOf q_kindOf q_sizeOf q_placeOf q_onOf q_sticksOf q_page q_savedDepth q_gameSize q_gamePlace q_gameSticks q_gameDepth q_keptDepth q_keptSize q_keptPlace q_keptOn q_keptSticks : Nat) (m_isLawn m_lawns m_wetness m_strength m_days m_balls m_asks m_books m_pageLength m_faultAt m_savedSize m_savedPlace m_savedSticks m_bestSize m_bestFirst : Int32) (m_seedNow : Int64) (m_isKept m_keptLawn m_keptBalls m_keptStrength m_keptDays : Int32) (m_h : Int64) (m_depthOf m_kindOf m_sizeOf m_placeOf m_onOf m_sticksOf m_page m_savedDepth m_gameSize m_gamePlace m_gameSticks m_gameDepth m_keptDepth m_keptSize m_keptPlace m_keptOn m_keptSticks : Nat → Int32) {r : Int32} (hF : f_X8_depthAll m_isLawn m_depthOf = some r) : CT l D (tysOf cI cC cB cQ) kc kt yX8_depthAll cX8_depthAll 3 (some .int) ({ frames := 1, cells := 0, slots := 0, locals := 40 } : Room) [.ref mh] (wM cI cC cB cQ kc mh q_depthOf q_kindOf q_sizeOf q_placeOf q_onOf q_sticksOf q_page q_savedDepth q_gameSize q_gamePlace q_gameSticks q_gameDepth q_keptDepth q_keptSize q_keptPlace q_keptOn q_keptSticks m_isLawn m_lawns m_wetness m_strength m_days m_balls m_asks m_books m_pageLength m_faultAt m_savedSize m_savedPlace m_savedSticks m_bestSize m_bestFirst m_seedNow m_isKept m_keptLawn m_keptBalls m_keptStrength m_keptDays m_h m_depthOf m_kindOf m_sizeOf m_placeOf m_onOf m_sticksOf m_page m_savedDepth m_gameSize m_gamePlace m_gameSticks m_gameDepth m_keptDepth m_keptSize m_keptPlace m_keptOn m_keptSticks) ((fun (r : Int32) => (wM cI cC cB cQ kc mh q_depthOf q_kindOf q_sizeOf q_placeOf q_onOf q_sticksOf q_page q_savedDepth q_gameSize q_gamePlace q_gameSticks q_gameDepth q_keptDepth q_keptSize q_keptPlace q_keptOn q_keptSticks m_isLawn m_lawns m_wetness m_strength m_days m_balls m_asks m_books m_pageLength m_faultAt m_savedSize m_savedPlace m_savedSticks m_bestSize m_bestFirst m_seedNow m_isKept m_keptLawn m_keptBalls m_keptStrength m_keptDays m_h m_depthOf m_kindOf m_sizeOf m_placeOf m_onOf m_sticksOf m_page m_savedDepth m_gameSize m_gamePlace m_gameSticks m_gameDepth m_keptDepth m_keptSize m_keptPlace m_keptOn m_keptSticks)) r) ((fun (r : Int32) => some (.int r)) r) := by
  refine CT.of (ww := (fun (r : Int32) => (wM cI cC cB cQ kc mh q_depthOf q_kindOf q_sizeOf q_placeOf q_onOf q_sticksOf q_page q_savedDepth q_gameSize q_gamePlace q_gameSticks q_gameDepth q_keptDepth q_keptSize q_keptPlace q_keptOn q_keptSticks m_isLawn m_lawns m_wetness m_strength m_days m_balls m_asks m_books m_pageLength m_faultAt m_savedSize m_savedPlace m_savedSticks m_bestSize m_bestFirst m_seedNow m_isKept m_keptLawn m_keptBalls m_keptStrength m_keptDays m_h m_depthOf m_kindOf m_sizeOf m_placeOf m_onOf m_sticksOf m_page m_savedDepth m_gameSize m_gamePlace m_gameSticks m_gameDepth m_keptDepth m_keptSize m_keptPlace m_keptOn m_keptSticks))) (oo := (fun (r : Int32) => some (.int r))) hF RX8 rfl rfl (Nat.le_of_ble_eq_true rfl) ?_
  intro p e s m args below meth c A K hret hlk
  have L4 : ∀ (fu : Nat) (x1 x2 : Int32), Sw (ρ := Int32) p l e ({ frames := 1, cells := 0, slots := 0, locals := 40 } : Room) s m args below meth c 0 0 D A 3 (fun r => MQ below (CQ D ((fun (r : Int32) => (wM cI cC cB cQ kc mh q_depthOf q_kindOf q_sizeOf q_placeOf q_onOf q_sticksOf q_page q_savedDepth q_gameSize q_gamePlace q_gameSticks q_gameDepth q_keptDepth q_keptSize q_keptPlace q_keptOn q_keptSticks m_isLawn m_lawns m_wetness m_strength m_days m_balls m_asks m_books m_pageLength m_faultAt m_savedSize m_savedPlace m_savedSticks m_bestSize m_bestFirst m_seedNow m_isKept m_keptLawn m_keptBalls m_keptStrength m_keptDays m_h m_depthOf m_kindOf m_sizeOf m_placeOf m_onOf m_sticksOf m_page m_savedDepth m_gameSize m_gamePlace m_gameSticks m_gameDepth m_keptDepth m_keptSize m_keptPlace m_keptOn m_keptSticks)) r) ((fun (r : Int32) => some (.int r)) r) A) args s 0 0 A) (f_X8_depthAll_h4 m_isLawn m_depthOf fu x1 x2) (wM cI cC cB cQ kc mh q_depthOf q_kindOf q_sizeOf q_placeOf q_onOf q_sticksOf q_page q_savedDepth q_gameSize q_gamePlace q_gameSticks q_gameDepth q_keptDepth q_keptSize q_keptPlace q_keptOn q_keptSticks m_isLawn m_lawns m_wetness m_strength m_days m_balls m_asks m_books m_pageLength m_faultAt m_savedSize m_savedPlace m_savedSticks m_bestSize m_bestFirst m_seedNow m_isKept m_keptLawn m_keptBalls m_keptStrength m_keptDays m_h m_depthOf m_kindOf m_sizeOf m_placeOf m_onOf m_sticksOf m_page m_savedDepth m_gameSize m_gamePlace m_gameSticks m_gameDepth m_keptDepth m_keptSize m_keptPlace m_keptOn m_keptSticks) [(0, .ref mh), (1, .int x1), (2, .int x2)] 4 [] := by
    intro  fu
    induction fu with
    | zero =>
      intro x1 x2
      rewrite [f_X8_depthAll_h4]
      exact s_none
    | succ fu ih =>
      intro x1 x2
      rewrite [f_X8_depthAll_h4]
      refine s_iload_n K dX8_depthAll_4 rfl 2 rfl ?_
      refine s_bipush K dX8_depthAll_5 kib_20 ?_
      refine s_icmp_ge (tgt := 36) K dX8_depthAll_7 (by decide) (fun c_1 => ?_) (fun c_1 => ?_)
      · refine s_iload_n K dX8_depthAll_36 rfl 1 rfl ?_
        exact s_iret K hret hlk rfl rfl dX8_depthAll_37
      · refine s_iload_n K dX8_depthAll_10 rfl 1 rfl ?_
        refine s_aload_n K dX8_depthAll_11 rfl 0 rfl ?_
        refine s_get K 0 rfl rfl inT8 0 (Nat.le_of_ble_eq_true rfl) t_553 rfl rfl dX8_depthAll_12 ?_
        refine s_if_eq (tgt := 27) K dX8_depthAll_15 (by decide) (fun c_2 => ?_) (fun c_2 => ?_)
        · refine s_iconst K dX8_depthAll_27 kic_0 ?_
          refine s_iadd K dX8_depthAll_28 ?_
          refine s_istore_n (lv' := [(1, .int (x1 + 0)), (0, .ref mh), (2, .int x2)]) K dX8_depthAll_29 rfl (Nat.le_of_ble_eq_true rfl) rfl ?_
          refine s_iinc (lv' := [(2, .int (x2 + 1)), (1, .int (x1 + 0)), (0, .ref mh)]) K dX8_depthAll_30 2 rfl (kii_1 _) (Nat.le_of_ble_eq_true rfl) rfl ?_
          refine s_goto (tgt := 4) K dX8_depthAll_33 (by decide) ?_
          refine s_lv (lv' := [(0, .ref mh), (1, .int (x1 + 0)), (2, .int (x2 + 1))]) [2, 1, 0] rfl ?_
          exact ih (x1 + 0) (x2 + 1)
        · refine s_aload_n K dX8_depthAll_18 rfl 0 rfl ?_
          refine s_get K 0 rfl rfl inT8 2 (Nat.le_of_ble_eq_true rfl) t_555 rfl rfl dX8_depthAll_19 ?_
          refine s_iload_n K dX8_depthAll_22 rfl 2 rfl ?_
          refine s_ck (fun ho_3 => ?_)
          refine s_iald K 1 0 rfl rfl (ok_in ho_3) rfl dX8_depthAll_23 ?_
          refine s_goto (tgt := 28) K dX8_depthAll_24 (by decide) ?_
          refine s_iadd K dX8_depthAll_28 ?_
          refine s_istore_n (lv' := [(1, .int (x1 + (m_depthOf (Int32.toNatClampNeg x2)))), (0, .ref mh), (2, .int x2)]) K dX8_depthAll_29 rfl (Nat.le_of_ble_eq_true rfl) rfl ?_
          refine s_iinc (lv' := [(2, .int (x2 + 1)), (1, .int (x1 + (m_depthOf (Int32.toNatClampNeg x2)))), (0, .ref mh)]) K dX8_depthAll_30 2 rfl (kii_1 _) (Nat.le_of_ble_eq_true rfl) rfl ?_
          refine s_goto (tgt := 4) K dX8_depthAll_33 (by decide) ?_
          refine s_lv (lv' := [(0, .ref mh), (1, .int (x1 + (m_depthOf (Int32.toNatClampNeg x2)))), (2, .int (x2 + 1))]) [2, 1, 0] rfl ?_
          exact ih (x1 + (m_depthOf (Int32.toNatClampNeg x2))) (x2 + 1)
  rewrite [f_X8_depthAll]
  refine s_iconst K dX8_depthAll_0 kic_0 ?_
  refine s_istore_n (lv' := [(1, .int 0), (0, .ref mh)]) K dX8_depthAll_1 rfl (Nat.le_of_ble_eq_true rfl) rfl ?_
  refine s_iconst K dX8_depthAll_2 kic_0 ?_
  refine s_istore_n (lv' := [(2, .int 0), (1, .int 0), (0, .ref mh)]) K dX8_depthAll_3 rfl (Nat.le_of_ble_eq_true rfl) rfl ?_
  refine s_lv (lv' := [(0, .ref mh), (1, .int 0), (2, .int 0)]) [2, 1, 0] rfl ?_
  exact L4 70 0 0
set_option maxHeartbeats 4000000 in
set_option maxRecDepth 100000 in
theorem c_X8_lawn {l : Launch} {D : va_G} {cI cC cB cQ : ClassId} {kc : Nat → Nat} {kt : Nat} (mh q_depthOf q_kindOf q_sizeOf q_placeOf q_onOf q_sticksOf q_page q_savedDepth q_gameSize q_gamePlace q_gameSticks q_gameDepth q_keptDepth q_keptSize q_keptPlace q_keptOn q_keptSticks : Nat) (m_isLawn m_lawns m_wetness m_strength m_days m_balls m_asks m_books m_pageLength m_faultAt m_savedSize m_savedPlace m_savedSticks m_bestSize m_bestFirst : Int32) (m_seedNow : Int64) (m_isKept m_keptLawn m_keptBalls m_keptStrength m_keptDays : Int32) (m_h : Int64) (m_depthOf m_kindOf m_sizeOf m_placeOf m_onOf m_sticksOf m_page m_savedDepth m_gameSize m_gamePlace m_gameSticks m_gameDepth m_keptDepth m_keptSize m_keptPlace m_keptOn m_keptSticks : Nat → Int32) {r : Int32 × Int32 × Int32 × Int32 × Int32 × Int32 × Int32 × Int32 × Int32 × (Nat → Int32)} (hF : f_X8_lawn m_isLawn m_lawns m_wetness m_strength m_days m_balls m_pageLength m_depthOf m_page = some r) : CT l D (tysOf cI cC cB cQ) kc kt yX8_lawn cX8_lawn 2 (some .int) ({ frames := 3, cells := 0, slots := 0, locals := 165 } : Room) [.ref mh] (wM cI cC cB cQ kc mh q_depthOf q_kindOf q_sizeOf q_placeOf q_onOf q_sticksOf q_page q_savedDepth q_gameSize q_gamePlace q_gameSticks q_gameDepth q_keptDepth q_keptSize q_keptPlace q_keptOn q_keptSticks m_isLawn m_lawns m_wetness m_strength m_days m_balls m_asks m_books m_pageLength m_faultAt m_savedSize m_savedPlace m_savedSticks m_bestSize m_bestFirst m_seedNow m_isKept m_keptLawn m_keptBalls m_keptStrength m_keptDays m_h m_depthOf m_kindOf m_sizeOf m_placeOf m_onOf m_sticksOf m_page m_savedDepth m_gameSize m_gamePlace m_gameSticks m_gameDepth m_keptDepth m_keptSize m_keptPlace m_keptOn m_keptSticks) ((fun (r : Int32 × Int32 × Int32 × Int32 × Int32 × Int32 × Int32 × Int32 × Int32 × (Nat → Int32)) => (wM cI cC cB cQ kc mh q_depthOf q_kindOf q_sizeOf q_placeOf q_onOf q_sticksOf q_page q_savedDepth q_gameSize q_gamePlace q_gameSticks q_gameDepth q_keptDepth q_keptSize q_keptPlace q_keptOn q_keptSticks (r.2.1) (r.2.2.1) (r.2.2.2.1) (r.2.2.2.2.1) (r.2.2.2.2.2.1) (r.2.2.2.2.2.2.1) m_asks m_books (r.2.2.2.2.2.2.2.1) (r.2.2.2.2.2.2.2.2.1) m_savedSize m_savedPlace m_savedSticks m_bestSize m_bestFirst m_seedNow m_isKept m_keptLawn m_keptBalls m_keptStrength m_keptDays m_h (r.2.2.2.2.2.2.2.2.2) m_kindOf m_sizeOf m_placeOf m_onOf m_sticksOf m_page m_savedDepth m_gameSize m_gamePlace m_gameSticks m_gameDepth m_keptDepth m_keptSize m_keptPlace m_keptOn m_keptSticks)) r) ((fun (r : Int32 × Int32 × Int32 × Int32 × Int32 × Int32 × Int32 × Int32 × Int32 × (Nat → Int32)) => some (.int (r.1))) r) := by
  refine CT.of (ww := (fun (r : Int32 × Int32 × Int32 × Int32 × Int32 × Int32 × Int32 × Int32 × Int32 × (Nat → Int32)) => (wM cI cC cB cQ kc mh q_depthOf q_kindOf q_sizeOf q_placeOf q_onOf q_sticksOf q_page q_savedDepth q_gameSize q_gamePlace q_gameSticks q_gameDepth q_keptDepth q_keptSize q_keptPlace q_keptOn q_keptSticks (r.2.1) (r.2.2.1) (r.2.2.2.1) (r.2.2.2.2.1) (r.2.2.2.2.2.1) (r.2.2.2.2.2.2.1) m_asks m_books (r.2.2.2.2.2.2.2.1) (r.2.2.2.2.2.2.2.2.1) m_savedSize m_savedPlace m_savedSticks m_bestSize m_bestFirst m_seedNow m_isKept m_keptLawn m_keptBalls m_keptStrength m_keptDays m_h (r.2.2.2.2.2.2.2.2.2) m_kindOf m_sizeOf m_placeOf m_onOf m_sticksOf m_page m_savedDepth m_gameSize m_gamePlace m_gameSticks m_gameDepth m_keptDepth m_keptSize m_keptPlace m_keptOn m_keptSticks))) (oo := (fun (r : Int32 × Int32 × Int32 × Int32 × Int32 × Int32 × Int32 × Int32 × Int32 × (Nat → Int32)) => some (.int (r.1)))) hF RX8 rfl rfl (Nat.le_of_ble_eq_true rfl) ?_
  intro p e s m args below meth c A K hret hlk
  have L29 : ∀ (fu : Nat) (m_faultAt : Int32) (m_depthOf : Nat → Int32) (x1 : Int32), Sw (ρ := Int32 × Int32 × Int32 × Int32 × Int32 × Int32 × Int32 × Int32 × Int32 × (Nat → Int32)) p l e ({ frames := 3, cells := 0, slots := 0, locals := 165 } : Room) s m args below meth c 0 0 D A 2 (fun r => MQ below (CQ D ((fun (r : Int32 × Int32 × Int32 × Int32 × Int32 × Int32 × Int32 × Int32 × Int32 × (Nat → Int32)) => (wM cI cC cB cQ kc mh q_depthOf q_kindOf q_sizeOf q_placeOf q_onOf q_sticksOf q_page q_savedDepth q_gameSize q_gamePlace q_gameSticks q_gameDepth q_keptDepth q_keptSize q_keptPlace q_keptOn q_keptSticks (r.2.1) (r.2.2.1) (r.2.2.2.1) (r.2.2.2.2.1) (r.2.2.2.2.2.1) (r.2.2.2.2.2.2.1) m_asks m_books (r.2.2.2.2.2.2.2.1) (r.2.2.2.2.2.2.2.2.1) m_savedSize m_savedPlace m_savedSticks m_bestSize m_bestFirst m_seedNow m_isKept m_keptLawn m_keptBalls m_keptStrength m_keptDays m_h (r.2.2.2.2.2.2.2.2.2) m_kindOf m_sizeOf m_placeOf m_onOf m_sticksOf m_page m_savedDepth m_gameSize m_gamePlace m_gameSticks m_gameDepth m_keptDepth m_keptSize m_keptPlace m_keptOn m_keptSticks)) r) ((fun (r : Int32 × Int32 × Int32 × Int32 × Int32 × Int32 × Int32 × Int32 × Int32 × (Nat → Int32)) => some (.int (r.1))) r) A) args s 0 0 A) (f_X8_lawn_h29 m_lawns m_page fu m_faultAt m_depthOf x1) (wM cI cC cB cQ kc mh q_depthOf q_kindOf q_sizeOf q_placeOf q_onOf q_sticksOf q_page q_savedDepth q_gameSize q_gamePlace q_gameSticks q_gameDepth q_keptDepth q_keptSize q_keptPlace q_keptOn q_keptSticks m_isLawn m_lawns m_wetness m_strength m_days m_balls m_asks m_books m_pageLength m_faultAt m_savedSize m_savedPlace m_savedSticks m_bestSize m_bestFirst m_seedNow m_isKept m_keptLawn m_keptBalls m_keptStrength m_keptDays m_h m_depthOf m_kindOf m_sizeOf m_placeOf m_onOf m_sticksOf m_page m_savedDepth m_gameSize m_gamePlace m_gameSticks m_gameDepth m_keptDepth m_keptSize m_keptPlace m_keptOn m_keptSticks) [(0, .ref mh), (1, .int x1)] 29 [] := by
    intro  fu
    induction fu with
    | zero =>
      intro m_faultAt m_depthOf x1
      rewrite [f_X8_lawn_h29]
      exact s_none
    | succ fu ih =>
      intro m_faultAt m_depthOf x1
      rewrite [f_X8_lawn_h29]
      refine s_iload_n K dX8_lawn_29 rfl 1 rfl ?_
      refine s_bipush K dX8_lawn_30 kib_20 ?_
      refine s_icmp_ge (tgt := 65) K dX8_lawn_32 (by decide) (fun c_5 => ?_) (fun c_5 => ?_)
      · refine s_aload_n K dX8_lawn_65 rfl 0 rfl ?_
        refine s_aload_n K dX8_lawn_66 rfl 0 rfl ?_
        refine s_get K 0 rfl rfl inT8 15 (Nat.le_of_ble_eq_true rfl) t_568 rfl rfl dX8_lawn_67 ?_
        refine s_bipush K dX8_lawn_70 kib_24 ?_
        refine s_bald K 7 2 rfl rfl kin_24_26 kcl_24 dX8_lawn_72 ?_
        refine s_bipush K dX8_lawn_73 kib_48 ?_
        refine s_isub K dX8_lawn_75 ?_
        refine s_put (w' := (wM cI cC cB cQ kc mh q_depthOf q_kindOf q_sizeOf q_placeOf q_onOf q_sticksOf q_page q_savedDepth q_gameSize q_gamePlace q_gameSticks q_gameDepth q_keptDepth q_keptSize q_keptPlace q_keptOn q_keptSticks m_isLawn m_lawns ((m_page 24) - 48) m_strength m_days m_balls m_asks m_books m_pageLength m_faultAt m_savedSize m_savedPlace m_savedSticks m_bestSize m_bestFirst m_seedNow m_isKept m_keptLawn m_keptBalls m_keptStrength m_keptDays m_h m_depthOf m_kindOf m_sizeOf m_placeOf m_onOf m_sticksOf m_page m_savedDepth m_gameSize m_gamePlace m_gameSticks m_gameDepth m_keptDepth m_keptSize m_keptPlace m_keptOn m_keptSticks)) K 0 rfl rfl inT8 tyX8_ok nmX8 3 (Nat.le_of_ble_eq_true rfl) t_556 rfl rfl rfl rfl (Nat.le_of_ble_eq_true rfl) rfl dX8_lawn_76 ?_
        refine s_aload_n K dX8_lawn_79 rfl 0 rfl ?_
        refine s_iconst K dX8_lawn_80 kic_1 ?_
        refine s_put (w' := (wM cI cC cB cQ kc mh q_depthOf q_kindOf q_sizeOf q_placeOf q_onOf q_sticksOf q_page q_savedDepth q_gameSize q_gamePlace q_gameSticks q_gameDepth q_keptDepth q_keptSize q_keptPlace q_keptOn q_keptSticks 1 m_lawns ((m_page 24) - 48) m_strength m_days m_balls m_asks m_books m_pageLength m_faultAt m_savedSize m_savedPlace m_savedSticks m_bestSize m_bestFirst m_seedNow m_isKept m_keptLawn m_keptBalls m_keptStrength m_keptDays m_h m_depthOf m_kindOf m_sizeOf m_placeOf m_onOf m_sticksOf m_page m_savedDepth m_gameSize m_gamePlace m_gameSticks m_gameDepth m_keptDepth m_keptSize m_keptPlace m_keptOn m_keptSticks)) K 0 rfl rfl inT8 tyX8_ok nmX8 0 (Nat.le_of_ble_eq_true rfl) t_553 rfl rfl rfl rfl (Nat.le_of_ble_eq_true rfl) rfl dX8_lawn_81 ?_
        refine s_aload_n K dX8_lawn_84 rfl 0 rfl ?_
        refine s_dup K dX8_lawn_85 rfl ?_
        refine s_get K 0 rfl rfl inT8 1 (Nat.le_of_ble_eq_true rfl) t_554 rfl rfl dX8_lawn_86 ?_
        refine s_iconst K dX8_lawn_89 kic_1 ?_
        refine s_iadd K dX8_lawn_90 ?_
        refine s_put (w' := (wM cI cC cB cQ kc mh q_depthOf q_kindOf q_sizeOf q_placeOf q_onOf q_sticksOf q_page q_savedDepth q_gameSize q_gamePlace q_gameSticks q_gameDepth q_keptDepth q_keptSize q_keptPlace q_keptOn q_keptSticks 1 (m_lawns + 1) ((m_page 24) - 48) m_strength m_days m_balls m_asks m_books m_pageLength m_faultAt m_savedSize m_savedPlace m_savedSticks m_bestSize m_bestFirst m_seedNow m_isKept m_keptLawn m_keptBalls m_keptStrength m_keptDays m_h m_depthOf m_kindOf m_sizeOf m_placeOf m_onOf m_sticksOf m_page m_savedDepth m_gameSize m_gamePlace m_gameSticks m_gameDepth m_keptDepth m_keptSize m_keptPlace m_keptOn m_keptSticks)) K 0 rfl rfl inT8 tyX8_ok nmX8 1 (Nat.le_of_ble_eq_true rfl) t_554 rfl rfl rfl rfl (Nat.le_of_ble_eq_true rfl) rfl dX8_lawn_91 ?_
        refine s_aload_n K dX8_lawn_94 rfl 0 rfl ?_
        refine s_bipush K dX8_lawn_95 kib_20 ?_
        refine s_put (w' := (wM cI cC cB cQ kc mh q_depthOf q_kindOf q_sizeOf q_placeOf q_onOf q_sticksOf q_page q_savedDepth q_gameSize q_gamePlace q_gameSticks q_gameDepth q_keptDepth q_keptSize q_keptPlace q_keptOn q_keptSticks 1 (m_lawns + 1) ((m_page 24) - 48) 20 m_days m_balls m_asks m_books m_pageLength m_faultAt m_savedSize m_savedPlace m_savedSticks m_bestSize m_bestFirst m_seedNow m_isKept m_keptLawn m_keptBalls m_keptStrength m_keptDays m_h m_depthOf m_kindOf m_sizeOf m_placeOf m_onOf m_sticksOf m_page m_savedDepth m_gameSize m_gamePlace m_gameSticks m_gameDepth m_keptDepth m_keptSize m_keptPlace m_keptOn m_keptSticks)) K 0 rfl rfl inT8 tyX8_ok nmX8 4 (Nat.le_of_ble_eq_true rfl) t_557 rfl rfl rfl rfl (Nat.le_of_ble_eq_true rfl) rfl dX8_lawn_97 ?_
        refine s_aload_n K dX8_lawn_100 rfl 0 rfl ?_
        refine s_iconst K dX8_lawn_101 kic_0 ?_
        refine s_put (w' := (wM cI cC cB cQ kc mh q_depthOf q_kindOf q_sizeOf q_placeOf q_onOf q_sticksOf q_page q_savedDepth q_gameSize q_gamePlace q_gameSticks q_gameDepth q_keptDepth q_keptSize q_keptPlace q_keptOn q_keptSticks 1 (m_lawns + 1) ((m_page 24) - 48) 20 0 m_balls m_asks m_books m_pageLength m_faultAt m_savedSize m_savedPlace m_savedSticks m_bestSize m_bestFirst m_seedNow m_isKept m_keptLawn m_keptBalls m_keptStrength m_keptDays m_h m_depthOf m_kindOf m_sizeOf m_placeOf m_onOf m_sticksOf m_page m_savedDepth m_gameSize m_gamePlace m_gameSticks m_gameDepth m_keptDepth m_keptSize m_keptPlace m_keptOn m_keptSticks)) K 0 rfl rfl inT8 tyX8_ok nmX8 5 (Nat.le_of_ble_eq_true rfl) t_558 rfl rfl rfl rfl (Nat.le_of_ble_eq_true rfl) rfl dX8_lawn_102 ?_
        refine s_aload_n K dX8_lawn_105 rfl 0 rfl ?_
        refine s_iconst K dX8_lawn_106 kic_0 ?_
        refine s_put (w' := (wM cI cC cB cQ kc mh q_depthOf q_kindOf q_sizeOf q_placeOf q_onOf q_sticksOf q_page q_savedDepth q_gameSize q_gamePlace q_gameSticks q_gameDepth q_keptDepth q_keptSize q_keptPlace q_keptOn q_keptSticks 1 (m_lawns + 1) ((m_page 24) - 48) 20 0 0 m_asks m_books m_pageLength m_faultAt m_savedSize m_savedPlace m_savedSticks m_bestSize m_bestFirst m_seedNow m_isKept m_keptLawn m_keptBalls m_keptStrength m_keptDays m_h m_depthOf m_kindOf m_sizeOf m_placeOf m_onOf m_sticksOf m_page m_savedDepth m_gameSize m_gamePlace m_gameSticks m_gameDepth m_keptDepth m_keptSize m_keptPlace m_keptOn m_keptSticks)) K 0 rfl rfl inT8 tyX8_ok nmX8 6 (Nat.le_of_ble_eq_true rfl) t_559 rfl rfl rfl rfl (Nat.le_of_ble_eq_true rfl) rfl dX8_lawn_107 ?_
        refine s_aload_n K dX8_lawn_110 rfl 0 rfl ?_
        refine s_iconst K dX8_lawn_111 kic_0 ?_
        refine s_put (w' := (wM cI cC cB cQ kc mh q_depthOf q_kindOf q_sizeOf q_placeOf q_onOf q_sticksOf q_page q_savedDepth q_gameSize q_gamePlace q_gameSticks q_gameDepth q_keptDepth q_keptSize q_keptPlace q_keptOn q_keptSticks 1 (m_lawns + 1) ((m_page 24) - 48) 20 0 0 m_asks m_books 0 m_faultAt m_savedSize m_savedPlace m_savedSticks m_bestSize m_bestFirst m_seedNow m_isKept m_keptLawn m_keptBalls m_keptStrength m_keptDays m_h m_depthOf m_kindOf m_sizeOf m_placeOf m_onOf m_sticksOf m_page m_savedDepth m_gameSize m_gamePlace m_gameSticks m_gameDepth m_keptDepth m_keptSize m_keptPlace m_keptOn m_keptSticks)) K 0 rfl rfl inT8 tyX8_ok nmX8 14 (Nat.le_of_ble_eq_true rfl) t_567 rfl rfl rfl rfl (Nat.le_of_ble_eq_true rfl) rfl dX8_lawn_112 ?_
        refine s_aload_n K dX8_lawn_115 rfl 0 rfl ?_
        refine s_bind (fun q hq_7 => ?_)
        obtain ⟨r_6, rfl⟩ : ∃ z, z = q := ⟨_, rfl⟩
        refine s_callV (w' := (wM cI cC cB cQ kc mh q_depthOf q_kindOf q_sizeOf q_placeOf q_onOf q_sticksOf q_page q_savedDepth q_gameSize q_gamePlace q_gameSticks q_gameDepth q_keptDepth q_keptSize q_keptPlace q_keptOn q_keptSticks 1 (m_lawns + 1) ((m_page 24) - 48) 20 0 0 m_asks m_books 0 m_faultAt m_savedSize m_savedPlace m_savedSticks m_bestSize m_bestFirst m_seedNow m_isKept m_keptLawn m_keptBalls m_keptStrength m_keptDays m_h m_depthOf m_kindOf m_sizeOf m_placeOf m_onOf m_sticksOf m_page m_savedDepth m_gameSize m_gamePlace m_gameSticks m_gameDepth m_keptDepth m_keptSize m_keptPlace m_keptOn m_keptSticks)) (rest := []) (st1 := [.int r_6]) K (c_X8_depthAll mh q_depthOf q_kindOf q_sizeOf q_placeOf q_onOf q_sticksOf q_page q_savedDepth q_gameSize q_gamePlace q_gameSticks q_gameDepth q_keptDepth q_keptSize q_keptPlace q_keptOn q_keptSticks 1 (m_lawns + 1) ((m_page 24) - 48) 20 0 0 m_asks m_books 0 m_faultAt m_savedSize m_savedPlace m_savedSticks m_bestSize m_bestFirst m_seedNow m_isKept m_keptLawn m_keptBalls m_keptStrength m_keptDays m_h m_depthOf m_kindOf m_sizeOf m_placeOf m_onOf m_sticksOf m_page m_savedDepth m_gameSize m_gamePlace m_gameSticks m_gameDepth m_keptDepth m_keptSize m_keptPlace m_keptOn m_keptSticks hq_7) rfl hd_X8_depthAll t_695 t_697 ts_9 t_10 t_698 ⟨(Nat.le_of_ble_eq_true rfl), (Nat.le_of_ble_eq_true rfl)⟩ ⟨rfl, rfl⟩ ⟨Nat.zero_le _, Nat.zero_le _⟩ (rv_o K 0 rfl rfl) [0, 1, 2, 3, 4, 5, 6, 7, 8, 9, 10, 11, 12, 13, 14, 15, 16, 17] [] [0, 1, 2, 3, 4, 5, 6, 7, 8, 9, 10, 11, 12, 13, 14, 15, 16, 17] rfl rfl rfl rfl (by decide) rfl rfl rfl rfl (Nat.le_of_ble_eq_true rfl) dX8_lawn_116 ?_
        exact s_iret K hret hlk rfl rfl dX8_lawn_119
      · refine s_aload_n K dX8_lawn_35 rfl 0 rfl ?_
        refine s_get K 0 rfl rfl inT8 2 (Nat.le_of_ble_eq_true rfl) t_555 rfl rfl dX8_lawn_36 ?_
        refine s_iload_n K dX8_lawn_39 rfl 1 rfl ?_
        refine s_aload_n K dX8_lawn_40 rfl 0 rfl ?_
        refine s_get K 0 rfl rfl inT8 15 (Nat.le_of_ble_eq_true rfl) t_568 rfl rfl dX8_lawn_41 ?_
        refine s_iload_n K dX8_lawn_44 rfl 1 rfl ?_
        refine s_iconst K dX8_lawn_45 kic_5 ?_
        refine s_idiv K dX8_lawn_46 knz_5 ?_
        refine s_bipush K dX8_lawn_47 kib_6 ?_
        refine s_imul K dX8_lawn_49 ?_
        refine s_iload_n K dX8_lawn_50 rfl 1 rfl ?_
        refine s_iconst K dX8_lawn_51 kic_5 ?_
        refine s_irem K dX8_lawn_52 knz_5 ?_
        refine s_iadd K dX8_lawn_53 ?_
        refine s_ck (fun ho_8 => ?_)
        refine s_bald K 7 2 rfl rfl (ok_in ho_8) rfl dX8_lawn_54 ?_
        refine s_bipush K dX8_lawn_55 kib_48 ?_
        refine s_isub K dX8_lawn_57 ?_
        refine s_ck (fun ho_9 => ?_)
        refine s_iast (w' := (wM cI cC cB cQ kc mh q_depthOf q_kindOf q_sizeOf q_placeOf q_onOf q_sticksOf q_page q_savedDepth q_gameSize q_gamePlace q_gameSticks q_gameDepth q_keptDepth q_keptSize q_keptPlace q_keptOn q_keptSticks m_isLawn m_lawns m_wetness m_strength m_days m_balls m_asks m_books m_pageLength m_faultAt m_savedSize m_savedPlace m_savedSticks m_bestSize m_bestFirst m_seedNow m_isKept m_keptLawn m_keptBalls m_keptStrength m_keptDays m_h (upd m_depthOf (Int32.toNatClampNeg x1) ((m_page (Int32.toNatClampNeg (((x1 / 5) * 6) + (x1 - x1 / 5 * 5)))) - 48)) m_kindOf m_sizeOf m_placeOf m_onOf m_sticksOf m_page m_savedDepth m_gameSize m_gamePlace m_gameSticks m_gameDepth m_keptDepth m_keptSize m_keptPlace m_keptOn m_keptSticks)) K 1 0 rfl rfl (ok_in ho_9) rfl rfl dX8_lawn_58 ?_
        refine s_iinc (lv' := [(1, .int (x1 + 1)), (0, .ref mh)]) K dX8_lawn_59 1 rfl (kii_1 _) (Nat.le_of_ble_eq_true rfl) rfl ?_
        refine s_goto (tgt := 29) K dX8_lawn_62 (by decide) ?_
        refine s_lv (lv' := [(0, .ref mh), (1, .int (x1 + 1))]) [1, 0] rfl ?_
        exact ih m_faultAt (upd m_depthOf (Int32.toNatClampNeg x1) ((m_page (Int32.toNatClampNeg (((x1 / 5) * 6) + (x1 - x1 / 5 * 5)))) - 48)) (x1 + 1)
  rewrite [f_X8_lawn]
  refine s_aload_n K dX8_lawn_0 rfl 0 rfl ?_
  refine s_bind (fun q hq_2 => ?_)
  obtain ⟨m_faultAt_1, rfl⟩ : ∃ z, z = q := ⟨_, rfl⟩
  refine s_callV (w' := (wM cI cC cB cQ kc mh q_depthOf q_kindOf q_sizeOf q_placeOf q_onOf q_sticksOf q_page q_savedDepth q_gameSize q_gamePlace q_gameSticks q_gameDepth q_keptDepth q_keptSize q_keptPlace q_keptOn q_keptSticks m_isLawn m_lawns m_wetness m_strength m_days m_balls m_asks m_books m_pageLength m_faultAt_1 m_savedSize m_savedPlace m_savedSticks m_bestSize m_bestFirst m_seedNow m_isKept m_keptLawn m_keptBalls m_keptStrength m_keptDays m_h m_depthOf m_kindOf m_sizeOf m_placeOf m_onOf m_sticksOf m_page m_savedDepth m_gameSize m_gamePlace m_gameSticks m_gameDepth m_keptDepth m_keptSize m_keptPlace m_keptOn m_keptSticks)) (rest := []) (st1 := []) K (c_X8_readLawn mh q_depthOf q_kindOf q_sizeOf q_placeOf q_onOf q_sticksOf q_page q_savedDepth q_gameSize q_gamePlace q_gameSticks q_gameDepth q_keptDepth q_keptSize q_keptPlace q_keptOn q_keptSticks m_isLawn m_lawns m_wetness m_strength m_days m_balls m_asks m_books m_pageLength m_faultAt m_savedSize m_savedPlace m_savedSticks m_bestSize m_bestFirst m_seedNow m_isKept m_keptLawn m_keptBalls m_keptStrength m_keptDays m_h m_depthOf m_kindOf m_sizeOf m_placeOf m_onOf m_sticksOf m_page m_savedDepth m_gameSize m_gamePlace m_gameSticks m_gameDepth m_keptDepth m_keptSize m_keptPlace m_keptOn m_keptSticks hq_2) rfl hd_X8_readLawn t_687 t_689 ts_8 t_10 t_690 ⟨(Nat.le_of_ble_eq_true rfl), (Nat.le_of_ble_eq_true rfl)⟩ ⟨rfl, rfl⟩ ⟨Nat.zero_le _, Nat.zero_le _⟩ (rv_o K 0 rfl rfl) [0, 1, 2, 3, 4, 5, 6, 7, 8, 9, 10, 11, 12, 13, 14, 15, 16, 17] [] [0, 1, 2, 3, 4, 5, 6, 7, 8, 9, 10, 11, 12, 13, 14, 15, 16, 17] rfl rfl rfl rfl (by decide) rfl rfl rfl rfl (Nat.le_of_ble_eq_true rfl) dX8_lawn_1 ?_
  refine s_aload_n K dX8_lawn_4 rfl 0 rfl ?_
  refine s_get K 0 rfl rfl inT8 16 (Nat.le_of_ble_eq_true rfl) t_569 rfl rfl dX8_lawn_5 ?_
  refine s_aload_n K dX8_lawn_8 rfl 0 rfl ?_
  refine s_get K 0 rfl rfl inT8 14 (Nat.le_of_ble_eq_true rfl) t_567 rfl rfl dX8_lawn_9 ?_
  refine s_icmp_ne (tgt := 24) K dX8_lawn_12 (by decide) (fun c_3 => ?_) (fun c_3 => ?_)
  · refine s_aload_n K dX8_lawn_15 rfl 0 rfl ?_
    refine s_get K 0 rfl rfl inT8 14 (Nat.le_of_ble_eq_true rfl) t_567 rfl rfl dX8_lawn_16 ?_
    refine s_bipush K dX8_lawn_19 kib_25 ?_
    refine s_icmp_eq (tgt := 27) K dX8_lawn_21 (by decide) (fun c_4 => ?_) (fun c_4 => ?_)
    · refine s_iconst K dX8_lawn_27 kic_0 ?_
      refine s_istore_n (lv' := [(1, .int 0), (0, .ref mh)]) K dX8_lawn_28 rfl (Nat.le_of_ble_eq_true rfl) rfl ?_
      refine s_lv (lv' := [(0, .ref mh), (1, .int 0)]) [1, 0] rfl ?_
      exact L29 70 m_faultAt_1 m_depthOf 0
    · refine s_bipush K dX8_lawn_24 kib_m103 ?_
      exact s_iret K hret hlk rfl rfl dX8_lawn_26
  · refine s_bipush K dX8_lawn_24 kib_m103 ?_
    exact s_iret K hret hlk rfl rfl dX8_lawn_26
set_option maxHeartbeats 4000000 in
set_option maxRecDepth 100000 in
theorem c_X8_isPlace {l : Launch} {D : va_G} {cI cC cB cQ : ClassId} {kc : Nat → Nat} {kt : Nat} (a0 : Int32) {r : Int32} (hF : f_X8_isPlace a0 = some r) : CT l D (tysOf cI cC cB cQ) kc kt yX8_isPlace cX8_isPlace 1 (some .boolean) ({ frames := 2, cells := 0, slots := 0, locals := 102 } : Room) [.int a0] [] ((fun (r : Int32) => []) r) ((fun (r : Int32) => some (.int r)) r) := by
  refine CT.of (ww := (fun (r : Int32) => [])) (oo := (fun (r : Int32) => some (.int r))) hF RX8 rfl rfl (Nat.le_of_ble_eq_true rfl) ?_
  intro p e s m args below meth c A K hret hlk
  rewrite [f_X8_isPlace]
  refine s_iload_n K dX8_isPlace_0 rfl 0 rfl ?_
  refine s_iconst K dX8_isPlace_1 kic_0 ?_
  refine s_bipush K dX8_isPlace_2 kib_19 ?_
  refine s_bind (fun q hq_2 => ?_)
  obtain ⟨r_1, rfl⟩ : ∃ z, z = q := ⟨_, rfl⟩
  refine s_callS0 (rest := []) (st1 := [.int r_1]) K (c_X8_within a0 0 19 hq_2) hd_X8_within t_676 t_677 t_10 t_678 ⟨(Nat.le_of_ble_eq_true rfl), (Nat.le_of_ble_eq_true rfl)⟩ ⟨rfl, rfl⟩ ⟨Nat.zero_le _, Nat.zero_le _⟩ rfl rfl (Nat.le_of_ble_eq_true rfl) dX8_isPlace_4 ?_
  refine s_ck (fun hz_3 => ?_)
  exact s_zret K hret hlk (congrArg Value.int hz_3) rfl rfl dX8_isPlace_7
set_option maxHeartbeats 4000000 in
set_option maxRecDepth 100000 in
theorem c_X8_standsOn {l : Launch} {D : va_G} {cI cC cB cQ : ClassId} {kc : Nat → Nat} {kt : Nat} (mh q_depthOf q_kindOf q_sizeOf q_placeOf q_onOf q_sticksOf q_page q_savedDepth q_gameSize q_gamePlace q_gameSticks q_gameDepth q_keptDepth q_keptSize q_keptPlace q_keptOn q_keptSticks : Nat) (m_isLawn m_lawns m_wetness m_strength m_days m_balls m_asks m_books m_pageLength m_faultAt m_savedSize m_savedPlace m_savedSticks m_bestSize m_bestFirst : Int32) (m_seedNow : Int64) (m_isKept m_keptLawn m_keptBalls m_keptStrength m_keptDays : Int32) (m_h : Int64) (m_depthOf m_kindOf m_sizeOf m_placeOf m_onOf m_sticksOf m_page m_savedDepth m_gameSize m_gamePlace m_gameSticks m_gameDepth m_keptDepth m_keptSize m_keptPlace m_keptOn m_keptSticks : Nat → Int32) (a1 : Int32) {r : Int32} (hF : f_X8_standsOn m_balls m_placeOf m_onOf a1 = some r) : CT l D (tysOf cI cC cB cQ) kc kt yX8_standsOn cX8_standsOn 4 (some .int) ({ frames := 1, cells := 0, slots := 0, locals := 40 } : Room) [.ref mh, .int a1] (wM cI cC cB cQ kc mh q_depthOf q_kindOf q_sizeOf q_placeOf q_onOf q_sticksOf q_page q_savedDepth q_gameSize q_gamePlace q_gameSticks q_gameDepth q_keptDepth q_keptSize q_keptPlace q_keptOn q_keptSticks m_isLawn m_lawns m_wetness m_strength m_days m_balls m_asks m_books m_pageLength m_faultAt m_savedSize m_savedPlace m_savedSticks m_bestSize m_bestFirst m_seedNow m_isKept m_keptLawn m_keptBalls m_keptStrength m_keptDays m_h m_depthOf m_kindOf m_sizeOf m_placeOf m_onOf m_sticksOf m_page m_savedDepth m_gameSize m_gamePlace m_gameSticks m_gameDepth m_keptDepth m_keptSize m_keptPlace m_keptOn m_keptSticks) ((fun (r : Int32) => (wM cI cC cB cQ kc mh q_depthOf q_kindOf q_sizeOf q_placeOf q_onOf q_sticksOf q_page q_savedDepth q_gameSize q_gamePlace q_gameSticks q_gameDepth q_keptDepth q_keptSize q_keptPlace q_keptOn q_keptSticks m_isLawn m_lawns m_wetness m_strength m_days m_balls m_asks m_books m_pageLength m_faultAt m_savedSize m_savedPlace m_savedSticks m_bestSize m_bestFirst m_seedNow m_isKept m_keptLawn m_keptBalls m_keptStrength m_keptDays m_h m_depthOf m_kindOf m_sizeOf m_placeOf m_onOf m_sticksOf m_page m_savedDepth m_gameSize m_gamePlace m_gameSticks m_gameDepth m_keptDepth m_keptSize m_keptPlace m_keptOn m_keptSticks)) r) ((fun (r : Int32) => some (.int r)) r) := by
  refine CT.of (ww := (fun (r : Int32) => (wM cI cC cB cQ kc mh q_depthOf q_kindOf q_sizeOf q_placeOf q_onOf q_sticksOf q_page q_savedDepth q_gameSize q_gamePlace q_gameSticks q_gameDepth q_keptDepth q_keptSize q_keptPlace q_keptOn q_keptSticks m_isLawn m_lawns m_wetness m_strength m_days m_balls m_asks m_books m_pageLength m_faultAt m_savedSize m_savedPlace m_savedSticks m_bestSize m_bestFirst m_seedNow m_isKept m_keptLawn m_keptBalls m_keptStrength m_keptDays m_h m_depthOf m_kindOf m_sizeOf m_placeOf m_onOf m_sticksOf m_page m_savedDepth m_gameSize m_gamePlace m_gameSticks m_gameDepth m_keptDepth m_keptSize m_keptPlace m_keptOn m_keptSticks))) (oo := (fun (r : Int32) => some (.int r))) hF RX8 rfl rfl (Nat.le_of_ble_eq_true rfl) ?_
  intro p e s m args below meth c A K hret hlk
  have L4 : ∀ (fu : Nat) (x2 x3 : Int32), Sw (ρ := Int32) p l e ({ frames := 1, cells := 0, slots := 0, locals := 40 } : Room) s m args below meth c 0 0 D A 4 (fun r => MQ below (CQ D ((fun (r : Int32) => (wM cI cC cB cQ kc mh q_depthOf q_kindOf q_sizeOf q_placeOf q_onOf q_sticksOf q_page q_savedDepth q_gameSize q_gamePlace q_gameSticks q_gameDepth q_keptDepth q_keptSize q_keptPlace q_keptOn q_keptSticks m_isLawn m_lawns m_wetness m_strength m_days m_balls m_asks m_books m_pageLength m_faultAt m_savedSize m_savedPlace m_savedSticks m_bestSize m_bestFirst m_seedNow m_isKept m_keptLawn m_keptBalls m_keptStrength m_keptDays m_h m_depthOf m_kindOf m_sizeOf m_placeOf m_onOf m_sticksOf m_page m_savedDepth m_gameSize m_gamePlace m_gameSticks m_gameDepth m_keptDepth m_keptSize m_keptPlace m_keptOn m_keptSticks)) r) ((fun (r : Int32) => some (.int r)) r) A) args s 0 0 A) (f_X8_standsOn_h4 m_balls m_placeOf m_onOf a1 fu x2 x3) (wM cI cC cB cQ kc mh q_depthOf q_kindOf q_sizeOf q_placeOf q_onOf q_sticksOf q_page q_savedDepth q_gameSize q_gamePlace q_gameSticks q_gameDepth q_keptDepth q_keptSize q_keptPlace q_keptOn q_keptSticks m_isLawn m_lawns m_wetness m_strength m_days m_balls m_asks m_books m_pageLength m_faultAt m_savedSize m_savedPlace m_savedSticks m_bestSize m_bestFirst m_seedNow m_isKept m_keptLawn m_keptBalls m_keptStrength m_keptDays m_h m_depthOf m_kindOf m_sizeOf m_placeOf m_onOf m_sticksOf m_page m_savedDepth m_gameSize m_gamePlace m_gameSticks m_gameDepth m_keptDepth m_keptSize m_keptPlace m_keptOn m_keptSticks) [(0, .ref mh), (1, .int a1), (2, .int x2), (3, .int x3)] 4 [] := by
    intro  fu
    induction fu with
    | zero =>
      intro x2 x3
      rewrite [f_X8_standsOn_h4]
      exact s_none
    | succ fu ih =>
      intro x2 x3
      rewrite [f_X8_standsOn_h4]
      refine s_iload_n K dX8_standsOn_4 rfl 3 rfl ?_
      refine s_aload_n K dX8_standsOn_5 rfl 0 rfl ?_
      refine s_get K 0 rfl rfl inT8 6 (Nat.le_of_ble_eq_true rfl) t_559 rfl rfl dX8_standsOn_6 ?_
      refine s_icmp_ge (tgt := 44) K dX8_standsOn_9 (by decide) (fun c_1 => ?_) (fun c_1 => ?_)
      · refine s_iload_n K dX8_standsOn_44 rfl 2 rfl ?_
        exact s_iret K hret hlk rfl rfl dX8_standsOn_45
      · refine s_aload_n K dX8_standsOn_12 rfl 0 rfl ?_
        refine s_get K 0 rfl rfl inT8 9 (Nat.le_of_ble_eq_true rfl) t_562 rfl rfl dX8_standsOn_13 ?_
        refine s_iload_n K dX8_standsOn_16 rfl 3 rfl ?_
        refine s_ck (fun ho_2 => ?_)
        refine s_iald K 4 0 rfl rfl (ok_in ho_2) rfl dX8_standsOn_17 ?_
        refine s_iload_n K dX8_standsOn_18 rfl 1 rfl ?_
        refine s_icmp_ne (tgt := 36) K dX8_standsOn_19 (by decide) (fun c_3 => ?_) (fun c_3 => ?_)
        · refine s_aload_n K dX8_standsOn_22 rfl 0 rfl ?_
          refine s_get K 0 rfl rfl inT8 10 (Nat.le_of_ble_eq_true rfl) t_563 rfl rfl dX8_standsOn_23 ?_
          refine s_iload_n K dX8_standsOn_26 rfl 3 rfl ?_
          refine s_iald K 5 0 rfl rfl (ok_in ho_2) rfl dX8_standsOn_27 ?_
          refine s_iconst K dX8_standsOn_28 kic_m1 ?_
          refine s_icmp_ne (tgt := 36) K dX8_standsOn_29 (by decide) (fun c_4 => ?_) (fun c_4 => ?_)
          · refine s_iload_n K dX8_standsOn_32 rfl 3 rfl ?_
            refine s_goto (tgt := 37) K dX8_standsOn_33 (by decide) ?_
            refine s_istore_n (lv' := [(2, .int x3), (0, .ref mh), (1, .int a1), (3, .int x3)]) K dX8_standsOn_37 rfl (Nat.le_of_ble_eq_true rfl) rfl ?_
            refine s_iinc (lv' := [(3, .int (x3 + 1)), (2, .int x3), (0, .ref mh), (1, .int a1)]) K dX8_standsOn_38 3 rfl (kii_1 _) (Nat.le_of_ble_eq_true rfl) rfl ?_
            refine s_goto (tgt := 4) K dX8_standsOn_41 (by decide) ?_
            refine s_lv (lv' := [(0, .ref mh), (1, .int a1), (2, .int x3), (3, .int (x3 + 1))]) [2, 3, 1, 0] rfl ?_
            exact ih x3 (x3 + 1)
          · refine s_iload_n K dX8_standsOn_36 rfl 2 rfl ?_
            refine s_istore_n (lv' := [(2, .int x2), (0, .ref mh), (1, .int a1), (3, .int x3)]) K dX8_standsOn_37 rfl (Nat.le_of_ble_eq_true rfl) rfl ?_
            refine s_iinc (lv' := [(3, .int (x3 + 1)), (2, .int x2), (0, .ref mh), (1, .int a1)]) K dX8_standsOn_38 3 rfl (kii_1 _) (Nat.le_of_ble_eq_true rfl) rfl ?_
            refine s_goto (tgt := 4) K dX8_standsOn_41 (by decide) ?_
            refine s_lv (lv' := [(0, .ref mh), (1, .int a1), (2, .int x2), (3, .int (x3 + 1))]) [2, 3, 1, 0] rfl ?_
            exact ih x2 (x3 + 1)
        · refine s_iload_n K dX8_standsOn_36 rfl 2 rfl ?_
          refine s_istore_n (lv' := [(2, .int x2), (0, .ref mh), (1, .int a1), (3, .int x3)]) K dX8_standsOn_37 rfl (Nat.le_of_ble_eq_true rfl) rfl ?_
          refine s_iinc (lv' := [(3, .int (x3 + 1)), (2, .int x2), (0, .ref mh), (1, .int a1)]) K dX8_standsOn_38 3 rfl (kii_1 _) (Nat.le_of_ble_eq_true rfl) rfl ?_
          refine s_goto (tgt := 4) K dX8_standsOn_41 (by decide) ?_
          refine s_lv (lv' := [(0, .ref mh), (1, .int a1), (2, .int x2), (3, .int (x3 + 1))]) [2, 3, 1, 0] rfl ?_
          exact ih x2 (x3 + 1)
  rewrite [f_X8_standsOn]
  refine s_iconst K dX8_standsOn_0 kic_m1 ?_
  refine s_istore_n (lv' := [(2, .int (-1)), (0, .ref mh), (1, .int a1)]) K dX8_standsOn_1 rfl (Nat.le_of_ble_eq_true rfl) rfl ?_
  refine s_iconst K dX8_standsOn_2 kic_0 ?_
  refine s_istore_n (lv' := [(3, .int 0), (2, .int (-1)), (0, .ref mh), (1, .int a1)]) K dX8_standsOn_3 rfl (Nat.le_of_ble_eq_true rfl) rfl ?_
  refine s_lv (lv' := [(0, .ref mh), (1, .int a1), (2, .int (-1)), (3, .int 0)]) [2, 3, 1, 0] rfl ?_
  exact L4 70 (-1) 0
set_option maxHeartbeats 4000000 in
set_option maxRecDepth 100000 in
theorem c_X8_root {l : Launch} {D : va_G} {cI cC cB cQ : ClassId} {kc : Nat → Nat} {kt : Nat} (a0 : Int32) {r : Int32} (hF : f_X8_root a0 = some r) : CT l D (tysOf cI cC cB cQ) kc kt yX8_root cX8_root 2 (some .int) ({ frames := 1, cells := 0, slots := 0, locals := 40 } : Room) [.int a0] [] ((fun (r : Int32) => []) r) ((fun (r : Int32) => some (.int r)) r) := by
  refine CT.of (ww := (fun (r : Int32) => [])) (oo := (fun (r : Int32) => some (.int r))) hF RX8 rfl rfl (Nat.le_of_ble_eq_true rfl) ?_
  intro p e s m args below meth c A K hret hlk
  have L2 : ∀ (fu : Nat) (x1 : Int32), Sw (ρ := Int32) p l e ({ frames := 1, cells := 0, slots := 0, locals := 40 } : Room) s m args below meth c 0 0 D A 2 (fun r => MQ below (CQ D ((fun (r : Int32) => []) r) ((fun (r : Int32) => some (.int r)) r) A) args s 0 0 A) (f_X8_root_h2 a0 fu x1) [] [(0, .int a0), (1, .int x1)] 2 [] := by
    intro  fu
    induction fu with
    | zero =>
      intro x1
      rewrite [f_X8_root_h2]
      exact s_none
    | succ fu ih =>
      intro x1
      rewrite [f_X8_root_h2]
      refine s_iload_n K dX8_root_2 rfl 1 rfl ?_
      refine s_iconst K dX8_root_3 kic_1 ?_
      refine s_iadd K dX8_root_4 ?_
      refine s_iload_n K dX8_root_5 rfl 1 rfl ?_
      refine s_iconst K dX8_root_6 kic_1 ?_
      refine s_iadd K dX8_root_7 ?_
      refine s_imul K dX8_root_8 ?_
      refine s_iload_n K dX8_root_9 rfl 0 rfl ?_
      refine s_icmp_gt (tgt := 19) K dX8_root_10 (by decide) (fun c_1 => ?_) (fun c_1 => ?_)
      · refine s_iload_n K dX8_root_19 rfl 1 rfl ?_
        exact s_iret K hret hlk rfl rfl dX8_root_20
      · refine s_iinc (lv' := [(1, .int (x1 + 1)), (0, .int a0)]) K dX8_root_13 1 rfl (kii_1 _) (Nat.le_of_ble_eq_true rfl) rfl ?_
        refine s_goto (tgt := 2) K dX8_root_16 (by decide) ?_
        refine s_lv (lv' := [(0, .int a0), (1, .int (x1 + 1))]) [1, 0] rfl ?_
        exact ih (x1 + 1)
  rewrite [f_X8_root]
  refine s_iconst K dX8_root_0 kic_0 ?_
  refine s_istore_n (lv' := [(1, .int 0), (0, .int a0)]) K dX8_root_1 rfl (Nat.le_of_ble_eq_true rfl) rfl ?_
  refine s_lv (lv' := [(0, .int a0), (1, .int 0)]) [1, 0] rfl ?_
  exact L2 70 0
set_option maxHeartbeats 4000000 in
set_option maxRecDepth 100000 in
theorem c_X8_heightOf {l : Launch} {D : va_G} {cI cC cB cQ : ClassId} {kc : Nat → Nat} {kt : Nat} (mh q_depthOf q_kindOf q_sizeOf q_placeOf q_onOf q_sticksOf q_page q_savedDepth q_gameSize q_gamePlace q_gameSticks q_gameDepth q_keptDepth q_keptSize q_keptPlace q_keptOn q_keptSticks : Nat) (m_isLawn m_lawns m_wetness m_strength m_days m_balls m_asks m_books m_pageLength m_faultAt m_savedSize m_savedPlace m_savedSticks m_bestSize m_bestFirst : Int32) (m_seedNow : Int64) (m_isKept m_keptLawn m_keptBalls m_keptStrength m_keptDays : Int32) (m_h : Int64) (m_depthOf m_kindOf m_sizeOf m_placeOf m_onOf m_sticksOf m_page m_savedDepth m_gameSize m_gamePlace m_gameSticks m_gameDepth m_keptDepth m_keptSize m_keptPlace m_keptOn m_keptSticks : Nat → Int32) (a1 : Int32) {r : Int32} (hF : f_X8_heightOf m_balls m_sizeOf m_placeOf a1 = some r) : CT l D (tysOf cI cC cB cQ) kc kt yX8_heightOf cX8_heightOf 4 (some .int) ({ frames := 2, cells := 0, slots := 0, locals := 101 } : Room) [.ref mh, .int a1] (wM cI cC cB cQ kc mh q_depthOf q_kindOf q_sizeOf q_placeOf q_onOf q_sticksOf q_page q_savedDepth q_gameSize q_gamePlace q_gameSticks q_gameDepth q_keptDepth q_keptSize q_keptPlace q_keptOn q_keptSticks m_isLawn m_lawns m_wetness m_strength m_days m_balls m_asks m_books m_pageLength m_faultAt m_savedSize m_savedPlace m_savedSticks m_bestSize m_bestFirst m_seedNow m_isKept m_keptLawn m_keptBalls m_keptStrength m_keptDays m_h m_depthOf m_kindOf m_sizeOf m_placeOf m_onOf m_sticksOf m_page m_savedDepth m_gameSize m_gamePlace m_gameSticks m_gameDepth m_keptDepth m_keptSize m_keptPlace m_keptOn m_keptSticks) ((fun (r : Int32) => (wM cI cC cB cQ kc mh q_depthOf q_kindOf q_sizeOf q_placeOf q_onOf q_sticksOf q_page q_savedDepth q_gameSize q_gamePlace q_gameSticks q_gameDepth q_keptDepth q_keptSize q_keptPlace q_keptOn q_keptSticks m_isLawn m_lawns m_wetness m_strength m_days m_balls m_asks m_books m_pageLength m_faultAt m_savedSize m_savedPlace m_savedSticks m_bestSize m_bestFirst m_seedNow m_isKept m_keptLawn m_keptBalls m_keptStrength m_keptDays m_h m_depthOf m_kindOf m_sizeOf m_placeOf m_onOf m_sticksOf m_page m_savedDepth m_gameSize m_gamePlace m_gameSticks m_gameDepth m_keptDepth m_keptSize m_keptPlace m_keptOn m_keptSticks)) r) ((fun (r : Int32) => some (.int r)) r) := by
  refine CT.of (ww := (fun (r : Int32) => (wM cI cC cB cQ kc mh q_depthOf q_kindOf q_sizeOf q_placeOf q_onOf q_sticksOf q_page q_savedDepth q_gameSize q_gamePlace q_gameSticks q_gameDepth q_keptDepth q_keptSize q_keptPlace q_keptOn q_keptSticks m_isLawn m_lawns m_wetness m_strength m_days m_balls m_asks m_books m_pageLength m_faultAt m_savedSize m_savedPlace m_savedSticks m_bestSize m_bestFirst m_seedNow m_isKept m_keptLawn m_keptBalls m_keptStrength m_keptDays m_h m_depthOf m_kindOf m_sizeOf m_placeOf m_onOf m_sticksOf m_page m_savedDepth m_gameSize m_gamePlace m_gameSticks m_gameDepth m_keptDepth m_keptSize m_keptPlace m_keptOn m_keptSticks))) (oo := (fun (r : Int32) => some (.int r))) hF RX8 rfl rfl (Nat.le_of_ble_eq_true rfl) ?_
  intro p e s m args below meth c A K hret hlk
  have L4 : ∀ (fu : Nat) (x2 x3 : Int32), Sw (ρ := Int32) p l e ({ frames := 2, cells := 0, slots := 0, locals := 101 } : Room) s m args below meth c 0 0 D A 4 (fun r => MQ below (CQ D ((fun (r : Int32) => (wM cI cC cB cQ kc mh q_depthOf q_kindOf q_sizeOf q_placeOf q_onOf q_sticksOf q_page q_savedDepth q_gameSize q_gamePlace q_gameSticks q_gameDepth q_keptDepth q_keptSize q_keptPlace q_keptOn q_keptSticks m_isLawn m_lawns m_wetness m_strength m_days m_balls m_asks m_books m_pageLength m_faultAt m_savedSize m_savedPlace m_savedSticks m_bestSize m_bestFirst m_seedNow m_isKept m_keptLawn m_keptBalls m_keptStrength m_keptDays m_h m_depthOf m_kindOf m_sizeOf m_placeOf m_onOf m_sticksOf m_page m_savedDepth m_gameSize m_gamePlace m_gameSticks m_gameDepth m_keptDepth m_keptSize m_keptPlace m_keptOn m_keptSticks)) r) ((fun (r : Int32) => some (.int r)) r) A) args s 0 0 A) (f_X8_heightOf_h4 m_balls m_sizeOf m_placeOf a1 fu x2 x3) (wM cI cC cB cQ kc mh q_depthOf q_kindOf q_sizeOf q_placeOf q_onOf q_sticksOf q_page q_savedDepth q_gameSize q_gamePlace q_gameSticks q_gameDepth q_keptDepth q_keptSize q_keptPlace q_keptOn q_keptSticks m_isLawn m_lawns m_wetness m_strength m_days m_balls m_asks m_books m_pageLength m_faultAt m_savedSize m_savedPlace m_savedSticks m_bestSize m_bestFirst m_seedNow m_isKept m_keptLawn m_keptBalls m_keptStrength m_keptDays m_h m_depthOf m_kindOf m_sizeOf m_placeOf m_onOf m_sticksOf m_page m_savedDepth m_gameSize m_gamePlace m_gameSticks m_gameDepth m_keptDepth m_keptSize m_keptPlace m_keptOn m_keptSticks) [(0, .ref mh), (1, .int a1), (2, .int x2), (3, .int x3)] 4 [] := by
    intro  fu
    induction fu with
    | zero =>
      intro x2 x3
      rewrite [f_X8_heightOf_h4]
      exact s_none
    | succ fu ih =>
      intro x2 x3
      rewrite [f_X8_heightOf_h4]
      refine s_iload_n K dX8_heightOf_4 rfl 3 rfl ?_
      refine s_aload_n K dX8_heightOf_5 rfl 0 rfl ?_
      refine s_get K 0 rfl rfl inT8 6 (Nat.le_of_ble_eq_true rfl) t_559 rfl rfl dX8_heightOf_6 ?_
      refine s_icmp_ge (tgt := 44) K dX8_heightOf_9 (by decide) (fun c_1 => ?_) (fun c_1 => ?_)
      · refine s_iload_n K dX8_heightOf_44 rfl 2 rfl ?_
        exact s_iret K hret hlk rfl rfl dX8_heightOf_45
      · refine s_iload_n K dX8_heightOf_12 rfl 2 rfl ?_
        refine s_aload_n K dX8_heightOf_13 rfl 0 rfl ?_
        refine s_get K 0 rfl rfl inT8 9 (Nat.le_of_ble_eq_true rfl) t_562 rfl rfl dX8_heightOf_14 ?_
        refine s_iload_n K dX8_heightOf_17 rfl 3 rfl ?_
        refine s_ck (fun ho_2 => ?_)
        refine s_iald K 4 0 rfl rfl (ok_in ho_2) rfl dX8_heightOf_18 ?_
        refine s_iload_n K dX8_heightOf_19 rfl 1 rfl ?_
        refine s_icmp_ne (tgt := 35) K dX8_heightOf_20 (by decide) (fun c_3 => ?_) (fun c_3 => ?_)
        · refine s_aload_n K dX8_heightOf_23 rfl 0 rfl ?_
          refine s_get K 0 rfl rfl inT8 8 (Nat.le_of_ble_eq_true rfl) t_561 rfl rfl dX8_heightOf_24 ?_
          refine s_iload_n K dX8_heightOf_27 rfl 3 rfl ?_
          refine s_iald K 3 0 rfl rfl (ok_in ho_2) rfl dX8_heightOf_28 ?_
          refine s_bind (fun q hq_5 => ?_)
          obtain ⟨r_4, rfl⟩ : ∃ z, z = q := ⟨_, rfl⟩
          refine s_callS0 (rest := [.int x2]) (st1 := [.int r_4, .int x2]) K (c_X8_root (m_sizeOf (Int32.toNatClampNeg x3)) hq_5) hd_X8_root t_714 t_715 t_10 t_716 ⟨(Nat.le_of_ble_eq_true rfl), (Nat.le_of_ble_eq_true rfl)⟩ ⟨rfl, rfl⟩ ⟨Nat.zero_le _, Nat.zero_le _⟩ rfl rfl (Nat.le_of_ble_eq_true rfl) dX8_heightOf_29 ?_
          refine s_goto (tgt := 36) K dX8_heightOf_32 (by decide) ?_
          refine s_iadd K dX8_heightOf_36 ?_
          refine s_istore_n (lv' := [(2, .int (x2 + r_4)), (0, .ref mh), (1, .int a1), (3, .int x3)]) K dX8_heightOf_37 rfl (Nat.le_of_ble_eq_true rfl) rfl ?_
          refine s_iinc (lv' := [(3, .int (x3 + 1)), (2, .int (x2 + r_4)), (0, .ref mh), (1, .int a1)]) K dX8_heightOf_38 3 rfl (kii_1 _) (Nat.le_of_ble_eq_true rfl) rfl ?_
          refine s_goto (tgt := 4) K dX8_heightOf_41 (by decide) ?_
          refine s_lv (lv' := [(0, .ref mh), (1, .int a1), (2, .int (x2 + r_4)), (3, .int (x3 + 1))]) [2, 3, 1, 0] rfl ?_
          exact ih (x2 + r_4) (x3 + 1)
        · refine s_iconst K dX8_heightOf_35 kic_0 ?_
          refine s_iadd K dX8_heightOf_36 ?_
          refine s_istore_n (lv' := [(2, .int (x2 + 0)), (0, .ref mh), (1, .int a1), (3, .int x3)]) K dX8_heightOf_37 rfl (Nat.le_of_ble_eq_true rfl) rfl ?_
          refine s_iinc (lv' := [(3, .int (x3 + 1)), (2, .int (x2 + 0)), (0, .ref mh), (1, .int a1)]) K dX8_heightOf_38 3 rfl (kii_1 _) (Nat.le_of_ble_eq_true rfl) rfl ?_
          refine s_goto (tgt := 4) K dX8_heightOf_41 (by decide) ?_
          refine s_lv (lv' := [(0, .ref mh), (1, .int a1), (2, .int (x2 + 0)), (3, .int (x3 + 1))]) [2, 3, 1, 0] rfl ?_
          exact ih (x2 + 0) (x3 + 1)
  rewrite [f_X8_heightOf]
  refine s_iconst K dX8_heightOf_0 kic_0 ?_
  refine s_istore_n (lv' := [(2, .int 0), (0, .ref mh), (1, .int a1)]) K dX8_heightOf_1 rfl (Nat.le_of_ble_eq_true rfl) rfl ?_
  refine s_iconst K dX8_heightOf_2 kic_0 ?_
  refine s_istore_n (lv' := [(3, .int 0), (2, .int 0), (0, .ref mh), (1, .int a1)]) K dX8_heightOf_3 rfl (Nat.le_of_ble_eq_true rfl) rfl ?_
  refine s_lv (lv' := [(0, .ref mh), (1, .int a1), (2, .int 0), (3, .int 0)]) [2, 3, 1, 0] rfl ?_
  exact L4 70 0 0
set_option maxHeartbeats 4000000 in
set_option maxRecDepth 100000 in
theorem c_X8_place {l : Launch} {D : va_G} {cI cC cB cQ : ClassId} {kc : Nat → Nat} {kt : Nat} (mh q_depthOf q_kindOf q_sizeOf q_placeOf q_onOf q_sticksOf q_page q_savedDepth q_gameSize q_gamePlace q_gameSticks q_gameDepth q_keptDepth q_keptSize q_keptPlace q_keptOn q_keptSticks : Nat) (m_isLawn m_lawns m_wetness m_strength m_days m_balls m_asks m_books m_pageLength m_faultAt m_savedSize m_savedPlace m_savedSticks m_bestSize m_bestFirst : Int32) (m_seedNow : Int64) (m_isKept m_keptLawn m_keptBalls m_keptStrength m_keptDays : Int32) (m_h : Int64) (m_depthOf m_kindOf m_sizeOf m_placeOf m_onOf m_sticksOf m_page m_savedDepth m_gameSize m_gamePlace m_gameSticks m_gameDepth m_keptDepth m_keptSize m_keptPlace m_keptOn m_keptSticks : Nat → Int32) (a1 a2 : Int32) {r : Int32} (hF : f_X8_place m_isLawn m_balls m_depthOf m_sizeOf m_placeOf m_onOf a1 a2 = some r) : CT l D (tysOf cI cC cB cQ) kc kt yX8_place cX8_place 3 (some .int) ({ frames := 3, cells := 0, slots := 0, locals := 164 } : Room) [.ref mh, .int a1, .int a2] (wM cI cC cB cQ kc mh q_depthOf q_kindOf q_sizeOf q_placeOf q_onOf q_sticksOf q_page q_savedDepth q_gameSize q_gamePlace q_gameSticks q_gameDepth q_keptDepth q_keptSize q_keptPlace q_keptOn q_keptSticks m_isLawn m_lawns m_wetness m_strength m_days m_balls m_asks m_books m_pageLength m_faultAt m_savedSize m_savedPlace m_savedSticks m_bestSize m_bestFirst m_seedNow m_isKept m_keptLawn m_keptBalls m_keptStrength m_keptDays m_h m_depthOf m_kindOf m_sizeOf m_placeOf m_onOf m_sticksOf m_page m_savedDepth m_gameSize m_gamePlace m_gameSticks m_gameDepth m_keptDepth m_keptSize m_keptPlace m_keptOn m_keptSticks) ((fun (r : Int32) => (wM cI cC cB cQ kc mh q_depthOf q_kindOf q_sizeOf q_placeOf q_onOf q_sticksOf q_page q_savedDepth q_gameSize q_gamePlace q_gameSticks q_gameDepth q_keptDepth q_keptSize q_keptPlace q_keptOn q_keptSticks m_isLawn m_lawns m_wetness m_strength m_days m_balls m_asks m_books m_pageLength m_faultAt m_savedSize m_savedPlace m_savedSticks m_bestSize m_bestFirst m_seedNow m_isKept m_keptLawn m_keptBalls m_keptStrength m_keptDays m_h m_depthOf m_kindOf m_sizeOf m_placeOf m_onOf m_sticksOf m_page m_savedDepth m_gameSize m_gamePlace m_gameSticks m_gameDepth m_keptDepth m_keptSize m_keptPlace m_keptOn m_keptSticks)) r) ((fun (r : Int32) => some (.int r)) r) := by
  refine CT.of (ww := (fun (r : Int32) => (wM cI cC cB cQ kc mh q_depthOf q_kindOf q_sizeOf q_placeOf q_onOf q_sticksOf q_page q_savedDepth q_gameSize q_gamePlace q_gameSticks q_gameDepth q_keptDepth q_keptSize q_keptPlace q_keptOn q_keptSticks m_isLawn m_lawns m_wetness m_strength m_days m_balls m_asks m_books m_pageLength m_faultAt m_savedSize m_savedPlace m_savedSticks m_bestSize m_bestFirst m_seedNow m_isKept m_keptLawn m_keptBalls m_keptStrength m_keptDays m_h m_depthOf m_kindOf m_sizeOf m_placeOf m_onOf m_sticksOf m_page m_savedDepth m_gameSize m_gamePlace m_gameSticks m_gameDepth m_keptDepth m_keptSize m_keptPlace m_keptOn m_keptSticks))) (oo := (fun (r : Int32) => some (.int r))) hF RX8 rfl rfl (Nat.le_of_ble_eq_true rfl) ?_
  intro p e s m args below meth c A K hret hlk
  rewrite [f_X8_place]
  refine s_iload_n K dX8_place_0 rfl 1 rfl ?_
  refine s_bind (fun q hq_2 => ?_)
  obtain ⟨r_1, rfl⟩ : ∃ z, z = q := ⟨_, rfl⟩
  refine s_callS0 (rest := []) (st1 := [.int r_1]) K (c_X8_isPlace a1 hq_2) hd_X8_isPlace t_703 t_704 t_10 t_705 ⟨(Nat.le_of_ble_eq_true rfl), (Nat.le_of_ble_eq_true rfl)⟩ ⟨rfl, rfl⟩ ⟨Nat.zero_le _, Nat.zero_le _⟩ rfl rfl (Nat.le_of_ble_eq_true rfl) dX8_place_1 ?_
  refine s_if_ne (tgt := 10) K dX8_place_4 (by decide) (fun c_3 => ?_) (fun c_3 => ?_)
  · refine s_bipush K dX8_place_7 kib_m101 ?_
    exact s_iret K hret hlk rfl rfl dX8_place_9
  · refine s_iload_n K dX8_place_10 rfl 2 rfl ?_
    refine s_iconst K dX8_place_11 kic_0 ?_
    refine s_iconst K dX8_place_12 kic_2 ?_
    refine s_bind (fun q hq_5 => ?_)
    obtain ⟨r_4, rfl⟩ : ∃ z, z = q := ⟨_, rfl⟩
    refine s_callS0 (rest := []) (st1 := [.int r_4]) K (c_X8_within a2 0 2 hq_5) hd_X8_within t_676 t_677 t_10 t_678 ⟨(Nat.le_of_ble_eq_true rfl), (Nat.le_of_ble_eq_true rfl)⟩ ⟨rfl, rfl⟩ ⟨Nat.zero_le _, Nat.zero_le _⟩ rfl rfl (Nat.le_of_ble_eq_true rfl) dX8_place_13 ?_
    refine s_if_ne (tgt := 22) K dX8_place_16 (by decide) (fun c_6 => ?_) (fun c_6 => ?_)
    · refine s_bipush K dX8_place_19 kib_m102 ?_
      exact s_iret K hret hlk rfl rfl dX8_place_21
    · refine s_aload_n K dX8_place_22 rfl 0 rfl ?_
      refine s_get K 0 rfl rfl inT8 0 (Nat.le_of_ble_eq_true rfl) t_553 rfl rfl dX8_place_23 ?_
      refine s_if_ne (tgt := 32) K dX8_place_26 (by decide) (fun c_7 => ?_) (fun c_7 => ?_)
      · refine s_bipush K dX8_place_29 kib_m103 ?_
        exact s_iret K hret hlk rfl rfl dX8_place_31
      · refine s_iload_n K dX8_place_32 rfl 2 rfl ?_
        refine s_if_ne (tgt := 45) K dX8_place_33 (by decide) (fun c_8 => ?_) (fun c_8 => ?_)
        · refine s_aload_n K dX8_place_36 rfl 0 rfl ?_
          refine s_get K 0 rfl rfl inT8 2 (Nat.le_of_ble_eq_true rfl) t_555 rfl rfl dX8_place_37 ?_
          refine s_iload_n K dX8_place_40 rfl 1 rfl ?_
          refine s_ck (fun ho_9 => ?_)
          refine s_iald K 1 0 rfl rfl (ok_in ho_9) rfl dX8_place_41 ?_
          refine s_goto (tgt := 63) K dX8_place_42 (by decide) ?_
          exact s_iret K hret hlk rfl rfl dX8_place_63
        · refine s_iload_n K dX8_place_45 rfl 2 rfl ?_
          refine s_iconst K dX8_place_46 kic_1 ?_
          refine s_icmp_ne (tgt := 58) K dX8_place_47 (by decide) (fun c_10 => ?_) (fun c_10 => ?_)
          · refine s_aload_n K dX8_place_50 rfl 0 rfl ?_
            refine s_iload_n K dX8_place_51 rfl 1 rfl ?_
            refine s_bind (fun q hq_12 => ?_)
            obtain ⟨r_11, rfl⟩ : ∃ z, z = q := ⟨_, rfl⟩
            refine s_callV (w' := (wM cI cC cB cQ kc mh q_depthOf q_kindOf q_sizeOf q_placeOf q_onOf q_sticksOf q_page q_savedDepth q_gameSize q_gamePlace q_gameSticks q_gameDepth q_keptDepth q_keptSize q_keptPlace q_keptOn q_keptSticks m_isLawn m_lawns m_wetness m_strength m_days m_balls m_asks m_books m_pageLength m_faultAt m_savedSize m_savedPlace m_savedSticks m_bestSize m_bestFirst m_seedNow m_isKept m_keptLawn m_keptBalls m_keptStrength m_keptDays m_h m_depthOf m_kindOf m_sizeOf m_placeOf m_onOf m_sticksOf m_page m_savedDepth m_gameSize m_gamePlace m_gameSticks m_gameDepth m_keptDepth m_keptSize m_keptPlace m_keptOn m_keptSticks)) (rest := []) (st1 := [.int r_11]) K (c_X8_standsOn mh q_depthOf q_kindOf q_sizeOf q_placeOf q_onOf q_sticksOf q_page q_savedDepth q_gameSize q_gamePlace q_gameSticks q_gameDepth q_keptDepth q_keptSize q_keptPlace q_keptOn q_keptSticks m_isLawn m_lawns m_wetness m_strength m_days m_balls m_asks m_books m_pageLength m_faultAt m_savedSize m_savedPlace m_savedSticks m_bestSize m_bestFirst m_seedNow m_isKept m_keptLawn m_keptBalls m_keptStrength m_keptDays m_h m_depthOf m_kindOf m_sizeOf m_placeOf m_onOf m_sticksOf m_page m_savedDepth m_gameSize m_gamePlace m_gameSticks m_gameDepth m_keptDepth m_keptSize m_keptPlace m_keptOn m_keptSticks a1 hq_12) rfl hd_X8_standsOn t_706 t_708 ts_10 t_10 t_709 ⟨(Nat.le_of_ble_eq_true rfl), (Nat.le_of_ble_eq_true rfl)⟩ ⟨rfl, rfl⟩ ⟨Nat.zero_le _, Nat.zero_le _⟩ (rv_o K 0 rfl rfl) [0, 1, 2, 3, 4, 5, 6, 7, 8, 9, 10, 11, 12, 13, 14, 15, 16, 17] [] [0, 1, 2, 3, 4, 5, 6, 7, 8, 9, 10, 11, 12, 13, 14, 15, 16, 17] rfl rfl rfl rfl (by decide) rfl rfl rfl rfl (Nat.le_of_ble_eq_true rfl) dX8_place_52 ?_
            refine s_goto (tgt := 63) K dX8_place_55 (by decide) ?_
            exact s_iret K hret hlk rfl rfl dX8_place_63
          · refine s_aload_n K dX8_place_58 rfl 0 rfl ?_
            refine s_iload_n K dX8_place_59 rfl 1 rfl ?_
            refine s_bind (fun q hq_14 => ?_)
            obtain ⟨r_13, rfl⟩ : ∃ z, z = q := ⟨_, rfl⟩
            refine s_callV (w' := (wM cI cC cB cQ kc mh q_depthOf q_kindOf q_sizeOf q_placeOf q_onOf q_sticksOf q_page q_savedDepth q_gameSize q_gamePlace q_gameSticks q_gameDepth q_keptDepth q_keptSize q_keptPlace q_keptOn q_keptSticks m_isLawn m_lawns m_wetness m_strength m_days m_balls m_asks m_books m_pageLength m_faultAt m_savedSize m_savedPlace m_savedSticks m_bestSize m_bestFirst m_seedNow m_isKept m_keptLawn m_keptBalls m_keptStrength m_keptDays m_h m_depthOf m_kindOf m_sizeOf m_placeOf m_onOf m_sticksOf m_page m_savedDepth m_gameSize m_gamePlace m_gameSticks m_gameDepth m_keptDepth m_keptSize m_keptPlace m_keptOn m_keptSticks)) (rest := []) (st1 := [.int r_13]) K (c_X8_heightOf mh q_depthOf q_kindOf q_sizeOf q_placeOf q_onOf q_sticksOf q_page q_savedDepth q_gameSize q_gamePlace q_gameSticks q_gameDepth q_keptDepth q_keptSize q_keptPlace q_keptOn q_keptSticks m_isLawn m_lawns m_wetness m_strength m_days m_balls m_asks m_books m_pageLength m_faultAt m_savedSize m_savedPlace m_savedSticks m_bestSize m_bestFirst m_seedNow m_isKept m_keptLawn m_keptBalls m_keptStrength m_keptDays m_h m_depthOf m_kindOf m_sizeOf m_placeOf m_onOf m_sticksOf m_page m_savedDepth m_gameSize m_gamePlace m_gameSticks m_gameDepth m_keptDepth m_keptSize m_keptPlace m_keptOn m_keptSticks a1 hq_14) rfl hd_X8_heightOf t_710 t_712 ts_11 t_10 t_713 ⟨(Nat.le_of_ble_eq_true rfl), (Nat.le_of_ble_eq_true rfl)⟩ ⟨rfl, rfl⟩ ⟨Nat.zero_le _, Nat.zero_le _⟩ (rv_o K 0 rfl rfl) [0, 1, 2, 3, 4, 5, 6, 7, 8, 9, 10, 11, 12, 13, 14, 15, 16, 17] [] [0, 1, 2, 3, 4, 5, 6, 7, 8, 9, 10, 11, 12, 13, 14, 15, 16, 17] rfl rfl rfl rfl (by decide) rfl rfl rfl rfl (Nat.le_of_ble_eq_true rfl) dX8_place_60 ?_
            exact s_iret K hret hlk rfl rfl dX8_place_63
set_option maxHeartbeats 4000000 in
set_option maxRecDepth 100000 in
theorem c_X8_strength {l : Launch} {D : va_G} {cI cC cB cQ : ClassId} {kc : Nat → Nat} {kt : Nat} (mh q_depthOf q_kindOf q_sizeOf q_placeOf q_onOf q_sticksOf q_page q_savedDepth q_gameSize q_gamePlace q_gameSticks q_gameDepth q_keptDepth q_keptSize q_keptPlace q_keptOn q_keptSticks : Nat) (m_isLawn m_lawns m_wetness m_strength m_days m_balls m_asks m_books m_pageLength m_faultAt m_savedSize m_savedPlace m_savedSticks m_bestSize m_bestFirst : Int32) (m_seedNow : Int64) (m_isKept m_keptLawn m_keptBalls m_keptStrength m_keptDays : Int32) (m_h : Int64) (m_depthOf m_kindOf m_sizeOf m_placeOf m_onOf m_sticksOf m_page m_savedDepth m_gameSize m_gamePlace m_gameSticks m_gameDepth m_keptDepth m_keptSize m_keptPlace m_keptOn m_keptSticks : Nat → Int32) (a1 : Int32) {r : Int32 × Int32} (hF : f_X8_strength m_isLawn m_strength a1 = some r) : CT l D (tysOf cI cC cB cQ) kc kt yX8_strength cX8_strength 3 (some .int) ({ frames := 2, cells := 0, slots := 0, locals := 102 } : Room) [.ref mh, .int a1] (wM cI cC cB cQ kc mh q_depthOf q_kindOf q_sizeOf q_placeOf q_onOf q_sticksOf q_page q_savedDepth q_gameSize q_gamePlace q_gameSticks q_gameDepth q_keptDepth q_keptSize q_keptPlace q_keptOn q_keptSticks m_isLawn m_lawns m_wetness m_strength m_days m_balls m_asks m_books m_pageLength m_faultAt m_savedSize m_savedPlace m_savedSticks m_bestSize m_bestFirst m_seedNow m_isKept m_keptLawn m_keptBalls m_keptStrength m_keptDays m_h m_depthOf m_kindOf m_sizeOf m_placeOf m_onOf m_sticksOf m_page m_savedDepth m_gameSize m_gamePlace m_gameSticks m_gameDepth m_keptDepth m_keptSize m_keptPlace m_keptOn m_keptSticks) ((fun (r : Int32 × Int32) => (wM cI cC cB cQ kc mh q_depthOf q_kindOf q_sizeOf q_placeOf q_onOf q_sticksOf q_page q_savedDepth q_gameSize q_gamePlace q_gameSticks q_gameDepth q_keptDepth q_keptSize q_keptPlace q_keptOn q_keptSticks m_isLawn m_lawns m_wetness (r.2) m_days m_balls m_asks m_books m_pageLength m_faultAt m_savedSize m_savedPlace m_savedSticks m_bestSize m_bestFirst m_seedNow m_isKept m_keptLawn m_keptBalls m_keptStrength m_keptDays m_h m_depthOf m_kindOf m_sizeOf m_placeOf m_onOf m_sticksOf m_page m_savedDepth m_gameSize m_gamePlace m_gameSticks m_gameDepth m_keptDepth m_keptSize m_keptPlace m_keptOn m_keptSticks)) r) ((fun (r : Int32 × Int32) => some (.int (r.1))) r) := by
  refine CT.of (ww := (fun (r : Int32 × Int32) => (wM cI cC cB cQ kc mh q_depthOf q_kindOf q_sizeOf q_placeOf q_onOf q_sticksOf q_page q_savedDepth q_gameSize q_gamePlace q_gameSticks q_gameDepth q_keptDepth q_keptSize q_keptPlace q_keptOn q_keptSticks m_isLawn m_lawns m_wetness (r.2) m_days m_balls m_asks m_books m_pageLength m_faultAt m_savedSize m_savedPlace m_savedSticks m_bestSize m_bestFirst m_seedNow m_isKept m_keptLawn m_keptBalls m_keptStrength m_keptDays m_h m_depthOf m_kindOf m_sizeOf m_placeOf m_onOf m_sticksOf m_page m_savedDepth m_gameSize m_gamePlace m_gameSticks m_gameDepth m_keptDepth m_keptSize m_keptPlace m_keptOn m_keptSticks))) (oo := (fun (r : Int32 × Int32) => some (.int (r.1)))) hF RX8 rfl rfl (Nat.le_of_ble_eq_true rfl) ?_
  intro p e s m args below meth c A K hret hlk
  rewrite [f_X8_strength]
  refine s_iload_n K dX8_strength_0 rfl 1 rfl ?_
  refine s_iconst K dX8_strength_1 kic_1 ?_
  refine s_bipush K dX8_strength_2 kib_99 ?_
  refine s_bind (fun q hq_2 => ?_)
  obtain ⟨r_1, rfl⟩ : ∃ z, z = q := ⟨_, rfl⟩
  refine s_callS0 (rest := []) (st1 := [.int r_1]) K (c_X8_within a1 1 99 hq_2) hd_X8_within t_676 t_677 t_10 t_678 ⟨(Nat.le_of_ble_eq_true rfl), (Nat.le_of_ble_eq_true rfl)⟩ ⟨rfl, rfl⟩ ⟨Nat.zero_le _, Nat.zero_le _⟩ rfl rfl (Nat.le_of_ble_eq_true rfl) dX8_strength_4 ?_
  refine s_if_ne (tgt := 13) K dX8_strength_7 (by decide) (fun c_3 => ?_) (fun c_3 => ?_)
  · refine s_bipush K dX8_strength_10 kib_m102 ?_
    exact s_iret K hret hlk rfl rfl dX8_strength_12
  · refine s_aload_n K dX8_strength_13 rfl 0 rfl ?_
    refine s_get K 0 rfl rfl inT8 0 (Nat.le_of_ble_eq_true rfl) t_553 rfl rfl dX8_strength_14 ?_
    refine s_if_ne (tgt := 23) K dX8_strength_17 (by decide) (fun c_4 => ?_) (fun c_4 => ?_)
    · refine s_bipush K dX8_strength_20 kib_m103 ?_
      exact s_iret K hret hlk rfl rfl dX8_strength_22
    · refine s_aload_n K dX8_strength_23 rfl 0 rfl ?_
      refine s_get K 0 rfl rfl inT8 4 (Nat.le_of_ble_eq_true rfl) t_557 rfl rfl dX8_strength_24 ?_
      refine s_istore_n (lv' := [(2, .int m_strength), (0, .ref mh), (1, .int a1)]) K dX8_strength_27 rfl (Nat.le_of_ble_eq_true rfl) rfl ?_
      refine s_aload_n K dX8_strength_28 rfl 1 rfl ?_
      refine s_iload_n K dX8_strength_29 rfl 2 rfl ?_
      refine s_put (w' := (wM cI cC cB cQ kc mh q_depthOf q_kindOf q_sizeOf q_placeOf q_onOf q_sticksOf q_page q_savedDepth q_gameSize q_gamePlace q_gameSticks q_gameDepth q_keptDepth q_keptSize q_keptPlace q_keptOn q_keptSticks m_isLawn m_lawns m_wetness a1 m_days m_balls m_asks m_books m_pageLength m_faultAt m_savedSize m_savedPlace m_savedSticks m_bestSize m_bestFirst m_seedNow m_isKept m_keptLawn m_keptBalls m_keptStrength m_keptDays m_h m_depthOf m_kindOf m_sizeOf m_placeOf m_onOf m_sticksOf m_page m_savedDepth m_gameSize m_gamePlace m_gameSticks m_gameDepth m_keptDepth m_keptSize m_keptPlace m_keptOn m_keptSticks)) K 0 rfl rfl inT8 tyX8_ok nmX8 4 (Nat.le_of_ble_eq_true rfl) t_557 rfl rfl rfl rfl (Nat.le_of_ble_eq_true rfl) rfl dX8_strength_30 ?_
      refine s_iload_n K dX8_strength_33 rfl 0 rfl ?_
      exact s_iret K hret hlk rfl rfl dX8_strength_34
set_option maxHeartbeats 4000000 in
set_option maxRecDepth 100000 in
theorem c_X8_isBall {l : Launch} {D : va_G} {cI cC cB cQ : ClassId} {kc : Nat → Nat} {kt : Nat} (mh q_depthOf q_kindOf q_sizeOf q_placeOf q_onOf q_sticksOf q_page q_savedDepth q_gameSize q_gamePlace q_gameSticks q_gameDepth q_keptDepth q_keptSize q_keptPlace q_keptOn q_keptSticks : Nat) (m_isLawn m_lawns m_wetness m_strength m_days m_balls m_asks m_books m_pageLength m_faultAt m_savedSize m_savedPlace m_savedSticks m_bestSize m_bestFirst : Int32) (m_seedNow : Int64) (m_isKept m_keptLawn m_keptBalls m_keptStrength m_keptDays : Int32) (m_h : Int64) (m_depthOf m_kindOf m_sizeOf m_placeOf m_onOf m_sticksOf m_page m_savedDepth m_gameSize m_gamePlace m_gameSticks m_gameDepth m_keptDepth m_keptSize m_keptPlace m_keptOn m_keptSticks : Nat → Int32) (a1 : Int32) {r : Int32} (hF : f_X8_isBall m_balls a1 = some r) : CT l D (tysOf cI cC cB cQ) kc kt yX8_isBall cX8_isBall 2 (some .boolean) ({ frames := 2, cells := 0, slots := 0, locals := 102 } : Room) [.ref mh, .int a1] (wM cI cC cB cQ kc mh q_depthOf q_kindOf q_sizeOf q_placeOf q_onOf q_sticksOf q_page q_savedDepth q_gameSize q_gamePlace q_gameSticks q_gameDepth q_keptDepth q_keptSize q_keptPlace q_keptOn q_keptSticks m_isLawn m_lawns m_wetness m_strength m_days m_balls m_asks m_books m_pageLength m_faultAt m_savedSize m_savedPlace m_savedSticks m_bestSize m_bestFirst m_seedNow m_isKept m_keptLawn m_keptBalls m_keptStrength m_keptDays m_h m_depthOf m_kindOf m_sizeOf m_placeOf m_onOf m_sticksOf m_page m_savedDepth m_gameSize m_gamePlace m_gameSticks m_gameDepth m_keptDepth m_keptSize m_keptPlace m_keptOn m_keptSticks) ((fun (r : Int32) => (wM cI cC cB cQ kc mh q_depthOf q_kindOf q_sizeOf q_placeOf q_onOf q_sticksOf q_page q_savedDepth q_gameSize q_gamePlace q_gameSticks q_gameDepth q_keptDepth q_keptSize q_keptPlace q_keptOn q_keptSticks m_isLawn m_lawns m_wetness m_strength m_days m_balls m_asks m_books m_pageLength m_faultAt m_savedSize m_savedPlace m_savedSticks m_bestSize m_bestFirst m_seedNow m_isKept m_keptLawn m_keptBalls m_keptStrength m_keptDays m_h m_depthOf m_kindOf m_sizeOf m_placeOf m_onOf m_sticksOf m_page m_savedDepth m_gameSize m_gamePlace m_gameSticks m_gameDepth m_keptDepth m_keptSize m_keptPlace m_keptOn m_keptSticks)) r) ((fun (r : Int32) => some (.int r)) r) := by
  refine CT.of (ww := (fun (r : Int32) => (wM cI cC cB cQ kc mh q_depthOf q_kindOf q_sizeOf q_placeOf q_onOf q_sticksOf q_page q_savedDepth q_gameSize q_gamePlace q_gameSticks q_gameDepth q_keptDepth q_keptSize q_keptPlace q_keptOn q_keptSticks m_isLawn m_lawns m_wetness m_strength m_days m_balls m_asks m_books m_pageLength m_faultAt m_savedSize m_savedPlace m_savedSticks m_bestSize m_bestFirst m_seedNow m_isKept m_keptLawn m_keptBalls m_keptStrength m_keptDays m_h m_depthOf m_kindOf m_sizeOf m_placeOf m_onOf m_sticksOf m_page m_savedDepth m_gameSize m_gamePlace m_gameSticks m_gameDepth m_keptDepth m_keptSize m_keptPlace m_keptOn m_keptSticks))) (oo := (fun (r : Int32) => some (.int r))) hF RX8 rfl rfl (Nat.le_of_ble_eq_true rfl) ?_
  intro p e s m args below meth c A K hret hlk
  rewrite [f_X8_isBall]
  refine s_iload_n K dX8_isBall_0 rfl 1 rfl ?_
  refine s_iconst K dX8_isBall_1 kic_0 ?_
  refine s_aload_n K dX8_isBall_2 rfl 0 rfl ?_
  refine s_get K 0 rfl rfl inT8 6 (Nat.le_of_ble_eq_true rfl) t_559 rfl rfl dX8_isBall_3 ?_
  refine s_iconst K dX8_isBall_6 kic_1 ?_
  refine s_isub K dX8_isBall_7 ?_
  refine s_bind (fun q hq_2 => ?_)
  obtain ⟨r_1, rfl⟩ : ∃ z, z = q := ⟨_, rfl⟩
  refine s_callS0 (rest := []) (st1 := [.int r_1]) K (c_X8_within a1 0 (m_balls - 1) hq_2) hd_X8_within t_676 t_677 t_10 t_678 ⟨(Nat.le_of_ble_eq_true rfl), (Nat.le_of_ble_eq_true rfl)⟩ ⟨rfl, rfl⟩ ⟨Nat.zero_le _, Nat.zero_le _⟩ rfl rfl (Nat.le_of_ble_eq_true rfl) dX8_isBall_8 ?_
  refine s_ck (fun hz_3 => ?_)
  exact s_zret K hret hlk (congrArg Value.int hz_3) rfl rfl dX8_isBall_11
set_option maxHeartbeats 4000000 in
set_option maxRecDepth 100000 in
theorem c_X8_lay {l : Launch} {D : va_G} {cI cC cB cQ : ClassId} {kc : Nat → Nat} {kt : Nat} (mh q_depthOf q_kindOf q_sizeOf q_placeOf q_onOf q_sticksOf q_page q_savedDepth q_gameSize q_gamePlace q_gameSticks q_gameDepth q_keptDepth q_keptSize q_keptPlace q_keptOn q_keptSticks : Nat) (m_isLawn m_lawns m_wetness m_strength m_days m_balls m_asks m_books m_pageLength m_faultAt m_savedSize m_savedPlace m_savedSticks m_bestSize m_bestFirst : Int32) (m_seedNow : Int64) (m_isKept m_keptLawn m_keptBalls m_keptStrength m_keptDays : Int32) (m_h : Int64) (m_depthOf m_kindOf m_sizeOf m_placeOf m_onOf m_sticksOf m_page m_savedDepth m_gameSize m_gamePlace m_gameSticks m_gameDepth m_keptDepth m_keptSize m_keptPlace m_keptOn m_keptSticks : Nat → Int32) (a1 a2 a3 : Int32) {r : (Nat → Int32) × (Nat → Int32) × (Nat → Int32) × (Nat → Int32) × (Nat → Int32)} (hF : f_X8_lay m_kindOf m_sizeOf m_placeOf m_onOf m_sticksOf a1 a2 a3 = some r) : CT l D (tysOf cI cC cB cQ) kc kt yX8_lay cX8_lay 4 none ({ frames := 1, cells := 0, slots := 0, locals := 40 } : Room) [.ref mh, .int a1, .int a2, .int a3] (wM cI cC cB cQ kc mh q_depthOf q_kindOf q_sizeOf q_placeOf q_onOf q_sticksOf q_page q_savedDepth q_gameSize q_gamePlace q_gameSticks q_gameDepth q_keptDepth q_keptSize q_keptPlace q_keptOn q_keptSticks m_isLawn m_lawns m_wetness m_strength m_days m_balls m_asks m_books m_pageLength m_faultAt m_savedSize m_savedPlace m_savedSticks m_bestSize m_bestFirst m_seedNow m_isKept m_keptLawn m_keptBalls m_keptStrength m_keptDays m_h m_depthOf m_kindOf m_sizeOf m_placeOf m_onOf m_sticksOf m_page m_savedDepth m_gameSize m_gamePlace m_gameSticks m_gameDepth m_keptDepth m_keptSize m_keptPlace m_keptOn m_keptSticks) ((fun (r : (Nat → Int32) × (Nat → Int32) × (Nat → Int32) × (Nat → Int32) × (Nat → Int32)) => (wM cI cC cB cQ kc mh q_depthOf q_kindOf q_sizeOf q_placeOf q_onOf q_sticksOf q_page q_savedDepth q_gameSize q_gamePlace q_gameSticks q_gameDepth q_keptDepth q_keptSize q_keptPlace q_keptOn q_keptSticks m_isLawn m_lawns m_wetness m_strength m_days m_balls m_asks m_books m_pageLength m_faultAt m_savedSize m_savedPlace m_savedSticks m_bestSize m_bestFirst m_seedNow m_isKept m_keptLawn m_keptBalls m_keptStrength m_keptDays m_h m_depthOf (r.1) (r.2.1) (r.2.2.1) (r.2.2.2.1) (r.2.2.2.2) m_page m_savedDepth m_gameSize m_gamePlace m_gameSticks m_gameDepth m_keptDepth m_keptSize m_keptPlace m_keptOn m_keptSticks)) r) ((fun (r : (Nat → Int32) × (Nat → Int32) × (Nat → Int32) × (Nat → Int32) × (Nat → Int32)) => none) r) := by
  refine CT.of (ww := (fun (r : (Nat → Int32) × (Nat → Int32) × (Nat → Int32) × (Nat → Int32) × (Nat → Int32)) => (wM cI cC cB cQ kc mh q_depthOf q_kindOf q_sizeOf q_placeOf q_onOf q_sticksOf q_page q_savedDepth q_gameSize q_gamePlace q_gameSticks q_gameDepth q_keptDepth q_keptSize q_keptPlace q_keptOn q_keptSticks m_isLawn m_lawns m_wetness m_strength m_days m_balls m_asks m_books m_pageLength m_faultAt m_savedSize m_savedPlace m_savedSticks m_bestSize m_bestFirst m_seedNow m_isKept m_keptLawn m_keptBalls m_keptStrength m_keptDays m_h m_depthOf (r.1) (r.2.1) (r.2.2.1) (r.2.2.2.1) (r.2.2.2.2) m_page m_savedDepth m_gameSize m_gamePlace m_gameSticks m_gameDepth m_keptDepth m_keptSize m_keptPlace m_keptOn m_keptSticks))) (oo := (fun (r : (Nat → Int32) × (Nat → Int32) × (Nat → Int32) × (Nat → Int32) × (Nat → Int32)) => none)) hF RX8 rfl rfl (Nat.le_of_ble_eq_true rfl) ?_
  intro p e s m args below meth c A K hret hlk
  rewrite [f_X8_lay]
  refine s_aload_n K dX8_lay_0 rfl 0 rfl ?_
  refine s_get K 0 rfl rfl inT8 7 (Nat.le_of_ble_eq_true rfl) t_560 rfl rfl dX8_lay_1 ?_
  refine s_iload_n K dX8_lay_4 rfl 1 rfl ?_
  refine s_iload_n K dX8_lay_5 rfl 2 rfl ?_
  refine s_ck (fun ho_1 => ?_)
  refine s_iast (w' := (wM cI cC cB cQ kc mh q_depthOf q_kindOf q_sizeOf q_placeOf q_onOf q_sticksOf q_page q_savedDepth q_gameSize q_gamePlace q_gameSticks q_gameDepth q_keptDepth q_keptSize q_keptPlace q_keptOn q_keptSticks m_isLawn m_lawns m_wetness m_strength m_days m_balls m_asks m_books m_pageLength m_faultAt m_savedSize m_savedPlace m_savedSticks m_bestSize m_bestFirst m_seedNow m_isKept m_keptLawn m_keptBalls m_keptStrength m_keptDays m_h m_depthOf (upd m_kindOf (Int32.toNatClampNeg a1) a2) m_sizeOf m_placeOf m_onOf m_sticksOf m_page m_savedDepth m_gameSize m_gamePlace m_gameSticks m_gameDepth m_keptDepth m_keptSize m_keptPlace m_keptOn m_keptSticks)) K 2 0 rfl rfl (ok_in ho_1) rfl rfl dX8_lay_6 ?_
  refine s_aload_n K dX8_lay_7 rfl 0 rfl ?_
  refine s_get K 0 rfl rfl inT8 8 (Nat.le_of_ble_eq_true rfl) t_561 rfl rfl dX8_lay_8 ?_
  refine s_iload_n K dX8_lay_11 rfl 1 rfl ?_
  refine s_iconst K dX8_lay_12 kic_1 ?_
  refine s_iast (w' := (wM cI cC cB cQ kc mh q_depthOf q_kindOf q_sizeOf q_placeOf q_onOf q_sticksOf q_page q_savedDepth q_gameSize q_gamePlace q_gameSticks q_gameDepth q_keptDepth q_keptSize q_keptPlace q_keptOn q_keptSticks m_isLawn m_lawns m_wetness m_strength m_days m_balls m_asks m_books m_pageLength m_faultAt m_savedSize m_savedPlace m_savedSticks m_bestSize m_bestFirst m_seedNow m_isKept m_keptLawn m_keptBalls m_keptStrength m_keptDays m_h m_depthOf (upd m_kindOf (Int32.toNatClampNeg a1) a2) (upd m_sizeOf (Int32.toNatClampNeg a1) 1) m_placeOf m_onOf m_sticksOf m_page m_savedDepth m_gameSize m_gamePlace m_gameSticks m_gameDepth m_keptDepth m_keptSize m_keptPlace m_keptOn m_keptSticks)) K 3 0 rfl rfl (ok_in ho_1) rfl rfl dX8_lay_13 ?_
  refine s_aload_n K dX8_lay_14 rfl 0 rfl ?_
  refine s_get K 0 rfl rfl inT8 9 (Nat.le_of_ble_eq_true rfl) t_562 rfl rfl dX8_lay_15 ?_
  refine s_iload_n K dX8_lay_18 rfl 1 rfl ?_
  refine s_iload_n K dX8_lay_19 rfl 3 rfl ?_
  refine s_iast (w' := (wM cI cC cB cQ kc mh q_depthOf q_kindOf q_sizeOf q_placeOf q_onOf q_sticksOf q_page q_savedDepth q_gameSize q_gamePlace q_gameSticks q_gameDepth q_keptDepth q_keptSize q_keptPlace q_keptOn q_keptSticks m_isLawn m_lawns m_wetness m_strength m_days m_balls m_asks m_books m_pageLength m_faultAt m_savedSize m_savedPlace m_savedSticks m_bestSize m_bestFirst m_seedNow m_isKept m_keptLawn m_keptBalls m_keptStrength m_keptDays m_h m_depthOf (upd m_kindOf (Int32.toNatClampNeg a1) a2) (upd m_sizeOf (Int32.toNatClampNeg a1) 1) (upd m_placeOf (Int32.toNatClampNeg a1) a3) m_onOf m_sticksOf m_page m_savedDepth m_gameSize m_gamePlace m_gameSticks m_gameDepth m_keptDepth m_keptSize m_keptPlace m_keptOn m_keptSticks)) K 4 0 rfl rfl (ok_in ho_1) rfl rfl dX8_lay_20 ?_
  refine s_aload_n K dX8_lay_21 rfl 0 rfl ?_
  refine s_get K 0 rfl rfl inT8 10 (Nat.le_of_ble_eq_true rfl) t_563 rfl rfl dX8_lay_22 ?_
  refine s_iload_n K dX8_lay_25 rfl 1 rfl ?_
  refine s_iconst K dX8_lay_26 kic_m1 ?_
  refine s_iast (w' := (wM cI cC cB cQ kc mh q_depthOf q_kindOf q_sizeOf q_placeOf q_onOf q_sticksOf q_page q_savedDepth q_gameSize q_gamePlace q_gameSticks q_gameDepth q_keptDepth q_keptSize q_keptPlace q_keptOn q_keptSticks m_isLawn m_lawns m_wetness m_strength m_days m_balls m_asks m_books m_pageLength m_faultAt m_savedSize m_savedPlace m_savedSticks m_bestSize m_bestFirst m_seedNow m_isKept m_keptLawn m_keptBalls m_keptStrength m_keptDays m_h m_depthOf (upd m_kindOf (Int32.toNatClampNeg a1) a2) (upd m_sizeOf (Int32.toNatClampNeg a1) 1) (upd m_placeOf (Int32.toNatClampNeg a1) a3) (upd m_onOf (Int32.toNatClampNeg a1) (-1)) m_sticksOf m_page m_savedDepth m_gameSize m_gamePlace m_gameSticks m_gameDepth m_keptDepth m_keptSize m_keptPlace m_keptOn m_keptSticks)) K 5 0 rfl rfl (ok_in ho_1) rfl rfl dX8_lay_27 ?_
  refine s_aload_n K dX8_lay_28 rfl 0 rfl ?_
  refine s_get K 0 rfl rfl inT8 11 (Nat.le_of_ble_eq_true rfl) t_564 rfl rfl dX8_lay_29 ?_
  refine s_iload_n K dX8_lay_32 rfl 1 rfl ?_
  refine s_iconst K dX8_lay_33 kic_m1 ?_
  refine s_iast (w' := (wM cI cC cB cQ kc mh q_depthOf q_kindOf q_sizeOf q_placeOf q_onOf q_sticksOf q_page q_savedDepth q_gameSize q_gamePlace q_gameSticks q_gameDepth q_keptDepth q_keptSize q_keptPlace q_keptOn q_keptSticks m_isLawn m_lawns m_wetness m_strength m_days m_balls m_asks m_books m_pageLength m_faultAt m_savedSize m_savedPlace m_savedSticks m_bestSize m_bestFirst m_seedNow m_isKept m_keptLawn m_keptBalls m_keptStrength m_keptDays m_h m_depthOf (upd m_kindOf (Int32.toNatClampNeg a1) a2) (upd m_sizeOf (Int32.toNatClampNeg a1) 1) (upd m_placeOf (Int32.toNatClampNeg a1) a3) (upd m_onOf (Int32.toNatClampNeg a1) (-1)) (upd m_sticksOf (Int32.toNatClampNeg a1) (-1)) m_page m_savedDepth m_gameSize m_gamePlace m_gameSticks m_gameDepth m_keptDepth m_keptSize m_keptPlace m_keptOn m_keptSticks)) K 6 0 rfl rfl (ok_in ho_1) rfl rfl dX8_lay_34 ?_
  exact s_vret K hret hlk rfl rfl dX8_lay_35
set_option maxHeartbeats 4000000 in
set_option maxRecDepth 100000 in
theorem c_X8_ball {l : Launch} {D : va_G} {cI cC cB cQ : ClassId} {kc : Nat → Nat} {kt : Nat} (mh q_depthOf q_kindOf q_sizeOf q_placeOf q_onOf q_sticksOf q_page q_savedDepth q_gameSize q_gamePlace q_gameSticks q_gameDepth q_keptDepth q_keptSize q_keptPlace q_keptOn q_keptSticks : Nat) (m_isLawn m_lawns m_wetness m_strength m_days m_balls m_asks m_books m_pageLength m_faultAt m_savedSize m_savedPlace m_savedSticks m_bestSize m_bestFirst : Int32) (m_seedNow : Int64) (m_isKept m_keptLawn m_keptBalls m_keptStrength m_keptDays : Int32) (m_h : Int64) (m_depthOf m_kindOf m_sizeOf m_placeOf m_onOf m_sticksOf m_page m_savedDepth m_gameSize m_gamePlace m_gameSticks m_gameDepth m_keptDepth m_keptSize m_keptPlace m_keptOn m_keptSticks : Nat → Int32) (a1 a2 : Int32) {r : Int32 × Int32 × (Nat → Int32) × (Nat → Int32) × (Nat → Int32) × (Nat → Int32) × (Nat → Int32)} (hF : f_X8_ball m_isLawn m_balls m_kindOf m_sizeOf m_placeOf m_onOf m_sticksOf a1 a2 = some r) : CT l D (tysOf cI cC cB cQ) kc kt yX8_ball cX8_ball 3 (some .int) ({ frames := 3, cells := 0, slots := 0, locals := 162 } : Room) [.ref mh, .int a1, .int a2] (wM cI cC cB cQ kc mh q_depthOf q_kindOf q_sizeOf q_placeOf q_onOf q_sticksOf q_page q_savedDepth q_gameSize q_gamePlace q_gameSticks q_gameDepth q_keptDepth q_keptSize q_keptPlace q_keptOn q_keptSticks m_isLawn m_lawns m_wetness m_strength m_days m_balls m_asks m_books m_pageLength m_faultAt m_savedSize m_savedPlace m_savedSticks m_bestSize m_bestFirst m_seedNow m_isKept m_keptLawn m_keptBalls m_keptStrength m_keptDays m_h m_depthOf m_kindOf m_sizeOf m_placeOf m_onOf m_sticksOf m_page m_savedDepth m_gameSize m_gamePlace m_gameSticks m_gameDepth m_keptDepth m_keptSize m_keptPlace m_keptOn m_keptSticks) ((fun (r : Int32 × Int32 × (Nat → Int32) × (Nat → Int32) × (Nat → Int32) × (Nat → Int32) × (Nat → Int32)) => (wM cI cC cB cQ kc mh q_depthOf q_kindOf q_sizeOf q_placeOf q_onOf q_sticksOf q_page q_savedDepth q_gameSize q_gamePlace q_gameSticks q_gameDepth q_keptDepth q_keptSize q_keptPlace q_keptOn q_keptSticks m_isLawn m_lawns m_wetness m_strength m_days (r.2.1) m_asks m_books m_pageLength m_faultAt m_savedSize m_savedPlace m_savedSticks m_bestSize m_bestFirst m_seedNow m_isKept m_keptLawn m_keptBalls m_keptStrength m_keptDays m_h m_depthOf (r.2.2.1) (r.2.2.2.1) (r.2.2.2.2.1) (r.2.2.2.2.2.1) (r.2.2.2.2.2.2) m_page m_savedDepth m_gameSize m_gamePlace m_gameSticks m_gameDepth m_keptDepth m_keptSize m_keptPlace m_keptOn m_keptSticks)) r) ((fun (r : Int32 × Int32 × (Nat → Int32) × (Nat → Int32) × (Nat → Int32) × (Nat → Int32) × (Nat → Int32)) => some (.int (r.1))) r) := by
  refine CT.of (ww := (fun (r : Int32 × Int32 × (Nat → Int32) × (Nat → Int32) × (Nat → Int32) × (Nat → Int32) × (Nat → Int32)) => (wM cI cC cB cQ kc mh q_depthOf q_kindOf q_sizeOf q_placeOf q_onOf q_sticksOf q_page q_savedDepth q_gameSize q_gamePlace q_gameSticks q_gameDepth q_keptDepth q_keptSize q_keptPlace q_keptOn q_keptSticks m_isLawn m_lawns m_wetness m_strength m_days (r.2.1) m_asks m_books m_pageLength m_faultAt m_savedSize m_savedPlace m_savedSticks m_bestSize m_bestFirst m_seedNow m_isKept m_keptLawn m_keptBalls m_keptStrength m_keptDays m_h m_depthOf (r.2.2.1) (r.2.2.2.1) (r.2.2.2.2.1) (r.2.2.2.2.2.1) (r.2.2.2.2.2.2) m_page m_savedDepth m_gameSize m_gamePlace m_gameSticks m_gameDepth m_keptDepth m_keptSize m_keptPlace m_keptOn m_keptSticks))) (oo := (fun (r : Int32 × Int32 × (Nat → Int32) × (Nat → Int32) × (Nat → Int32) × (Nat → Int32) × (Nat → Int32)) => some (.int (r.1)))) hF RX8 rfl rfl (Nat.le_of_ble_eq_true rfl) ?_
  intro p e s m args below meth c A K hret hlk
  rewrite [f_X8_ball]
  refine s_iload_n K dX8_ball_0 rfl 2 rfl ?_
  refine s_bind (fun q hq_2 => ?_)
  obtain ⟨r_1, rfl⟩ : ∃ z, z = q := ⟨_, rfl⟩
  refine s_callS0 (rest := []) (st1 := [.int r_1]) K (c_X8_isPlace a2 hq_2) hd_X8_isPlace t_703 t_704 t_10 t_705 ⟨(Nat.le_of_ble_eq_true rfl), (Nat.le_of_ble_eq_true rfl)⟩ ⟨rfl, rfl⟩ ⟨Nat.zero_le _, Nat.zero_le _⟩ rfl rfl (Nat.le_of_ble_eq_true rfl) dX8_ball_1 ?_
  refine s_if_ne (tgt := 10) K dX8_ball_4 (by decide) (fun c_3 => ?_) (fun c_3 => ?_)
  · refine s_bipush K dX8_ball_7 kib_m101 ?_
    exact s_iret K hret hlk rfl rfl dX8_ball_9
  · refine s_iload_n K dX8_ball_10 rfl 1 rfl ?_
    refine s_iconst K dX8_ball_11 kic_0 ?_
    refine s_iconst K dX8_ball_12 kic_4 ?_
    refine s_bind (fun q hq_5 => ?_)
    obtain ⟨r_4, rfl⟩ : ∃ z, z = q := ⟨_, rfl⟩
    refine s_callS0 (rest := []) (st1 := [.int r_4]) K (c_X8_within a1 0 4 hq_5) hd_X8_within t_676 t_677 t_10 t_678 ⟨(Nat.le_of_ble_eq_true rfl), (Nat.le_of_ble_eq_true rfl)⟩ ⟨rfl, rfl⟩ ⟨Nat.zero_le _, Nat.zero_le _⟩ rfl rfl (Nat.le_of_ble_eq_true rfl) dX8_ball_13 ?_
    refine s_if_ne (tgt := 22) K dX8_ball_16 (by decide) (fun c_6 => ?_) (fun c_6 => ?_)
    · refine s_bipush K dX8_ball_19 kib_m102 ?_
      exact s_iret K hret hlk rfl rfl dX8_ball_21
    · refine s_aload_n K dX8_ball_22 rfl 0 rfl ?_
      refine s_get K 0 rfl rfl inT8 0 (Nat.le_of_ble_eq_true rfl) t_553 rfl rfl dX8_ball_23 ?_
      refine s_if_eq (tgt := 38) K dX8_ball_26 (by decide) (fun c_7 => ?_) (fun c_7 => ?_)
      · refine s_bipush K dX8_ball_38 kib_m103 ?_
        exact s_iret K hret hlk rfl rfl dX8_ball_40
      · refine s_aload_n K dX8_ball_29 rfl 0 rfl ?_
        refine s_iload_n K dX8_ball_30 rfl 2 rfl ?_
        refine s_bind (fun q hq_9 => ?_)
        obtain ⟨r_8, rfl⟩ : ∃ z, z = q := ⟨_, rfl⟩
        refine s_callV (w' := (wM cI cC cB cQ kc mh q_depthOf q_kindOf q_sizeOf q_placeOf q_onOf q_sticksOf q_page q_savedDepth q_gameSize q_gamePlace q_gameSticks q_gameDepth q_keptDepth q_keptSize q_keptPlace q_keptOn q_keptSticks m_isLawn m_lawns m_wetness m_strength m_days m_balls m_asks m_books m_pageLength m_faultAt m_savedSize m_savedPlace m_savedSticks m_bestSize m_bestFirst m_seedNow m_isKept m_keptLawn m_keptBalls m_keptStrength m_keptDays m_h m_depthOf m_kindOf m_sizeOf m_placeOf m_onOf m_sticksOf m_page m_savedDepth m_gameSize m_gamePlace m_gameSticks m_gameDepth m_keptDepth m_keptSize m_keptPlace m_keptOn m_keptSticks)) (rest := []) (st1 := [.int r_8]) K (c_X8_standsOn mh q_depthOf q_kindOf q_sizeOf q_placeOf q_onOf q_sticksOf q_page q_savedDepth q_gameSize q_gamePlace q_gameSticks q_gameDepth q_keptDepth q_keptSize q_keptPlace q_keptOn q_keptSticks m_isLawn m_lawns m_wetness m_strength m_days m_balls m_asks m_books m_pageLength m_faultAt m_savedSize m_savedPlace m_savedSticks m_bestSize m_bestFirst m_seedNow m_isKept m_keptLawn m_keptBalls m_keptStrength m_keptDays m_h m_depthOf m_kindOf m_sizeOf m_placeOf m_onOf m_sticksOf m_page m_savedDepth m_gameSize m_gamePlace m_gameSticks m_gameDepth m_keptDepth m_keptSize m_keptPlace m_keptOn m_keptSticks a2 hq_9) rfl hd_X8_standsOn t_706 t_708 ts_10 t_10 t_709 ⟨(Nat.le_of_ble_eq_true rfl), (Nat.le_of_ble_eq_true rfl)⟩ ⟨rfl, rfl⟩ ⟨Nat.zero_le _, Nat.zero_le _⟩ (rv_o K 0 rfl rfl) [0, 1, 2, 3, 4, 5, 6, 7, 8, 9, 10, 11, 12, 13, 14, 15, 16, 17] [] [0, 1, 2, 3, 4, 5, 6, 7, 8, 9, 10, 11, 12, 13, 14, 15, 16, 17] rfl rfl rfl rfl (by decide) rfl rfl rfl rfl (Nat.le_of_ble_eq_true rfl) dX8_ball_31 ?_
        refine s_iconst K dX8_ball_34 kic_m1 ?_
        refine s_icmp_eq (tgt := 41) K dX8_ball_35 (by decide) (fun c_10 => ?_) (fun c_10 => ?_)
        · refine s_aload_n K dX8_ball_41 rfl 0 rfl ?_
          refine s_get K 0 rfl rfl inT8 6 (Nat.le_of_ble_eq_true rfl) t_559 rfl rfl dX8_ball_42 ?_
          refine s_iconst K dX8_ball_45 kic_4 ?_
          refine s_icmp_ne (tgt := 52) K dX8_ball_46 (by decide) (fun c_11 => ?_) (fun c_11 => ?_)
          · refine s_bipush K dX8_ball_49 kib_m104 ?_
            exact s_iret K hret hlk rfl rfl dX8_ball_51
          · refine s_aload_n K dX8_ball_52 rfl 0 rfl ?_
            refine s_aload_n K dX8_ball_53 rfl 0 rfl ?_
            refine s_get K 0 rfl rfl inT8 6 (Nat.le_of_ble_eq_true rfl) t_559 rfl rfl dX8_ball_54 ?_
            refine s_iload_n K dX8_ball_57 rfl 1 rfl ?_
            refine s_iload_n K dX8_ball_58 rfl 2 rfl ?_
            refine s_bind (fun q hq_17 => ?_)
            obtain ⟨m_kindOf_12, m_sizeOf_13, m_placeOf_14, m_onOf_15, m_sticksOf_16⟩ := q
            refine s_callV (w' := (wM cI cC cB cQ kc mh q_depthOf q_kindOf q_sizeOf q_placeOf q_onOf q_sticksOf q_page q_savedDepth q_gameSize q_gamePlace q_gameSticks q_gameDepth q_keptDepth q_keptSize q_keptPlace q_keptOn q_keptSticks m_isLawn m_lawns m_wetness m_strength m_days m_balls m_asks m_books m_pageLength m_faultAt m_savedSize m_savedPlace m_savedSticks m_bestSize m_bestFirst m_seedNow m_isKept m_keptLawn m_keptBalls m_keptStrength m_keptDays m_h m_depthOf m_kindOf_12 m_sizeOf_13 m_placeOf_14 m_onOf_15 m_sticksOf_16 m_page m_savedDepth m_gameSize m_gamePlace m_gameSticks m_gameDepth m_keptDepth m_keptSize m_keptPlace m_keptOn m_keptSticks)) (rest := []) (st1 := []) K (c_X8_lay mh q_depthOf q_kindOf q_sizeOf q_placeOf q_onOf q_sticksOf q_page q_savedDepth q_gameSize q_gamePlace q_gameSticks q_gameDepth q_keptDepth q_keptSize q_keptPlace q_keptOn q_keptSticks m_isLawn m_lawns m_wetness m_strength m_days m_balls m_asks m_books m_pageLength m_faultAt m_savedSize m_savedPlace m_savedSticks m_bestSize m_bestFirst m_seedNow m_isKept m_keptLawn m_keptBalls m_keptStrength m_keptDays m_h m_depthOf m_kindOf m_sizeOf m_placeOf m_onOf m_sticksOf m_page m_savedDepth m_gameSize m_gamePlace m_gameSticks m_gameDepth m_keptDepth m_keptSize m_keptPlace m_keptOn m_keptSticks m_balls a1 a2 hq_17) rfl hd_X8_lay t_725 t_727 ts_12 t_10 t_728 ⟨(Nat.le_of_ble_eq_true rfl), (Nat.le_of_ble_eq_true rfl)⟩ ⟨rfl, rfl⟩ ⟨Nat.zero_le _, Nat.zero_le _⟩ (rv_o K 0 rfl rfl) [0, 1, 2, 3, 4, 5, 6, 7, 8, 9, 10, 11, 12, 13, 14, 15, 16, 17] [] [0, 1, 2, 3, 4, 5, 6, 7, 8, 9, 10, 11, 12, 13, 14, 15, 16, 17] rfl rfl rfl rfl (by decide) rfl rfl rfl rfl (Nat.le_of_ble_eq_true rfl) dX8_ball_59 ?_
            refine s_aload_n K dX8_ball_62 rfl 0 rfl ?_
            refine s_dup K dX8_ball_63 rfl ?_
            refine s_get K 0 rfl rfl inT8 6 (Nat.le_of_ble_eq_true rfl) t_559 rfl rfl dX8_ball_64 ?_
            refine s_iconst K dX8_ball_67 kic_1 ?_
            refine s_iadd K dX8_ball_68 ?_
            refine s_put (w' := (wM cI cC cB cQ kc mh q_depthOf q_kindOf q_sizeOf q_placeOf q_onOf q_sticksOf q_page q_savedDepth q_gameSize q_gamePlace q_gameSticks q_gameDepth q_keptDepth q_keptSize q_keptPlace q_keptOn q_keptSticks m_isLawn m_lawns m_wetness m_strength m_days (m_balls + 1) m_asks m_books m_pageLength m_faultAt m_savedSize m_savedPlace m_savedSticks m_bestSize m_bestFirst m_seedNow m_isKept m_keptLawn m_keptBalls m_keptStrength m_keptDays m_h m_depthOf m_kindOf_12 m_sizeOf_13 m_placeOf_14 m_onOf_15 m_sticksOf_16 m_page m_savedDepth m_gameSize m_gamePlace m_gameSticks m_gameDepth m_keptDepth m_keptSize m_keptPlace m_keptOn m_keptSticks)) K 0 rfl rfl inT8 tyX8_ok nmX8 6 (Nat.le_of_ble_eq_true rfl) t_559 rfl rfl rfl rfl (Nat.le_of_ble_eq_true rfl) rfl dX8_ball_69 ?_
            refine s_aload_n K dX8_ball_72 rfl 0 rfl ?_
            refine s_get K 0 rfl rfl inT8 6 (Nat.le_of_ble_eq_true rfl) t_559 rfl rfl dX8_ball_73 ?_
            refine s_iconst K dX8_ball_76 kic_1 ?_
            refine s_isub K dX8_ball_77 ?_
            exact s_iret K hret hlk rfl rfl dX8_ball_78
        · refine s_bipush K dX8_ball_38 kib_m103 ?_
          exact s_iret K hret hlk rfl rfl dX8_ball_40
set_option maxHeartbeats 4000000 in
set_option maxRecDepth 100000 in
theorem c_X8_weighs {l : Launch} {D : va_G} {cI cC cB cQ : ClassId} {kc : Nat → Nat} {kt : Nat} (mh q_depthOf q_kindOf q_sizeOf q_placeOf q_onOf q_sticksOf q_page q_savedDepth q_gameSize q_gamePlace q_gameSticks q_gameDepth q_keptDepth q_keptSize q_keptPlace q_keptOn q_keptSticks : Nat) (m_isLawn m_lawns m_wetness m_strength m_days m_balls m_asks m_books m_pageLength m_faultAt m_savedSize m_savedPlace m_savedSticks m_bestSize m_bestFirst : Int32) (m_seedNow : Int64) (m_isKept m_keptLawn m_keptBalls m_keptStrength m_keptDays : Int32) (m_h : Int64) (m_depthOf m_kindOf m_sizeOf m_placeOf m_onOf m_sticksOf m_page m_savedDepth m_gameSize m_gamePlace m_gameSticks m_gameDepth m_keptDepth m_keptSize m_keptPlace m_keptOn m_keptSticks : Nat → Int32) (a1 : Int32) {r : Int32} (hF : f_X8_weighs m_kindOf m_sizeOf a1 = some r) : CT l D (tysOf cI cC cB cQ) kc kt yX8_weighs cX8_weighs 2 (some .int) ({ frames := 1, cells := 0, slots := 0, locals := 40 } : Room) [.ref mh, .int a1] (wM cI cC cB cQ kc mh q_depthOf q_kindOf q_sizeOf q_placeOf q_onOf q_sticksOf q_page q_savedDepth q_gameSize q_gamePlace q_gameSticks q_gameDepth q_keptDepth q_keptSize q_keptPlace q_keptOn q_keptSticks m_isLawn m_lawns m_wetness m_strength m_days m_balls m_asks m_books m_pageLength m_faultAt m_savedSize m_savedPlace m_savedSticks m_bestSize m_bestFirst m_seedNow m_isKept m_keptLawn m_keptBalls m_keptStrength m_keptDays m_h m_depthOf m_kindOf m_sizeOf m_placeOf m_onOf m_sticksOf m_page m_savedDepth m_gameSize m_gamePlace m_gameSticks m_gameDepth m_keptDepth m_keptSize m_keptPlace m_keptOn m_keptSticks) ((fun (r : Int32) => (wM cI cC cB cQ kc mh q_depthOf q_kindOf q_sizeOf q_placeOf q_onOf q_sticksOf q_page q_savedDepth q_gameSize q_gamePlace q_gameSticks q_gameDepth q_keptDepth q_keptSize q_keptPlace q_keptOn q_keptSticks m_isLawn m_lawns m_wetness m_strength m_days m_balls m_asks m_books m_pageLength m_faultAt m_savedSize m_savedPlace m_savedSticks m_bestSize m_bestFirst m_seedNow m_isKept m_keptLawn m_keptBalls m_keptStrength m_keptDays m_h m_depthOf m_kindOf m_sizeOf m_placeOf m_onOf m_sticksOf m_page m_savedDepth m_gameSize m_gamePlace m_gameSticks m_gameDepth m_keptDepth m_keptSize m_keptPlace m_keptOn m_keptSticks)) r) ((fun (r : Int32) => some (.int r)) r) := by
  refine CT.of (ww := (fun (r : Int32) => (wM cI cC cB cQ kc mh q_depthOf q_kindOf q_sizeOf q_placeOf q_onOf q_sticksOf q_page q_savedDepth q_gameSize q_gamePlace q_gameSticks q_gameDepth q_keptDepth q_keptSize q_keptPlace q_keptOn q_keptSticks m_isLawn m_lawns m_wetness m_strength m_days m_balls m_asks m_books m_pageLength m_faultAt m_savedSize m_savedPlace m_savedSticks m_bestSize m_bestFirst m_seedNow m_isKept m_keptLawn m_keptBalls m_keptStrength m_keptDays m_h m_depthOf m_kindOf m_sizeOf m_placeOf m_onOf m_sticksOf m_page m_savedDepth m_gameSize m_gamePlace m_gameSticks m_gameDepth m_keptDepth m_keptSize m_keptPlace m_keptOn m_keptSticks))) (oo := (fun (r : Int32) => some (.int r))) hF RX8 rfl rfl (Nat.le_of_ble_eq_true rfl) ?_
  intro p e s m args below meth c A K hret hlk
  rewrite [f_X8_weighs]
  refine s_aload_n K dX8_weighs_0 rfl 0 rfl ?_
  refine s_get K 0 rfl rfl inT8 7 (Nat.le_of_ble_eq_true rfl) t_560 rfl rfl dX8_weighs_1 ?_
  refine s_iload_n K dX8_weighs_4 rfl 1 rfl ?_
  refine s_ck (fun ho_1 => ?_)
  refine s_iald K 2 0 rfl rfl (ok_in ho_1) rfl dX8_weighs_5 ?_
  refine s_iconst K dX8_weighs_6 kic_3 ?_
  refine s_icmp_eq (tgt := 20) K dX8_weighs_7 (by decide) (fun c_2 => ?_) (fun c_2 => ?_)
  · refine s_iconst K dX8_weighs_20 kic_2 ?_
    refine s_aload_n K dX8_weighs_21 rfl 0 rfl ?_
    refine s_get K 0 rfl rfl inT8 8 (Nat.le_of_ble_eq_true rfl) t_561 rfl rfl dX8_weighs_22 ?_
    refine s_iload_n K dX8_weighs_25 rfl 1 rfl ?_
    refine s_iald K 3 0 rfl rfl (ok_in ho_1) rfl dX8_weighs_26 ?_
    refine s_imul K dX8_weighs_27 ?_
    refine s_goto (tgt := 37) K dX8_weighs_28 (by decide) ?_
    exact s_iret K hret hlk rfl rfl dX8_weighs_37
  · refine s_aload_n K dX8_weighs_10 rfl 0 rfl ?_
    refine s_get K 0 rfl rfl inT8 7 (Nat.le_of_ble_eq_true rfl) t_560 rfl rfl dX8_weighs_11 ?_
    refine s_iload_n K dX8_weighs_14 rfl 1 rfl ?_
    refine s_iald K 2 0 rfl rfl (ok_in ho_1) rfl dX8_weighs_15 ?_
    refine s_iconst K dX8_weighs_16 kic_4 ?_
    refine s_icmp_ne (tgt := 31) K dX8_weighs_17 (by decide) (fun c_3 => ?_) (fun c_3 => ?_)
    · refine s_iconst K dX8_weighs_20 kic_2 ?_
      refine s_aload_n K dX8_weighs_21 rfl 0 rfl ?_
      refine s_get K 0 rfl rfl inT8 8 (Nat.le_of_ble_eq_true rfl) t_561 rfl rfl dX8_weighs_22 ?_
      refine s_iload_n K dX8_weighs_25 rfl 1 rfl ?_
      refine s_iald K 3 0 rfl rfl (ok_in ho_1) rfl dX8_weighs_26 ?_
      refine s_imul K dX8_weighs_27 ?_
      refine s_goto (tgt := 37) K dX8_weighs_28 (by decide) ?_
      exact s_iret K hret hlk rfl rfl dX8_weighs_37
    · refine s_aload_n K dX8_weighs_31 rfl 0 rfl ?_
      refine s_get K 0 rfl rfl inT8 8 (Nat.le_of_ble_eq_true rfl) t_561 rfl rfl dX8_weighs_32 ?_
      refine s_iload_n K dX8_weighs_35 rfl 1 rfl ?_
      refine s_iald K 3 0 rfl rfl (ok_in ho_1) rfl dX8_weighs_36 ?_
      exact s_iret K hret hlk rfl rfl dX8_weighs_37
set_option maxHeartbeats 4000000 in
set_option maxRecDepth 100000 in
theorem c_X8_breadth {l : Launch} {D : va_G} {cI cC cB cQ : ClassId} {kc : Nat → Nat} {kt : Nat} (mh q_depthOf q_kindOf q_sizeOf q_placeOf q_onOf q_sticksOf q_page q_savedDepth q_gameSize q_gamePlace q_gameSticks q_gameDepth q_keptDepth q_keptSize q_keptPlace q_keptOn q_keptSticks : Nat) (m_isLawn m_lawns m_wetness m_strength m_days m_balls m_asks m_books m_pageLength m_faultAt m_savedSize m_savedPlace m_savedSticks m_bestSize m_bestFirst : Int32) (m_seedNow : Int64) (m_isKept m_keptLawn m_keptBalls m_keptStrength m_keptDays : Int32) (m_h : Int64) (m_depthOf m_kindOf m_sizeOf m_placeOf m_onOf m_sticksOf m_page m_savedDepth m_gameSize m_gamePlace m_gameSticks m_gameDepth m_keptDepth m_keptSize m_keptPlace m_keptOn m_keptSticks : Nat → Int32) (a1 : Int32) {r : Int32} (hF : f_X8_breadth m_kindOf m_sizeOf a1 = some r) : CT l D (tysOf cI cC cB cQ) kc kt yX8_breadth cX8_breadth 2 (some .int) ({ frames := 1, cells := 0, slots := 0, locals := 40 } : Room) [.ref mh, .int a1] (wM cI cC cB cQ kc mh q_depthOf q_kindOf q_sizeOf q_placeOf q_onOf q_sticksOf q_page q_savedDepth q_gameSize q_gamePlace q_gameSticks q_gameDepth q_keptDepth q_keptSize q_keptPlace q_keptOn q_keptSticks m_isLawn m_lawns m_wetness m_strength m_days m_balls m_asks m_books m_pageLength m_faultAt m_savedSize m_savedPlace m_savedSticks m_bestSize m_bestFirst m_seedNow m_isKept m_keptLawn m_keptBalls m_keptStrength m_keptDays m_h m_depthOf m_kindOf m_sizeOf m_placeOf m_onOf m_sticksOf m_page m_savedDepth m_gameSize m_gamePlace m_gameSticks m_gameDepth m_keptDepth m_keptSize m_keptPlace m_keptOn m_keptSticks) ((fun (r : Int32) => (wM cI cC cB cQ kc mh q_depthOf q_kindOf q_sizeOf q_placeOf q_onOf q_sticksOf q_page q_savedDepth q_gameSize q_gamePlace q_gameSticks q_gameDepth q_keptDepth q_keptSize q_keptPlace q_keptOn q_keptSticks m_isLawn m_lawns m_wetness m_strength m_days m_balls m_asks m_books m_pageLength m_faultAt m_savedSize m_savedPlace m_savedSticks m_bestSize m_bestFirst m_seedNow m_isKept m_keptLawn m_keptBalls m_keptStrength m_keptDays m_h m_depthOf m_kindOf m_sizeOf m_placeOf m_onOf m_sticksOf m_page m_savedDepth m_gameSize m_gamePlace m_gameSticks m_gameDepth m_keptDepth m_keptSize m_keptPlace m_keptOn m_keptSticks)) r) ((fun (r : Int32) => some (.int r)) r) := by
  refine CT.of (ww := (fun (r : Int32) => (wM cI cC cB cQ kc mh q_depthOf q_kindOf q_sizeOf q_placeOf q_onOf q_sticksOf q_page q_savedDepth q_gameSize q_gamePlace q_gameSticks q_gameDepth q_keptDepth q_keptSize q_keptPlace q_keptOn q_keptSticks m_isLawn m_lawns m_wetness m_strength m_days m_balls m_asks m_books m_pageLength m_faultAt m_savedSize m_savedPlace m_savedSticks m_bestSize m_bestFirst m_seedNow m_isKept m_keptLawn m_keptBalls m_keptStrength m_keptDays m_h m_depthOf m_kindOf m_sizeOf m_placeOf m_onOf m_sticksOf m_page m_savedDepth m_gameSize m_gamePlace m_gameSticks m_gameDepth m_keptDepth m_keptSize m_keptPlace m_keptOn m_keptSticks))) (oo := (fun (r : Int32) => some (.int r))) hF RX8 rfl rfl (Nat.le_of_ble_eq_true rfl) ?_
  intro p e s m args below meth c A K hret hlk
  rewrite [f_X8_breadth]
  refine s_iconst K dX8_breadth_0 kic_1 ?_
  refine s_aload_n K dX8_breadth_1 rfl 0 rfl ?_
  refine s_get K 0 rfl rfl inT8 8 (Nat.le_of_ble_eq_true rfl) t_561 rfl rfl dX8_breadth_2 ?_
  refine s_iload_n K dX8_breadth_5 rfl 1 rfl ?_
  refine s_ck (fun ho_1 => ?_)
  refine s_iald K 3 0 rfl rfl (ok_in ho_1) rfl dX8_breadth_6 ?_
  refine s_bipush K dX8_breadth_7 kib_8 ?_
  refine s_idiv K dX8_breadth_9 knz_8 ?_
  refine s_iadd K dX8_breadth_10 ?_
  refine s_aload_n K dX8_breadth_11 rfl 0 rfl ?_
  refine s_get K 0 rfl rfl inT8 7 (Nat.le_of_ble_eq_true rfl) t_560 rfl rfl dX8_breadth_12 ?_
  refine s_iload_n K dX8_breadth_15 rfl 1 rfl ?_
  refine s_iald K 2 0 rfl rfl (ok_in ho_1) rfl dX8_breadth_16 ?_
  refine s_iconst K dX8_breadth_17 kic_1 ?_
  refine s_icmp_ne (tgt := 25) K dX8_breadth_18 (by decide) (fun c_2 => ?_) (fun c_2 => ?_)
  · refine s_iconst K dX8_breadth_21 kic_1 ?_
    refine s_goto (tgt := 26) K dX8_breadth_22 (by decide) ?_
    refine s_iadd K dX8_breadth_26 ?_
    exact s_iret K hret hlk rfl rfl dX8_breadth_27
  · refine s_iconst K dX8_breadth_25 kic_0 ?_
    refine s_iadd K dX8_breadth_26 ?_
    exact s_iret K hret hlk rfl rfl dX8_breadth_27
set_option maxHeartbeats 4000000 in
set_option maxRecDepth 100000 in
theorem c_X8_ballNow {l : Launch} {D : va_G} {cI cC cB cQ : ClassId} {kc : Nat → Nat} {kt : Nat} (mh q_depthOf q_kindOf q_sizeOf q_placeOf q_onOf q_sticksOf q_page q_savedDepth q_gameSize q_gamePlace q_gameSticks q_gameDepth q_keptDepth q_keptSize q_keptPlace q_keptOn q_keptSticks : Nat) (m_isLawn m_lawns m_wetness m_strength m_days m_balls m_asks m_books m_pageLength m_faultAt m_savedSize m_savedPlace m_savedSticks m_bestSize m_bestFirst : Int32) (m_seedNow : Int64) (m_isKept m_keptLawn m_keptBalls m_keptStrength m_keptDays : Int32) (m_h : Int64) (m_depthOf m_kindOf m_sizeOf m_placeOf m_onOf m_sticksOf m_page m_savedDepth m_gameSize m_gamePlace m_gameSticks m_gameDepth m_keptDepth m_keptSize m_keptPlace m_keptOn m_keptSticks : Nat → Int32) (a1 a2 : Int32) {r : Int32} (hF : f_X8_ballNow m_kindOf m_sizeOf m_placeOf m_onOf m_sticksOf a1 a2 = some r) : CT l D (tysOf cI cC cB cQ) kc kt yX8_ballNow cX8_ballNow 3 (some .int) ({ frames := 2, cells := 0, slots := 0, locals := 101 } : Room) [.ref mh, .int a1, .int a2] (wM cI cC cB cQ kc mh q_depthOf q_kindOf q_sizeOf q_placeOf q_onOf q_sticksOf q_page q_savedDepth q_gameSize q_gamePlace q_gameSticks q_gameDepth q_keptDepth q_keptSize q_keptPlace q_keptOn q_keptSticks m_isLawn m_lawns m_wetness m_strength m_days m_balls m_asks m_books m_pageLength m_faultAt m_savedSize m_savedPlace m_savedSticks m_bestSize m_bestFirst m_seedNow m_isKept m_keptLawn m_keptBalls m_keptStrength m_keptDays m_h m_depthOf m_kindOf m_sizeOf m_placeOf m_onOf m_sticksOf m_page m_savedDepth m_gameSize m_gamePlace m_gameSticks m_gameDepth m_keptDepth m_keptSize m_keptPlace m_keptOn m_keptSticks) ((fun (r : Int32) => (wM cI cC cB cQ kc mh q_depthOf q_kindOf q_sizeOf q_placeOf q_onOf q_sticksOf q_page q_savedDepth q_gameSize q_gamePlace q_gameSticks q_gameDepth q_keptDepth q_keptSize q_keptPlace q_keptOn q_keptSticks m_isLawn m_lawns m_wetness m_strength m_days m_balls m_asks m_books m_pageLength m_faultAt m_savedSize m_savedPlace m_savedSticks m_bestSize m_bestFirst m_seedNow m_isKept m_keptLawn m_keptBalls m_keptStrength m_keptDays m_h m_depthOf m_kindOf m_sizeOf m_placeOf m_onOf m_sticksOf m_page m_savedDepth m_gameSize m_gamePlace m_gameSticks m_gameDepth m_keptDepth m_keptSize m_keptPlace m_keptOn m_keptSticks)) r) ((fun (r : Int32) => some (.int r)) r) := by
  refine CT.of (ww := (fun (r : Int32) => (wM cI cC cB cQ kc mh q_depthOf q_kindOf q_sizeOf q_placeOf q_onOf q_sticksOf q_page q_savedDepth q_gameSize q_gamePlace q_gameSticks q_gameDepth q_keptDepth q_keptSize q_keptPlace q_keptOn q_keptSticks m_isLawn m_lawns m_wetness m_strength m_days m_balls m_asks m_books m_pageLength m_faultAt m_savedSize m_savedPlace m_savedSticks m_bestSize m_bestFirst m_seedNow m_isKept m_keptLawn m_keptBalls m_keptStrength m_keptDays m_h m_depthOf m_kindOf m_sizeOf m_placeOf m_onOf m_sticksOf m_page m_savedDepth m_gameSize m_gamePlace m_gameSticks m_gameDepth m_keptDepth m_keptSize m_keptPlace m_keptOn m_keptSticks))) (oo := (fun (r : Int32) => some (.int r))) hF RX8 rfl rfl (Nat.le_of_ble_eq_true rfl) ?_
  intro p e s m args below meth c A K hret hlk
  rewrite [f_X8_ballNow]
  refine s_iload_n K dX8_ballNow_0 rfl 2 rfl ?_
  refine s_ite (fun c_1 => ?_) (fun c_1 => ?_)
  · refine s_swIn K (0) 40 dX8_ballNow_1 ⟨by decide, by decide⟩ rfl (by decide) c_1 ?_
    refine s_aload_n K dX8_ballNow_40 rfl 0 rfl ?_
    refine s_get K 0 rfl rfl inT8 7 (Nat.le_of_ble_eq_true rfl) t_560 rfl rfl dX8_ballNow_41 ?_
    refine s_iload_n K dX8_ballNow_44 rfl 1 rfl ?_
    refine s_ck (fun ho_2 => ?_)
    refine s_iald K 2 0 rfl rfl (ok_in ho_2) rfl dX8_ballNow_45 ?_
    exact s_iret K hret hlk rfl rfl dX8_ballNow_46
  · refine s_ite (fun c_3 => ?_) (fun c_3 => ?_)
    · refine s_swIn K (1) 47 dX8_ballNow_1 ⟨by decide, by decide⟩ rfl (by decide) c_3 ?_
      refine s_aload_n K dX8_ballNow_47 rfl 0 rfl ?_
      refine s_get K 0 rfl rfl inT8 8 (Nat.le_of_ble_eq_true rfl) t_561 rfl rfl dX8_ballNow_48 ?_
      refine s_iload_n K dX8_ballNow_51 rfl 1 rfl ?_
      refine s_ck (fun ho_4 => ?_)
      refine s_iald K 3 0 rfl rfl (ok_in ho_4) rfl dX8_ballNow_52 ?_
      exact s_iret K hret hlk rfl rfl dX8_ballNow_53
    · refine s_ite (fun c_5 => ?_) (fun c_5 => ?_)
      · refine s_swIn K (2) 54 dX8_ballNow_1 ⟨by decide, by decide⟩ rfl (by decide) c_5 ?_
        refine s_aload_n K dX8_ballNow_54 rfl 0 rfl ?_
        refine s_get K 0 rfl rfl inT8 9 (Nat.le_of_ble_eq_true rfl) t_562 rfl rfl dX8_ballNow_55 ?_
        refine s_iload_n K dX8_ballNow_58 rfl 1 rfl ?_
        refine s_ck (fun ho_6 => ?_)
        refine s_iald K 4 0 rfl rfl (ok_in ho_6) rfl dX8_ballNow_59 ?_
        exact s_iret K hret hlk rfl rfl dX8_ballNow_60
      · refine s_ite (fun c_7 => ?_) (fun c_7 => ?_)
        · refine s_swIn K (3) 61 dX8_ballNow_1 ⟨by decide, by decide⟩ rfl (by decide) c_7 ?_
          refine s_aload_n K dX8_ballNow_61 rfl 0 rfl ?_
          refine s_get K 0 rfl rfl inT8 10 (Nat.le_of_ble_eq_true rfl) t_563 rfl rfl dX8_ballNow_62 ?_
          refine s_iload_n K dX8_ballNow_65 rfl 1 rfl ?_
          refine s_ck (fun ho_8 => ?_)
          refine s_iald K 5 0 rfl rfl (ok_in ho_8) rfl dX8_ballNow_66 ?_
          exact s_iret K hret hlk rfl rfl dX8_ballNow_67
        · refine s_ite (fun c_9 => ?_) (fun c_9 => ?_)
          · refine s_swIn K (4) 68 dX8_ballNow_1 ⟨by decide, by decide⟩ rfl (by decide) c_9 ?_
            refine s_aload_n K dX8_ballNow_68 rfl 0 rfl ?_
            refine s_iload_n K dX8_ballNow_69 rfl 1 rfl ?_
            refine s_bind (fun q hq_11 => ?_)
            obtain ⟨r_10, rfl⟩ : ∃ z, z = q := ⟨_, rfl⟩
            refine s_callV (w' := (wM cI cC cB cQ kc mh q_depthOf q_kindOf q_sizeOf q_placeOf q_onOf q_sticksOf q_page q_savedDepth q_gameSize q_gamePlace q_gameSticks q_gameDepth q_keptDepth q_keptSize q_keptPlace q_keptOn q_keptSticks m_isLawn m_lawns m_wetness m_strength m_days m_balls m_asks m_books m_pageLength m_faultAt m_savedSize m_savedPlace m_savedSticks m_bestSize m_bestFirst m_seedNow m_isKept m_keptLawn m_keptBalls m_keptStrength m_keptDays m_h m_depthOf m_kindOf m_sizeOf m_placeOf m_onOf m_sticksOf m_page m_savedDepth m_gameSize m_gamePlace m_gameSticks m_gameDepth m_keptDepth m_keptSize m_keptPlace m_keptOn m_keptSticks)) (rest := []) (st1 := [.int r_10]) K (c_X8_weighs mh q_depthOf q_kindOf q_sizeOf q_placeOf q_onOf q_sticksOf q_page q_savedDepth q_gameSize q_gamePlace q_gameSticks q_gameDepth q_keptDepth q_keptSize q_keptPlace q_keptOn q_keptSticks m_isLawn m_lawns m_wetness m_strength m_days m_balls m_asks m_books m_pageLength m_faultAt m_savedSize m_savedPlace m_savedSticks m_bestSize m_bestFirst m_seedNow m_isKept m_keptLawn m_keptBalls m_keptStrength m_keptDays m_h m_depthOf m_kindOf m_sizeOf m_placeOf m_onOf m_sticksOf m_page m_savedDepth m_gameSize m_gamePlace m_gameSticks m_gameDepth m_keptDepth m_keptSize m_keptPlace m_keptOn m_keptSticks a1 hq_11) rfl hd_X8_weighs t_741 t_743 ts_15 t_10 t_744 ⟨(Nat.le_of_ble_eq_true rfl), (Nat.le_of_ble_eq_true rfl)⟩ ⟨rfl, rfl⟩ ⟨Nat.zero_le _, Nat.zero_le _⟩ (rv_o K 0 rfl rfl) [0, 1, 2, 3, 4, 5, 6, 7, 8, 9, 10, 11, 12, 13, 14, 15, 16, 17] [] [0, 1, 2, 3, 4, 5, 6, 7, 8, 9, 10, 11, 12, 13, 14, 15, 16, 17] rfl rfl rfl rfl (by decide) rfl rfl rfl rfl (Nat.le_of_ble_eq_true rfl) dX8_ballNow_70 ?_
            exact s_iret K hret hlk rfl rfl dX8_ballNow_73
          · refine s_ite (fun c_12 => ?_) (fun c_12 => ?_)
            · refine s_swIn K (5) 74 dX8_ballNow_1 ⟨by decide, by decide⟩ rfl (by decide) c_12 ?_
              refine s_aload_n K dX8_ballNow_74 rfl 0 rfl ?_
              refine s_iload_n K dX8_ballNow_75 rfl 1 rfl ?_
              refine s_bind (fun q hq_14 => ?_)
              obtain ⟨r_13, rfl⟩ : ∃ z, z = q := ⟨_, rfl⟩
              refine s_callV (w' := (wM cI cC cB cQ kc mh q_depthOf q_kindOf q_sizeOf q_placeOf q_onOf q_sticksOf q_page q_savedDepth q_gameSize q_gamePlace q_gameSticks q_gameDepth q_keptDepth q_keptSize q_keptPlace q_keptOn q_keptSticks m_isLawn m_lawns m_wetness m_strength m_days m_balls m_asks m_books m_pageLength m_faultAt m_savedSize m_savedPlace m_savedSticks m_bestSize m_bestFirst m_seedNow m_isKept m_keptLawn m_keptBalls m_keptStrength m_keptDays m_h m_depthOf m_kindOf m_sizeOf m_placeOf m_onOf m_sticksOf m_page m_savedDepth m_gameSize m_gamePlace m_gameSticks m_gameDepth m_keptDepth m_keptSize m_keptPlace m_keptOn m_keptSticks)) (rest := []) (st1 := [.int r_13]) K (c_X8_breadth mh q_depthOf q_kindOf q_sizeOf q_placeOf q_onOf q_sticksOf q_page q_savedDepth q_gameSize q_gamePlace q_gameSticks q_gameDepth q_keptDepth q_keptSize q_keptPlace q_keptOn q_keptSticks m_isLawn m_lawns m_wetness m_strength m_days m_balls m_asks m_books m_pageLength m_faultAt m_savedSize m_savedPlace m_savedSticks m_bestSize m_bestFirst m_seedNow m_isKept m_keptLawn m_keptBalls m_keptStrength m_keptDays m_h m_depthOf m_kindOf m_sizeOf m_placeOf m_onOf m_sticksOf m_page m_savedDepth m_gameSize m_gamePlace m_gameSticks m_gameDepth m_keptDepth m_keptSize m_keptPlace m_keptOn m_keptSticks a1 hq_14) rfl hd_X8_breadth t_745 t_747 ts_16 t_10 t_748 ⟨(Nat.le_of_ble_eq_true rfl), (Nat.le_of_ble_eq_true rfl)⟩ ⟨rfl, rfl⟩ ⟨Nat.zero_le _, Nat.zero_le _⟩ (rv_o K 0 rfl rfl) [0, 1, 2, 3, 4, 5, 6, 7, 8, 9, 10, 11, 12, 13, 14, 15, 16, 17] [] [0, 1, 2, 3, 4, 5, 6, 7, 8, 9, 10, 11, 12, 13, 14, 15, 16, 17] rfl rfl rfl rfl (by decide) rfl rfl rfl rfl (Nat.le_of_ble_eq_true rfl) dX8_ballNow_76 ?_
              exact s_iret K hret hlk rfl rfl dX8_ballNow_79
            · refine s_swOut (tgt := 80) K dX8_ballNow_1 (sw_out (n := 5) (by decide) (fun j hj => match j, hj with | 0, _ => c_1 | 1, _ => c_3 | 2, _ => c_5 | 3, _ => c_7 | 4, _ => c_9 | 5, _ => c_12 | j + 6, h => absurd h (by omega))) (by decide) ?_
              refine s_aload_n K dX8_ballNow_80 rfl 0 rfl ?_
              refine s_get K 0 rfl rfl inT8 11 (Nat.le_of_ble_eq_true rfl) t_564 rfl rfl dX8_ballNow_81 ?_
              refine s_iload_n K dX8_ballNow_84 rfl 1 rfl ?_
              refine s_ck (fun ho_15 => ?_)
              refine s_iald K 6 0 rfl rfl (ok_in ho_15) rfl dX8_ballNow_85 ?_
              exact s_iret K hret hlk rfl rfl dX8_ballNow_86
set_option maxHeartbeats 4000000 in
set_option maxRecDepth 100000 in
theorem c_X8_about {l : Launch} {D : va_G} {cI cC cB cQ : ClassId} {kc : Nat → Nat} {kt : Nat} (mh q_depthOf q_kindOf q_sizeOf q_placeOf q_onOf q_sticksOf q_page q_savedDepth q_gameSize q_gamePlace q_gameSticks q_gameDepth q_keptDepth q_keptSize q_keptPlace q_keptOn q_keptSticks : Nat) (m_isLawn m_lawns m_wetness m_strength m_days m_balls m_asks m_books m_pageLength m_faultAt m_savedSize m_savedPlace m_savedSticks m_bestSize m_bestFirst : Int32) (m_seedNow : Int64) (m_isKept m_keptLawn m_keptBalls m_keptStrength m_keptDays : Int32) (m_h : Int64) (m_depthOf m_kindOf m_sizeOf m_placeOf m_onOf m_sticksOf m_page m_savedDepth m_gameSize m_gamePlace m_gameSticks m_gameDepth m_keptDepth m_keptSize m_keptPlace m_keptOn m_keptSticks : Nat → Int32) (a1 a2 : Int32) {r : Int32} (hF : f_X8_about m_balls m_kindOf m_sizeOf m_placeOf m_onOf m_sticksOf a1 a2 = some r) : CT l D (tysOf cI cC cB cQ) kc kt yX8_about cX8_about 3 (some .int) ({ frames := 3, cells := 0, slots := 0, locals := 163 } : Room) [.ref mh, .int a1, .int a2] (wM cI cC cB cQ kc mh q_depthOf q_kindOf q_sizeOf q_placeOf q_onOf q_sticksOf q_page q_savedDepth q_gameSize q_gamePlace q_gameSticks q_gameDepth q_keptDepth q_keptSize q_keptPlace q_keptOn q_keptSticks m_isLawn m_lawns m_wetness m_strength m_days m_balls m_asks m_books m_pageLength m_faultAt m_savedSize m_savedPlace m_savedSticks m_bestSize m_bestFirst m_seedNow m_isKept m_keptLawn m_keptBalls m_keptStrength m_keptDays m_h m_depthOf m_kindOf m_sizeOf m_placeOf m_onOf m_sticksOf m_page m_savedDepth m_gameSize m_gamePlace m_gameSticks m_gameDepth m_keptDepth m_keptSize m_keptPlace m_keptOn m_keptSticks) ((fun (r : Int32) => (wM cI cC cB cQ kc mh q_depthOf q_kindOf q_sizeOf q_placeOf q_onOf q_sticksOf q_page q_savedDepth q_gameSize q_gamePlace q_gameSticks q_gameDepth q_keptDepth q_keptSize q_keptPlace q_keptOn q_keptSticks m_isLawn m_lawns m_wetness m_strength m_days m_balls m_asks m_books m_pageLength m_faultAt m_savedSize m_savedPlace m_savedSticks m_bestSize m_bestFirst m_seedNow m_isKept m_keptLawn m_keptBalls m_keptStrength m_keptDays m_h m_depthOf m_kindOf m_sizeOf m_placeOf m_onOf m_sticksOf m_page m_savedDepth m_gameSize m_gamePlace m_gameSticks m_gameDepth m_keptDepth m_keptSize m_keptPlace m_keptOn m_keptSticks)) r) ((fun (r : Int32) => some (.int r)) r) := by
  refine CT.of (ww := (fun (r : Int32) => (wM cI cC cB cQ kc mh q_depthOf q_kindOf q_sizeOf q_placeOf q_onOf q_sticksOf q_page q_savedDepth q_gameSize q_gamePlace q_gameSticks q_gameDepth q_keptDepth q_keptSize q_keptPlace q_keptOn q_keptSticks m_isLawn m_lawns m_wetness m_strength m_days m_balls m_asks m_books m_pageLength m_faultAt m_savedSize m_savedPlace m_savedSticks m_bestSize m_bestFirst m_seedNow m_isKept m_keptLawn m_keptBalls m_keptStrength m_keptDays m_h m_depthOf m_kindOf m_sizeOf m_placeOf m_onOf m_sticksOf m_page m_savedDepth m_gameSize m_gamePlace m_gameSticks m_gameDepth m_keptDepth m_keptSize m_keptPlace m_keptOn m_keptSticks))) (oo := (fun (r : Int32) => some (.int r))) hF RX8 rfl rfl (Nat.le_of_ble_eq_true rfl) ?_
  intro p e s m args below meth c A K hret hlk
  rewrite [f_X8_about]
  refine s_aload_n K dX8_about_0 rfl 0 rfl ?_
  refine s_iload_n K dX8_about_1 rfl 1 rfl ?_
  refine s_bind (fun q hq_2 => ?_)
  obtain ⟨r_1, rfl⟩ : ∃ z, z = q := ⟨_, rfl⟩
  refine s_callV (w' := (wM cI cC cB cQ kc mh q_depthOf q_kindOf q_sizeOf q_placeOf q_onOf q_sticksOf q_page q_savedDepth q_gameSize q_gamePlace q_gameSticks q_gameDepth q_keptDepth q_keptSize q_keptPlace q_keptOn q_keptSticks m_isLawn m_lawns m_wetness m_strength m_days m_balls m_asks m_books m_pageLength m_faultAt m_savedSize m_savedPlace m_savedSticks m_bestSize m_bestFirst m_seedNow m_isKept m_keptLawn m_keptBalls m_keptStrength m_keptDays m_h m_depthOf m_kindOf m_sizeOf m_placeOf m_onOf m_sticksOf m_page m_savedDepth m_gameSize m_gamePlace m_gameSticks m_gameDepth m_keptDepth m_keptSize m_keptPlace m_keptOn m_keptSticks)) (rest := []) (st1 := [.int r_1]) K (c_X8_isBall mh q_depthOf q_kindOf q_sizeOf q_placeOf q_onOf q_sticksOf q_page q_savedDepth q_gameSize q_gamePlace q_gameSticks q_gameDepth q_keptDepth q_keptSize q_keptPlace q_keptOn q_keptSticks m_isLawn m_lawns m_wetness m_strength m_days m_balls m_asks m_books m_pageLength m_faultAt m_savedSize m_savedPlace m_savedSticks m_bestSize m_bestFirst m_seedNow m_isKept m_keptLawn m_keptBalls m_keptStrength m_keptDays m_h m_depthOf m_kindOf m_sizeOf m_placeOf m_onOf m_sticksOf m_page m_savedDepth m_gameSize m_gamePlace m_gameSticks m_gameDepth m_keptDepth m_keptSize m_keptPlace m_keptOn m_keptSticks a1 hq_2) rfl hd_X8_isBall t_733 t_735 ts_13 t_10 t_736 ⟨(Nat.le_of_ble_eq_true rfl), (Nat.le_of_ble_eq_true rfl)⟩ ⟨rfl, rfl⟩ ⟨Nat.zero_le _, Nat.zero_le _⟩ (rv_o K 0 rfl rfl) [0, 1, 2, 3, 4, 5, 6, 7, 8, 9, 10, 11, 12, 13, 14, 15, 16, 17] [] [0, 1, 2, 3, 4, 5, 6, 7, 8, 9, 10, 11, 12, 13, 14, 15, 16, 17] rfl rfl rfl rfl (by decide) rfl rfl rfl rfl (Nat.le_of_ble_eq_true rfl) dX8_about_2 ?_
  refine s_if_ne (tgt := 13) K dX8_about_5 (by decide) (fun c_3 => ?_) (fun c_3 => ?_)
  · refine s_bipush K dX8_about_8 kib_m101 ?_
    refine s_goto (tgt := 34) K dX8_about_10 (by decide) ?_
    exact s_iret K hret hlk rfl rfl dX8_about_34
  · refine s_iload_n K dX8_about_13 rfl 2 rfl ?_
    refine s_iconst K dX8_about_14 kic_0 ?_
    refine s_bipush K dX8_about_15 kib_6 ?_
    refine s_bind (fun q hq_5 => ?_)
    obtain ⟨r_4, rfl⟩ : ∃ z, z = q := ⟨_, rfl⟩
    refine s_callS0 (rest := []) (st1 := [.int r_4]) K (c_X8_within a2 0 6 hq_5) hd_X8_within t_676 t_677 t_10 t_678 ⟨(Nat.le_of_ble_eq_true rfl), (Nat.le_of_ble_eq_true rfl)⟩ ⟨rfl, rfl⟩ ⟨Nat.zero_le _, Nat.zero_le _⟩ rfl rfl (Nat.le_of_ble_eq_true rfl) dX8_about_17 ?_
    refine s_if_eq (tgt := 32) K dX8_about_20 (by decide) (fun c_6 => ?_) (fun c_6 => ?_)
    · refine s_bipush K dX8_about_32 kib_m102 ?_
      exact s_iret K hret hlk rfl rfl dX8_about_34
    · refine s_aload_n K dX8_about_23 rfl 0 rfl ?_
      refine s_iload_n K dX8_about_24 rfl 1 rfl ?_
      refine s_iload_n K dX8_about_25 rfl 2 rfl ?_
      refine s_bind (fun q hq_8 => ?_)
      obtain ⟨r_7, rfl⟩ : ∃ z, z = q := ⟨_, rfl⟩
      refine s_callV (w' := (wM cI cC cB cQ kc mh q_depthOf q_kindOf q_sizeOf q_placeOf q_onOf q_sticksOf q_page q_savedDepth q_gameSize q_gamePlace q_gameSticks q_gameDepth q_keptDepth q_keptSize q_keptPlace q_keptOn q_keptSticks m_isLawn m_lawns m_wetness m_strength m_days m_balls m_asks m_books m_pageLength m_faultAt m_savedSize m_savedPlace m_savedSticks m_bestSize m_bestFirst m_seedNow m_isKept m_keptLawn m_keptBalls m_keptStrength m_keptDays m_h m_depthOf m_kindOf m_sizeOf m_placeOf m_onOf m_sticksOf m_page m_savedDepth m_gameSize m_gamePlace m_gameSticks m_gameDepth m_keptDepth m_keptSize m_keptPlace m_keptOn m_keptSticks)) (rest := []) (st1 := [.int r_7]) K (c_X8_ballNow mh q_depthOf q_kindOf q_sizeOf q_placeOf q_onOf q_sticksOf q_page q_savedDepth q_gameSize q_gamePlace q_gameSticks q_gameDepth q_keptDepth q_keptSize q_keptPlace q_keptOn q_keptSticks m_isLawn m_lawns m_wetness m_strength m_days m_balls m_asks m_books m_pageLength m_faultAt m_savedSize m_savedPlace m_savedSticks m_bestSize m_bestFirst m_seedNow m_isKept m_keptLawn m_keptBalls m_keptStrength m_keptDays m_h m_depthOf m_kindOf m_sizeOf m_placeOf m_onOf m_sticksOf m_page m_savedDepth m_gameSize m_gamePlace m_gameSticks m_gameDepth m_keptDepth m_keptSize m_keptPlace m_keptOn m_keptSticks a1 a2 hq_8) rfl hd_X8_ballNow t_737 t_739 ts_14 t_10 t_740 ⟨(Nat.le_of_ble_eq_true rfl), (Nat.le_of_ble_eq_true rfl)⟩ ⟨rfl, rfl⟩ ⟨Nat.zero_le _, Nat.zero_le _⟩ (rv_o K 0 rfl rfl) [0, 1, 2, 3, 4, 5, 6, 7, 8, 9, 10, 11, 12, 13, 14, 15, 16, 17] [] [0, 1, 2, 3, 4, 5, 6, 7, 8, 9, 10, 11, 12, 13, 14, 15, 16, 17] rfl rfl rfl rfl (by decide) rfl rfl rfl rfl (Nat.le_of_ble_eq_true rfl) dX8_about_26 ?_
      refine s_goto (tgt := 34) K dX8_about_29 (by decide) ?_
      exact s_iret K hret hlk rfl rfl dX8_about_34
set_option maxHeartbeats 4000000 in
set_option maxRecDepth 100000 in
theorem c_X8_as {l : Launch} {D : va_G} {cI cC cB cQ : ClassId} {kc : Nat → Nat} {kt : Nat} (mh q_depthOf q_kindOf q_sizeOf q_placeOf q_onOf q_sticksOf q_page q_savedDepth q_gameSize q_gamePlace q_gameSticks q_gameDepth q_keptDepth q_keptSize q_keptPlace q_keptOn q_keptSticks : Nat) (m_isLawn m_lawns m_wetness m_strength m_days m_balls m_asks m_books m_pageLength m_faultAt m_savedSize m_savedPlace m_savedSticks m_bestSize m_bestFirst : Int32) (m_seedNow : Int64) (m_isKept m_keptLawn m_keptBalls m_keptStrength m_keptDays : Int32) (m_h : Int64) (m_depthOf m_kindOf m_sizeOf m_placeOf m_onOf m_sticksOf m_page m_savedDepth m_gameSize m_gamePlace m_gameSticks m_gameDepth m_keptDepth m_keptSize m_keptPlace m_keptOn m_keptSticks : Nat → Int32) (a1 a2 : Int32) {r : Int32} (hF : f_X8_as m_balls m_kindOf a1 a2 = some r) : CT l D (tysOf cI cC cB cQ) kc kt yX8_as cX8_as 4 (some .int) ({ frames := 3, cells := 0, slots := 0, locals := 163 } : Room) [.ref mh, .int a1, .int a2] (wM cI cC cB cQ kc mh q_depthOf q_kindOf q_sizeOf q_placeOf q_onOf q_sticksOf q_page q_savedDepth q_gameSize q_gamePlace q_gameSticks q_gameDepth q_keptDepth q_keptSize q_keptPlace q_keptOn q_keptSticks m_isLawn m_lawns m_wetness m_strength m_days m_balls m_asks m_books m_pageLength m_faultAt m_savedSize m_savedPlace m_savedSticks m_bestSize m_bestFirst m_seedNow m_isKept m_keptLawn m_keptBalls m_keptStrength m_keptDays m_h m_depthOf m_kindOf m_sizeOf m_placeOf m_onOf m_sticksOf m_page m_savedDepth m_gameSize m_gamePlace m_gameSticks m_gameDepth m_keptDepth m_keptSize m_keptPlace m_keptOn m_keptSticks) ((fun (r : Int32) => (wM cI cC cB cQ kc mh q_depthOf q_kindOf q_sizeOf q_placeOf q_onOf q_sticksOf q_page q_savedDepth q_gameSize q_gamePlace q_gameSticks q_gameDepth q_keptDepth q_keptSize q_keptPlace q_keptOn q_keptSticks m_isLawn m_lawns m_wetness m_strength m_days m_balls m_asks m_books m_pageLength m_faultAt m_savedSize m_savedPlace m_savedSticks m_bestSize m_bestFirst m_seedNow m_isKept m_keptLawn m_keptBalls m_keptStrength m_keptDays m_h m_depthOf m_kindOf m_sizeOf m_placeOf m_onOf m_sticksOf m_page m_savedDepth m_gameSize m_gamePlace m_gameSticks m_gameDepth m_keptDepth m_keptSize m_keptPlace m_keptOn m_keptSticks)) r) ((fun (r : Int32) => some (.int r)) r) := by
  refine CT.of (ww := (fun (r : Int32) => (wM cI cC cB cQ kc mh q_depthOf q_kindOf q_sizeOf q_placeOf q_onOf q_sticksOf q_page q_savedDepth q_gameSize q_gamePlace q_gameSticks q_gameDepth q_keptDepth q_keptSize q_keptPlace q_keptOn q_keptSticks m_isLawn m_lawns m_wetness m_strength m_days m_balls m_asks m_books m_pageLength m_faultAt m_savedSize m_savedPlace m_savedSticks m_bestSize m_bestFirst m_seedNow m_isKept m_keptLawn m_keptBalls m_keptStrength m_keptDays m_h m_depthOf m_kindOf m_sizeOf m_placeOf m_onOf m_sticksOf m_page m_savedDepth m_gameSize m_gamePlace m_gameSticks m_gameDepth m_keptDepth m_keptSize m_keptPlace m_keptOn m_keptSticks))) (oo := (fun (r : Int32) => some (.int r))) hF RX8 rfl rfl (Nat.le_of_ble_eq_true rfl) ?_
  intro p e s m args below meth c A K hret hlk
  rewrite [f_X8_as]
  refine s_aload_n K dX8_as_0 rfl 0 rfl ?_
  refine s_iload_n K dX8_as_1 rfl 1 rfl ?_
  refine s_bind (fun q hq_2 => ?_)
  obtain ⟨r_1, rfl⟩ : ∃ z, z = q := ⟨_, rfl⟩
  refine s_callV (w' := (wM cI cC cB cQ kc mh q_depthOf q_kindOf q_sizeOf q_placeOf q_onOf q_sticksOf q_page q_savedDepth q_gameSize q_gamePlace q_gameSticks q_gameDepth q_keptDepth q_keptSize q_keptPlace q_keptOn q_keptSticks m_isLawn m_lawns m_wetness m_strength m_days m_balls m_asks m_books m_pageLength m_faultAt m_savedSize m_savedPlace m_savedSticks m_bestSize m_bestFirst m_seedNow m_isKept m_keptLawn m_keptBalls m_keptStrength m_keptDays m_h m_depthOf m_kindOf m_sizeOf m_placeOf m_onOf m_sticksOf m_page m_savedDepth m_gameSize m_gamePlace m_gameSticks m_gameDepth m_keptDepth m_keptSize m_keptPlace m_keptOn m_keptSticks)) (rest := []) (st1 := [.int r_1]) K (c_X8_isBall mh q_depthOf q_kindOf q_sizeOf q_placeOf q_onOf q_sticksOf q_page q_savedDepth q_gameSize q_gamePlace q_gameSticks q_gameDepth q_keptDepth q_keptSize q_keptPlace q_keptOn q_keptSticks m_isLawn m_lawns m_wetness m_strength m_days m_balls m_asks m_books m_pageLength m_faultAt m_savedSize m_savedPlace m_savedSticks m_bestSize m_bestFirst m_seedNow m_isKept m_keptLawn m_keptBalls m_keptStrength m_keptDays m_h m_depthOf m_kindOf m_sizeOf m_placeOf m_onOf m_sticksOf m_page m_savedDepth m_gameSize m_gamePlace m_gameSticks m_gameDepth m_keptDepth m_keptSize m_keptPlace m_keptOn m_keptSticks a1 hq_2) rfl hd_X8_isBall t_733 t_735 ts_13 t_10 t_736 ⟨(Nat.le_of_ble_eq_true rfl), (Nat.le_of_ble_eq_true rfl)⟩ ⟨rfl, rfl⟩ ⟨Nat.zero_le _, Nat.zero_le _⟩ (rv_o K 0 rfl rfl) [0, 1, 2, 3, 4, 5, 6, 7, 8, 9, 10, 11, 12, 13, 14, 15, 16, 17] [] [0, 1, 2, 3, 4, 5, 6, 7, 8, 9, 10, 11, 12, 13, 14, 15, 16, 17] rfl rfl rfl rfl (by decide) rfl rfl rfl rfl (Nat.le_of_ble_eq_true rfl) dX8_as_2 ?_
  refine s_if_ne (tgt := 11) K dX8_as_5 (by decide) (fun c_3 => ?_) (fun c_3 => ?_)
  · refine s_bipush K dX8_as_8 kib_m101 ?_
    exact s_iret K hret hlk rfl rfl dX8_as_10
  · refine s_iload_n K dX8_as_11 rfl 2 rfl ?_
    refine s_iconst K dX8_as_12 kic_0 ?_
    refine s_iconst K dX8_as_13 kic_4 ?_
    refine s_bind (fun q hq_5 => ?_)
    obtain ⟨r_4, rfl⟩ : ∃ z, z = q := ⟨_, rfl⟩
    refine s_callS0 (rest := []) (st1 := [.int r_4]) K (c_X8_within a2 0 4 hq_5) hd_X8_within t_676 t_677 t_10 t_678 ⟨(Nat.le_of_ble_eq_true rfl), (Nat.le_of_ble_eq_true rfl)⟩ ⟨rfl, rfl⟩ ⟨Nat.zero_le _, Nat.zero_le _⟩ rfl rfl (Nat.le_of_ble_eq_true rfl) dX8_as_14 ?_
    refine s_if_ne (tgt := 23) K dX8_as_17 (by decide) (fun c_6 => ?_) (fun c_6 => ?_)
    · refine s_bipush K dX8_as_20 kib_m102 ?_
      exact s_iret K hret hlk rfl rfl dX8_as_22
    · refine s_aload_n K dX8_as_23 rfl 0 rfl ?_
      refine s_get K 0 rfl rfl inT8 7 (Nat.le_of_ble_eq_true rfl) t_560 rfl rfl dX8_as_24 ?_
      refine s_iload_n K dX8_as_27 rfl 1 rfl ?_
      refine s_ck (fun ho_7 => ?_)
      refine s_iald K 2 0 rfl rfl (ok_in ho_7) rfl dX8_as_28 ?_
      refine s_istore_n (lv' := [(3, .int (m_kindOf (Int32.toNatClampNeg a1))), (0, .ref mh), (1, .int a1), (2, .int a2)]) K dX8_as_29 rfl (Nat.le_of_ble_eq_true rfl) rfl ?_
      refine s_iload_n K dX8_as_30 rfl 3 rfl ?_
      refine s_if_eq (tgt := 49) K dX8_as_31 (by decide) (fun c_8 => ?_) (fun c_8 => ?_)
      · refine s_iload_n K dX8_as_49 rfl 2 rfl ?_
        refine s_goto (tgt := 54) K dX8_as_50 (by decide) ?_
        exact s_iret K hret hlk rfl rfl dX8_as_54
      · refine s_iload_n K dX8_as_34 rfl 0 rfl ?_
        refine s_iload_n K dX8_as_35 rfl 3 rfl ?_
        refine s_icmp_eq (tgt := 49) K dX8_as_36 (by decide) (fun c_9 => ?_) (fun c_9 => ?_)
        · refine s_iload_n K dX8_as_49 rfl 2 rfl ?_
          refine s_goto (tgt := 54) K dX8_as_50 (by decide) ?_
          exact s_iret K hret hlk rfl rfl dX8_as_54
        · refine s_iload_n K dX8_as_39 rfl 3 rfl ?_
          refine s_iconst K dX8_as_40 kic_3 ?_
          refine s_icmp_ne (tgt := 53) K dX8_as_41 (by decide) (fun c_10 => ?_) (fun c_10 => ?_)
          · refine s_iload_n K dX8_as_44 rfl 0 rfl ?_
            refine s_iconst K dX8_as_45 kic_4 ?_
            refine s_icmp_ne (tgt := 53) K dX8_as_46 (by decide) (fun c_11 => ?_) (fun c_11 => ?_)
            · refine s_iload_n K dX8_as_49 rfl 2 rfl ?_
              refine s_goto (tgt := 54) K dX8_as_50 (by decide) ?_
              exact s_iret K hret hlk rfl rfl dX8_as_54
            · refine s_iconst K dX8_as_53 kic_m1 ?_
              exact s_iret K hret hlk rfl rfl dX8_as_54
          · refine s_iconst K dX8_as_53 kic_m1 ?_
            exact s_iret K hret hlk rfl rfl dX8_as_54
set_option maxHeartbeats 4000000 in
set_option maxRecDepth 100000 in
theorem c_X8_beside {l : Launch} {D : va_G} {cI cC cB cQ : ClassId} {kc : Nat → Nat} {kt : Nat} (a0 a1 : Int32) {r : Int32} (hF : f_X8_beside a0 a1 = some r) : CT l D (tysOf cI cC cB cQ) kc kt yX8_beside cX8_beside 2 (some .int) ({ frames := 1, cells := 0, slots := 0, locals := 40 } : Room) [.int a0, .int a1] [] ((fun (r : Int32) => []) r) ((fun (r : Int32) => some (.int r)) r) := by
  refine CT.of (ww := (fun (r : Int32) => [])) (oo := (fun (r : Int32) => some (.int r))) hF RX8 rfl rfl (Nat.le_of_ble_eq_true rfl) ?_
  intro p e s m args below meth c A K hret hlk
  rewrite [f_X8_beside]
  refine s_iload_n K dX8_beside_0 rfl 1 rfl ?_
  refine s_ite (fun c_1 => ?_) (fun c_1 => ?_)
  · refine s_swIn K (0) 28 dX8_beside_1 ⟨by decide, by decide⟩ rfl (by decide) c_1 ?_
    refine s_iload_n K dX8_beside_28 rfl 0 rfl ?_
    refine s_iconst K dX8_beside_29 kic_5 ?_
    refine s_icmp_lt (tgt := 39) K dX8_beside_30 (by decide) (fun c_2 => ?_) (fun c_2 => ?_)
    · refine s_iconst K dX8_beside_39 kic_m1 ?_
      exact s_iret K hret hlk rfl rfl dX8_beside_40
    · refine s_iload_n K dX8_beside_33 rfl 0 rfl ?_
      refine s_iconst K dX8_beside_34 kic_5 ?_
      refine s_isub K dX8_beside_35 ?_
      refine s_goto (tgt := 40) K dX8_beside_36 (by decide) ?_
      exact s_iret K hret hlk rfl rfl dX8_beside_40
  · refine s_ite (fun c_3 => ?_) (fun c_3 => ?_)
    · refine s_swIn K (1) 41 dX8_beside_1 ⟨by decide, by decide⟩ rfl (by decide) c_3 ?_
      refine s_iload_n K dX8_beside_41 rfl 0 rfl ?_
      refine s_iconst K dX8_beside_42 kic_5 ?_
      refine s_irem K dX8_beside_43 knz_5 ?_
      refine s_iconst K dX8_beside_44 kic_4 ?_
      refine s_icmp_ge (tgt := 54) K dX8_beside_45 (by decide) (fun c_4 => ?_) (fun c_4 => ?_)
      · refine s_iconst K dX8_beside_54 kic_m1 ?_
        exact s_iret K hret hlk rfl rfl dX8_beside_55
      · refine s_iload_n K dX8_beside_48 rfl 0 rfl ?_
        refine s_iconst K dX8_beside_49 kic_1 ?_
        refine s_iadd K dX8_beside_50 ?_
        refine s_goto (tgt := 55) K dX8_beside_51 (by decide) ?_
        exact s_iret K hret hlk rfl rfl dX8_beside_55
    · refine s_ite (fun c_5 => ?_) (fun c_5 => ?_)
      · refine s_swIn K (2) 56 dX8_beside_1 ⟨by decide, by decide⟩ rfl (by decide) c_5 ?_
        refine s_iload_n K dX8_beside_56 rfl 0 rfl ?_
        refine s_bipush K dX8_beside_57 kib_15 ?_
        refine s_icmp_ge (tgt := 68) K dX8_beside_59 (by decide) (fun c_6 => ?_) (fun c_6 => ?_)
        · refine s_iconst K dX8_beside_68 kic_m1 ?_
          exact s_iret K hret hlk rfl rfl dX8_beside_69
        · refine s_iload_n K dX8_beside_62 rfl 0 rfl ?_
          refine s_iconst K dX8_beside_63 kic_5 ?_
          refine s_iadd K dX8_beside_64 ?_
          refine s_goto (tgt := 69) K dX8_beside_65 (by decide) ?_
          exact s_iret K hret hlk rfl rfl dX8_beside_69
      · refine s_swOut (tgt := 70) K dX8_beside_1 (sw_out (n := 2) (by decide) (fun j hj => match j, hj with | 0, _ => c_1 | 1, _ => c_3 | 2, _ => c_5 | j + 3, h => absurd h (by omega))) (by decide) ?_
        refine s_iload_n K dX8_beside_70 rfl 0 rfl ?_
        refine s_iconst K dX8_beside_71 kic_5 ?_
        refine s_irem K dX8_beside_72 knz_5 ?_
        refine s_if_le (tgt := 82) K dX8_beside_73 (by decide) (fun c_7 => ?_) (fun c_7 => ?_)
        · refine s_iconst K dX8_beside_82 kic_m1 ?_
          exact s_iret K hret hlk rfl rfl dX8_beside_83
        · refine s_iload_n K dX8_beside_76 rfl 0 rfl ?_
          refine s_iconst K dX8_beside_77 kic_1 ?_
          refine s_isub K dX8_beside_78 ?_
          refine s_goto (tgt := 83) K dX8_beside_79 (by decide) ?_
          exact s_iret K hret hlk rfl rfl dX8_beside_83
set_option maxHeartbeats 4000000 in
set_option maxRecDepth 100000 in
theorem c_X8_above {l : Launch} {D : va_G} {cI cC cB cQ : ClassId} {kc : Nat → Nat} {kt : Nat} (mh q_depthOf q_kindOf q_sizeOf q_placeOf q_onOf q_sticksOf q_page q_savedDepth q_gameSize q_gamePlace q_gameSticks q_gameDepth q_keptDepth q_keptSize q_keptPlace q_keptOn q_keptSticks : Nat) (m_isLawn m_lawns m_wetness m_strength m_days m_balls m_asks m_books m_pageLength m_faultAt m_savedSize m_savedPlace m_savedSticks m_bestSize m_bestFirst : Int32) (m_seedNow : Int64) (m_isKept m_keptLawn m_keptBalls m_keptStrength m_keptDays : Int32) (m_h : Int64) (m_depthOf m_kindOf m_sizeOf m_placeOf m_onOf m_sticksOf m_page m_savedDepth m_gameSize m_gamePlace m_gameSticks m_gameDepth m_keptDepth m_keptSize m_keptPlace m_keptOn m_keptSticks : Nat → Int32) (a1 : Int32) {r : Int32} (hF : f_X8_above m_balls m_placeOf m_onOf a1 = some r) : CT l D (tysOf cI cC cB cQ) kc kt yX8_above cX8_above 4 (some .int) ({ frames := 1, cells := 0, slots := 0, locals := 40 } : Room) [.ref mh, .int a1] (wM cI cC cB cQ kc mh q_depthOf q_kindOf q_sizeOf q_placeOf q_onOf q_sticksOf q_page q_savedDepth q_gameSize q_gamePlace q_gameSticks q_gameDepth q_keptDepth q_keptSize q_keptPlace q_keptOn q_keptSticks m_isLawn m_lawns m_wetness m_strength m_days m_balls m_asks m_books m_pageLength m_faultAt m_savedSize m_savedPlace m_savedSticks m_bestSize m_bestFirst m_seedNow m_isKept m_keptLawn m_keptBalls m_keptStrength m_keptDays m_h m_depthOf m_kindOf m_sizeOf m_placeOf m_onOf m_sticksOf m_page m_savedDepth m_gameSize m_gamePlace m_gameSticks m_gameDepth m_keptDepth m_keptSize m_keptPlace m_keptOn m_keptSticks) ((fun (r : Int32) => (wM cI cC cB cQ kc mh q_depthOf q_kindOf q_sizeOf q_placeOf q_onOf q_sticksOf q_page q_savedDepth q_gameSize q_gamePlace q_gameSticks q_gameDepth q_keptDepth q_keptSize q_keptPlace q_keptOn q_keptSticks m_isLawn m_lawns m_wetness m_strength m_days m_balls m_asks m_books m_pageLength m_faultAt m_savedSize m_savedPlace m_savedSticks m_bestSize m_bestFirst m_seedNow m_isKept m_keptLawn m_keptBalls m_keptStrength m_keptDays m_h m_depthOf m_kindOf m_sizeOf m_placeOf m_onOf m_sticksOf m_page m_savedDepth m_gameSize m_gamePlace m_gameSticks m_gameDepth m_keptDepth m_keptSize m_keptPlace m_keptOn m_keptSticks)) r) ((fun (r : Int32) => some (.int r)) r) := by
  refine CT.of (ww := (fun (r : Int32) => (wM cI cC cB cQ kc mh q_depthOf q_kindOf q_sizeOf q_placeOf q_onOf q_sticksOf q_page q_savedDepth q_gameSize q_gamePlace q_gameSticks q_gameDepth q_keptDepth q_keptSize q_keptPlace q_keptOn q_keptSticks m_isLawn m_lawns m_wetness m_strength m_days m_balls m_asks m_books m_pageLength m_faultAt m_savedSize m_savedPlace m_savedSticks m_bestSize m_bestFirst m_seedNow m_isKept m_keptLawn m_keptBalls m_keptStrength m_keptDays m_h m_depthOf m_kindOf m_sizeOf m_placeOf m_onOf m_sticksOf m_page m_savedDepth m_gameSize m_gamePlace m_gameSticks m_gameDepth m_keptDepth m_keptSize m_keptPlace m_keptOn m_keptSticks))) (oo := (fun (r : Int32) => some (.int r))) hF RX8 rfl rfl (Nat.le_of_ble_eq_true rfl) ?_
  intro p e s m args below meth c A K hret hlk
  have L4 : ∀ (fu : Nat) (x2 x3 : Int32), Sw (ρ := Int32) p l e ({ frames := 1, cells := 0, slots := 0, locals := 40 } : Room) s m args below meth c 0 0 D A 4 (fun r => MQ below (CQ D ((fun (r : Int32) => (wM cI cC cB cQ kc mh q_depthOf q_kindOf q_sizeOf q_placeOf q_onOf q_sticksOf q_page q_savedDepth q_gameSize q_gamePlace q_gameSticks q_gameDepth q_keptDepth q_keptSize q_keptPlace q_keptOn q_keptSticks m_isLawn m_lawns m_wetness m_strength m_days m_balls m_asks m_books m_pageLength m_faultAt m_savedSize m_savedPlace m_savedSticks m_bestSize m_bestFirst m_seedNow m_isKept m_keptLawn m_keptBalls m_keptStrength m_keptDays m_h m_depthOf m_kindOf m_sizeOf m_placeOf m_onOf m_sticksOf m_page m_savedDepth m_gameSize m_gamePlace m_gameSticks m_gameDepth m_keptDepth m_keptSize m_keptPlace m_keptOn m_keptSticks)) r) ((fun (r : Int32) => some (.int r)) r) A) args s 0 0 A) (f_X8_above_h4 m_balls m_placeOf m_onOf a1 fu x2 x3) (wM cI cC cB cQ kc mh q_depthOf q_kindOf q_sizeOf q_placeOf q_onOf q_sticksOf q_page q_savedDepth q_gameSize q_gamePlace q_gameSticks q_gameDepth q_keptDepth q_keptSize q_keptPlace q_keptOn q_keptSticks m_isLawn m_lawns m_wetness m_strength m_days m_balls m_asks m_books m_pageLength m_faultAt m_savedSize m_savedPlace m_savedSticks m_bestSize m_bestFirst m_seedNow m_isKept m_keptLawn m_keptBalls m_keptStrength m_keptDays m_h m_depthOf m_kindOf m_sizeOf m_placeOf m_onOf m_sticksOf m_page m_savedDepth m_gameSize m_gamePlace m_gameSticks m_gameDepth m_keptDepth m_keptSize m_keptPlace m_keptOn m_keptSticks) [(0, .ref mh), (1, .int a1), (2, .int x2), (3, .int x3)] 4 [] := by
    intro  fu
    induction fu with
    | zero =>
      intro x2 x3
      rewrite [f_X8_above_h4]
      exact s_none
    | succ fu ih =>
      intro x2 x3
      rewrite [f_X8_above_h4]
      refine s_iload_n K dX8_above_4 rfl 3 rfl ?_
      refine s_aload_n K dX8_above_5 rfl 0 rfl ?_
      refine s_get K 0 rfl rfl inT8 6 (Nat.le_of_ble_eq_true rfl) t_559 rfl rfl dX8_above_6 ?_
      refine s_icmp_ge (tgt := 44) K dX8_above_9 (by decide) (fun c_1 => ?_) (fun c_1 => ?_)
      · refine s_iload_n K dX8_above_44 rfl 2 rfl ?_
        exact s_iret K hret hlk rfl rfl dX8_above_45
      · refine s_aload_n K dX8_above_12 rfl 0 rfl ?_
        refine s_get K 0 rfl rfl inT8 10 (Nat.le_of_ble_eq_true rfl) t_563 rfl rfl dX8_above_13 ?_
        refine s_iload_n K dX8_above_16 rfl 3 rfl ?_
        refine s_ck (fun ho_2 => ?_)
        refine s_iald K 5 0 rfl rfl (ok_in ho_2) rfl dX8_above_17 ?_
        refine s_iload_n K dX8_above_18 rfl 1 rfl ?_
        refine s_icmp_ne (tgt := 36) K dX8_above_19 (by decide) (fun c_3 => ?_) (fun c_3 => ?_)
        · refine s_aload_n K dX8_above_22 rfl 0 rfl ?_
          refine s_get K 0 rfl rfl inT8 9 (Nat.le_of_ble_eq_true rfl) t_562 rfl rfl dX8_above_23 ?_
          refine s_iload_n K dX8_above_26 rfl 3 rfl ?_
          refine s_iald K 4 0 rfl rfl (ok_in ho_2) rfl dX8_above_27 ?_
          refine s_iconst K dX8_above_28 kic_m1 ?_
          refine s_icmp_eq (tgt := 36) K dX8_above_29 (by decide) (fun c_4 => ?_) (fun c_4 => ?_)
          · refine s_iload_n K dX8_above_36 rfl 2 rfl ?_
            refine s_istore_n (lv' := [(2, .int x2), (0, .ref mh), (1, .int a1), (3, .int x3)]) K dX8_above_37 rfl (Nat.le_of_ble_eq_true rfl) rfl ?_
            refine s_iinc (lv' := [(3, .int (x3 + 1)), (2, .int x2), (0, .ref mh), (1, .int a1)]) K dX8_above_38 3 rfl (kii_1 _) (Nat.le_of_ble_eq_true rfl) rfl ?_
            refine s_goto (tgt := 4) K dX8_above_41 (by decide) ?_
            refine s_lv (lv' := [(0, .ref mh), (1, .int a1), (2, .int x2), (3, .int (x3 + 1))]) [2, 3, 1, 0] rfl ?_
            exact ih x2 (x3 + 1)
          · refine s_iload_n K dX8_above_32 rfl 3 rfl ?_
            refine s_goto (tgt := 37) K dX8_above_33 (by decide) ?_
            refine s_istore_n (lv' := [(2, .int x3), (0, .ref mh), (1, .int a1), (3, .int x3)]) K dX8_above_37 rfl (Nat.le_of_ble_eq_true rfl) rfl ?_
            refine s_iinc (lv' := [(3, .int (x3 + 1)), (2, .int x3), (0, .ref mh), (1, .int a1)]) K dX8_above_38 3 rfl (kii_1 _) (Nat.le_of_ble_eq_true rfl) rfl ?_
            refine s_goto (tgt := 4) K dX8_above_41 (by decide) ?_
            refine s_lv (lv' := [(0, .ref mh), (1, .int a1), (2, .int x3), (3, .int (x3 + 1))]) [2, 3, 1, 0] rfl ?_
            exact ih x3 (x3 + 1)
        · refine s_iload_n K dX8_above_36 rfl 2 rfl ?_
          refine s_istore_n (lv' := [(2, .int x2), (0, .ref mh), (1, .int a1), (3, .int x3)]) K dX8_above_37 rfl (Nat.le_of_ble_eq_true rfl) rfl ?_
          refine s_iinc (lv' := [(3, .int (x3 + 1)), (2, .int x2), (0, .ref mh), (1, .int a1)]) K dX8_above_38 3 rfl (kii_1 _) (Nat.le_of_ble_eq_true rfl) rfl ?_
          refine s_goto (tgt := 4) K dX8_above_41 (by decide) ?_
          refine s_lv (lv' := [(0, .ref mh), (1, .int a1), (2, .int x2), (3, .int (x3 + 1))]) [2, 3, 1, 0] rfl ?_
          exact ih x2 (x3 + 1)
  rewrite [f_X8_above]
  refine s_iconst K dX8_above_0 kic_m1 ?_
  refine s_istore_n (lv' := [(2, .int (-1)), (0, .ref mh), (1, .int a1)]) K dX8_above_1 rfl (Nat.le_of_ble_eq_true rfl) rfl ?_
  refine s_iconst K dX8_above_2 kic_0 ?_
  refine s_istore_n (lv' := [(3, .int 0), (2, .int (-1)), (0, .ref mh), (1, .int a1)]) K dX8_above_3 rfl (Nat.le_of_ble_eq_true rfl) rfl ?_
  refine s_lv (lv' := [(0, .ref mh), (1, .int a1), (2, .int (-1)), (3, .int 0)]) [2, 3, 1, 0] rfl ?_
  exact L4 70 (-1) 0
set_option maxHeartbeats 4000000 in
set_option maxRecDepth 100000 in
theorem c_X8_isFree {l : Launch} {D : va_G} {cI cC cB cQ : ClassId} {kc : Nat → Nat} {kt : Nat} (mh q_depthOf q_kindOf q_sizeOf q_placeOf q_onOf q_sticksOf q_page q_savedDepth q_gameSize q_gamePlace q_gameSticks q_gameDepth q_keptDepth q_keptSize q_keptPlace q_keptOn q_keptSticks : Nat) (m_isLawn m_lawns m_wetness m_strength m_days m_balls m_asks m_books m_pageLength m_faultAt m_savedSize m_savedPlace m_savedSticks m_bestSize m_bestFirst : Int32) (m_seedNow : Int64) (m_isKept m_keptLawn m_keptBalls m_keptStrength m_keptDays : Int32) (m_h : Int64) (m_depthOf m_kindOf m_sizeOf m_placeOf m_onOf m_sticksOf m_page m_savedDepth m_gameSize m_gamePlace m_gameSticks m_gameDepth m_keptDepth m_keptSize m_keptPlace m_keptOn m_keptSticks : Nat → Int32) (a1 : Int32) {r : Int32} (hF : f_X8_isFree m_balls m_placeOf m_onOf a1 = some r) : CT l D (tysOf cI cC cB cQ) kc kt yX8_isFree cX8_isFree 2 (some .boolean) ({ frames := 2, cells := 0, slots := 0, locals := 103 } : Room) [.ref mh, .int a1] (wM cI cC cB cQ kc mh q_depthOf q_kindOf q_sizeOf q_placeOf q_onOf q_sticksOf q_page q_savedDepth q_gameSize q_gamePlace q_gameSticks q_gameDepth q_keptDepth q_keptSize q_keptPlace q_keptOn q_keptSticks m_isLawn m_lawns m_wetness m_strength m_days m_balls m_asks m_books m_pageLength m_faultAt m_savedSize m_savedPlace m_savedSticks m_bestSize m_bestFirst m_seedNow m_isKept m_keptLawn m_keptBalls m_keptStrength m_keptDays m_h m_depthOf m_kindOf m_sizeOf m_placeOf m_onOf m_sticksOf m_page m_savedDepth m_gameSize m_gamePlace m_gameSticks m_gameDepth m_keptDepth m_keptSize m_keptPlace m_keptOn m_keptSticks) ((fun (r : Int32) => (wM cI cC cB cQ kc mh q_depthOf q_kindOf q_sizeOf q_placeOf q_onOf q_sticksOf q_page q_savedDepth q_gameSize q_gamePlace q_gameSticks q_gameDepth q_keptDepth q_keptSize q_keptPlace q_keptOn q_keptSticks m_isLawn m_lawns m_wetness m_strength m_days m_balls m_asks m_books m_pageLength m_faultAt m_savedSize m_savedPlace m_savedSticks m_bestSize m_bestFirst m_seedNow m_isKept m_keptLawn m_keptBalls m_keptStrength m_keptDays m_h m_depthOf m_kindOf m_sizeOf m_placeOf m_onOf m_sticksOf m_page m_savedDepth m_gameSize m_gamePlace m_gameSticks m_gameDepth m_keptDepth m_keptSize m_keptPlace m_keptOn m_keptSticks)) r) ((fun (r : Int32) => some (.int r)) r) := by
  refine CT.of (ww := (fun (r : Int32) => (wM cI cC cB cQ kc mh q_depthOf q_kindOf q_sizeOf q_placeOf q_onOf q_sticksOf q_page q_savedDepth q_gameSize q_gamePlace q_gameSticks q_gameDepth q_keptDepth q_keptSize q_keptPlace q_keptOn q_keptSticks m_isLawn m_lawns m_wetness m_strength m_days m_balls m_asks m_books m_pageLength m_faultAt m_savedSize m_savedPlace m_savedSticks m_bestSize m_bestFirst m_seedNow m_isKept m_keptLawn m_keptBalls m_keptStrength m_keptDays m_h m_depthOf m_kindOf m_sizeOf m_placeOf m_onOf m_sticksOf m_page m_savedDepth m_gameSize m_gamePlace m_gameSticks m_gameDepth m_keptDepth m_keptSize m_keptPlace m_keptOn m_keptSticks))) (oo := (fun (r : Int32) => some (.int r))) hF RX8 rfl rfl (Nat.le_of_ble_eq_true rfl) ?_
  intro p e s m args below meth c A K hret hlk
  rewrite [f_X8_isFree]
  refine s_aload_n K dX8_isFree_0 rfl 0 rfl ?_
  refine s_get K 0 rfl rfl inT8 9 (Nat.le_of_ble_eq_true rfl) t_562 rfl rfl dX8_isFree_1 ?_
  refine s_iload_n K dX8_isFree_4 rfl 1 rfl ?_
  refine s_ck (fun ho_1 => ?_)
  refine s_iald K 4 0 rfl rfl (ok_in ho_1) rfl dX8_isFree_5 ?_
  refine s_iconst K dX8_isFree_6 kic_m1 ?_
  refine s_icmp_eq (tgt := 33) K dX8_isFree_7 (by decide) (fun c_2 => ?_) (fun c_2 => ?_)
  · refine s_iconst K dX8_isFree_33 kic_0 ?_
    exact s_zret K hret hlk rfl rfl rfl dX8_isFree_34
  · refine s_aload_n K dX8_isFree_10 rfl 0 rfl ?_
    refine s_get K 0 rfl rfl inT8 10 (Nat.le_of_ble_eq_true rfl) t_563 rfl rfl dX8_isFree_11 ?_
    refine s_iload_n K dX8_isFree_14 rfl 1 rfl ?_
    refine s_iald K 5 0 rfl rfl (ok_in ho_1) rfl dX8_isFree_15 ?_
    refine s_iconst K dX8_isFree_16 kic_m1 ?_
    refine s_icmp_ne (tgt := 33) K dX8_isFree_17 (by decide) (fun c_3 => ?_) (fun c_3 => ?_)
    · refine s_aload_n K dX8_isFree_20 rfl 0 rfl ?_
      refine s_iload_n K dX8_isFree_21 rfl 1 rfl ?_
      refine s_bind (fun q hq_5 => ?_)
      obtain ⟨r_4, rfl⟩ : ∃ z, z = q := ⟨_, rfl⟩
      refine s_callV (w' := (wM cI cC cB cQ kc mh q_depthOf q_kindOf q_sizeOf q_placeOf q_onOf q_sticksOf q_page q_savedDepth q_gameSize q_gamePlace q_gameSticks q_gameDepth q_keptDepth q_keptSize q_keptPlace q_keptOn q_keptSticks m_isLawn m_lawns m_wetness m_strength m_days m_balls m_asks m_books m_pageLength m_faultAt m_savedSize m_savedPlace m_savedSticks m_bestSize m_bestFirst m_seedNow m_isKept m_keptLawn m_keptBalls m_keptStrength m_keptDays m_h m_depthOf m_kindOf m_sizeOf m_placeOf m_onOf m_sticksOf m_page m_savedDepth m_gameSize m_gamePlace m_gameSticks m_gameDepth m_keptDepth m_keptSize m_keptPlace m_keptOn m_keptSticks)) (rest := []) (st1 := [.int r_4]) K (c_X8_above mh q_depthOf q_kindOf q_sizeOf q_placeOf q_onOf q_sticksOf q_page q_savedDepth q_gameSize q_gamePlace q_gameSticks q_gameDepth q_keptDepth q_keptSize q_keptPlace q_keptOn q_keptSticks m_isLawn m_lawns m_wetness m_strength m_days m_balls m_asks m_books m_pageLength m_faultAt m_savedSize m_savedPlace m_savedSticks m_bestSize m_bestFirst m_seedNow m_isKept m_keptLawn m_keptBalls m_keptStrength m_keptDays m_h m_depthOf m_kindOf m_sizeOf m_placeOf m_onOf m_sticksOf m_page m_savedDepth m_gameSize m_gamePlace m_gameSticks m_gameDepth m_keptDepth m_keptSize m_keptPlace m_keptOn m_keptSticks a1 hq_5) rfl hd_X8_above t_765 t_767 ts_19 t_10 t_768 ⟨(Nat.le_of_ble_eq_true rfl), (Nat.le_of_ble_eq_true rfl)⟩ ⟨rfl, rfl⟩ ⟨Nat.zero_le _, Nat.zero_le _⟩ (rv_o K 0 rfl rfl) [0, 1, 2, 3, 4, 5, 6, 7, 8, 9, 10, 11, 12, 13, 14, 15, 16, 17] [] [0, 1, 2, 3, 4, 5, 6, 7, 8, 9, 10, 11, 12, 13, 14, 15, 16, 17] rfl rfl rfl rfl (by decide) rfl rfl rfl rfl (Nat.le_of_ble_eq_true rfl) dX8_isFree_22 ?_
      refine s_iconst K dX8_isFree_25 kic_m1 ?_
      refine s_icmp_ne (tgt := 33) K dX8_isFree_26 (by decide) (fun c_6 => ?_) (fun c_6 => ?_)
      · refine s_iconst K dX8_isFree_29 kic_1 ?_
        refine s_goto (tgt := 34) K dX8_isFree_30 (by decide) ?_
        exact s_zret K hret hlk rfl rfl rfl dX8_isFree_34
      · refine s_iconst K dX8_isFree_33 kic_0 ?_
        exact s_zret K hret hlk rfl rfl rfl dX8_isFree_34
    · refine s_iconst K dX8_isFree_33 kic_0 ?_
      exact s_zret K hret hlk rfl rfl rfl dX8_isFree_34
set_option maxHeartbeats 4000000 in
set_option maxRecDepth 100000 in
theorem c_X8_mayRoll {l : Launch} {D : va_G} {cI cC cB cQ : ClassId} {kc : Nat → Nat} {kt : Nat} (mh q_depthOf q_kindOf q_sizeOf q_placeOf q_onOf q_sticksOf q_page q_savedDepth q_gameSize q_gamePlace q_gameSticks q_gameDepth q_keptDepth q_keptSize q_keptPlace q_keptOn q_keptSticks : Nat) (m_isLawn m_lawns m_wetness m_strength m_days m_balls m_asks m_books m_pageLength m_faultAt m_savedSize m_savedPlace m_savedSticks m_bestSize m_bestFirst : Int32) (m_seedNow : Int64) (m_isKept m_keptLawn m_keptBalls m_keptStrength m_keptDays : Int32) (m_h : Int64) (m_depthOf m_kindOf m_sizeOf m_placeOf m_onOf m_sticksOf m_page m_savedDepth m_gameSize m_gamePlace m_gameSticks m_gameDepth m_keptDepth m_keptSize m_keptPlace m_keptOn m_keptSticks : Nat → Int32) (a1 a2 : Int32) {r : Int32} (hF : f_X8_mayRoll m_strength m_balls m_kindOf m_sizeOf m_placeOf m_onOf m_sticksOf a1 a2 = some r) : CT l D (tysOf cI cC cB cQ) kc kt yX8_mayRoll cX8_mayRoll 5 (some .boolean) ({ frames := 3, cells := 0, slots := 0, locals := 164 } : Room) [.ref mh, .int a1, .int a2] (wM cI cC cB cQ kc mh q_depthOf q_kindOf q_sizeOf q_placeOf q_onOf q_sticksOf q_page q_savedDepth q_gameSize q_gamePlace q_gameSticks q_gameDepth q_keptDepth q_keptSize q_keptPlace q_keptOn q_keptSticks m_isLawn m_lawns m_wetness m_strength m_days m_balls m_asks m_books m_pageLength m_faultAt m_savedSize m_savedPlace m_savedSticks m_bestSize m_bestFirst m_seedNow m_isKept m_keptLawn m_keptBalls m_keptStrength m_keptDays m_h m_depthOf m_kindOf m_sizeOf m_placeOf m_onOf m_sticksOf m_page m_savedDepth m_gameSize m_gamePlace m_gameSticks m_gameDepth m_keptDepth m_keptSize m_keptPlace m_keptOn m_keptSticks) ((fun (r : Int32) => (wM cI cC cB cQ kc mh q_depthOf q_kindOf q_sizeOf q_placeOf q_onOf q_sticksOf q_page q_savedDepth q_gameSize q_gamePlace q_gameSticks q_gameDepth q_keptDepth q_keptSize q_keptPlace q_keptOn q_keptSticks m_isLawn m_lawns m_wetness m_strength m_days m_balls m_asks m_books m_pageLength m_faultAt m_savedSize m_savedPlace m_savedSticks m_bestSize m_bestFirst m_seedNow m_isKept m_keptLawn m_keptBalls m_keptStrength m_keptDays m_h m_depthOf m_kindOf m_sizeOf m_placeOf m_onOf m_sticksOf m_page m_savedDepth m_gameSize m_gamePlace m_gameSticks m_gameDepth m_keptDepth m_keptSize m_keptPlace m_keptOn m_keptSticks)) r) ((fun (r : Int32) => some (.int r)) r) := by
  refine CT.of (ww := (fun (r : Int32) => (wM cI cC cB cQ kc mh q_depthOf q_kindOf q_sizeOf q_placeOf q_onOf q_sticksOf q_page q_savedDepth q_gameSize q_gamePlace q_gameSticks q_gameDepth q_keptDepth q_keptSize q_keptPlace q_keptOn q_keptSticks m_isLawn m_lawns m_wetness m_strength m_days m_balls m_asks m_books m_pageLength m_faultAt m_savedSize m_savedPlace m_savedSticks m_bestSize m_bestFirst m_seedNow m_isKept m_keptLawn m_keptBalls m_keptStrength m_keptDays m_h m_depthOf m_kindOf m_sizeOf m_placeOf m_onOf m_sticksOf m_page m_savedDepth m_gameSize m_gamePlace m_gameSticks m_gameDepth m_keptDepth m_keptSize m_keptPlace m_keptOn m_keptSticks))) (oo := (fun (r : Int32) => some (.int r))) hF RX8 rfl rfl (Nat.le_of_ble_eq_true rfl) ?_
  intro p e s m args below meth c A K hret hlk
  rewrite [f_X8_mayRoll]
  refine s_aload_n K dX8_mayRoll_0 rfl 0 rfl ?_
  refine s_iload_n K dX8_mayRoll_1 rfl 1 rfl ?_
  refine s_bind (fun q hq_2 => ?_)
  obtain ⟨r_1, rfl⟩ : ∃ z, z = q := ⟨_, rfl⟩
  refine s_callV (w' := (wM cI cC cB cQ kc mh q_depthOf q_kindOf q_sizeOf q_placeOf q_onOf q_sticksOf q_page q_savedDepth q_gameSize q_gamePlace q_gameSticks q_gameDepth q_keptDepth q_keptSize q_keptPlace q_keptOn q_keptSticks m_isLawn m_lawns m_wetness m_strength m_days m_balls m_asks m_books m_pageLength m_faultAt m_savedSize m_savedPlace m_savedSticks m_bestSize m_bestFirst m_seedNow m_isKept m_keptLawn m_keptBalls m_keptStrength m_keptDays m_h m_depthOf m_kindOf m_sizeOf m_placeOf m_onOf m_sticksOf m_page m_savedDepth m_gameSize m_gamePlace m_gameSticks m_gameDepth m_keptDepth m_keptSize m_keptPlace m_keptOn m_keptSticks)) (rest := []) (st1 := [.int r_1]) K (c_X8_isFree mh q_depthOf q_kindOf q_sizeOf q_placeOf q_onOf q_sticksOf q_page q_savedDepth q_gameSize q_gamePlace q_gameSticks q_gameDepth q_keptDepth q_keptSize q_keptPlace q_keptOn q_keptSticks m_isLawn m_lawns m_wetness m_strength m_days m_balls m_asks m_books m_pageLength m_faultAt m_savedSize m_savedPlace m_savedSticks m_bestSize m_bestFirst m_seedNow m_isKept m_keptLawn m_keptBalls m_keptStrength m_keptDays m_h m_depthOf m_kindOf m_sizeOf m_placeOf m_onOf m_sticksOf m_page m_savedDepth m_gameSize m_gamePlace m_gameSticks m_gameDepth m_keptDepth m_keptSize m_keptPlace m_keptOn m_keptSticks a1 hq_2) rfl hd_X8_isFree t_761 t_763 ts_18 t_10 t_764 ⟨(Nat.le_of_ble_eq_true rfl), (Nat.le_of_ble_eq_true rfl)⟩ ⟨rfl, rfl⟩ ⟨Nat.zero_le _, Nat.zero_le _⟩ (rv_o K 0 rfl rfl) [0, 1, 2, 3, 4, 5, 6, 7, 8, 9, 10, 11, 12, 13, 14, 15, 16, 17] [] [0, 1, 2, 3, 4, 5, 6, 7, 8, 9, 10, 11, 12, 13, 14, 15, 16, 17] rfl rfl rfl rfl (by decide) rfl rfl rfl rfl (Nat.le_of_ble_eq_true rfl) dX8_mayRoll_2 ?_
  refine s_if_eq (tgt := 20) K dX8_mayRoll_5 (by decide) (fun c_3 => ?_) (fun c_3 => ?_)
  · refine s_iconst K dX8_mayRoll_20 kic_0 ?_
    exact s_zret K hret hlk rfl rfl rfl dX8_mayRoll_21
  · refine s_aload_n K dX8_mayRoll_8 rfl 0 rfl ?_
    refine s_iload_n K dX8_mayRoll_9 rfl 1 rfl ?_
    refine s_bind (fun q hq_5 => ?_)
    obtain ⟨r_4, rfl⟩ : ∃ z, z = q := ⟨_, rfl⟩
    refine s_callV (w' := (wM cI cC cB cQ kc mh q_depthOf q_kindOf q_sizeOf q_placeOf q_onOf q_sticksOf q_page q_savedDepth q_gameSize q_gamePlace q_gameSticks q_gameDepth q_keptDepth q_keptSize q_keptPlace q_keptOn q_keptSticks m_isLawn m_lawns m_wetness m_strength m_days m_balls m_asks m_books m_pageLength m_faultAt m_savedSize m_savedPlace m_savedSticks m_bestSize m_bestFirst m_seedNow m_isKept m_keptLawn m_keptBalls m_keptStrength m_keptDays m_h m_depthOf m_kindOf m_sizeOf m_placeOf m_onOf m_sticksOf m_page m_savedDepth m_gameSize m_gamePlace m_gameSticks m_gameDepth m_keptDepth m_keptSize m_keptPlace m_keptOn m_keptSticks)) (rest := []) (st1 := [.int r_4]) K (c_X8_weighs mh q_depthOf q_kindOf q_sizeOf q_placeOf q_onOf q_sticksOf q_page q_savedDepth q_gameSize q_gamePlace q_gameSticks q_gameDepth q_keptDepth q_keptSize q_keptPlace q_keptOn q_keptSticks m_isLawn m_lawns m_wetness m_strength m_days m_balls m_asks m_books m_pageLength m_faultAt m_savedSize m_savedPlace m_savedSticks m_bestSize m_bestFirst m_seedNow m_isKept m_keptLawn m_keptBalls m_keptStrength m_keptDays m_h m_depthOf m_kindOf m_sizeOf m_placeOf m_onOf m_sticksOf m_page m_savedDepth m_gameSize m_gamePlace m_gameSticks m_gameDepth m_keptDepth m_keptSize m_keptPlace m_keptOn m_keptSticks a1 hq_5) rfl hd_X8_weighs t_741 t_743 ts_15 t_10 t_744 ⟨(Nat.le_of_ble_eq_true rfl), (Nat.le_of_ble_eq_true rfl)⟩ ⟨rfl, rfl⟩ ⟨Nat.zero_le _, Nat.zero_le _⟩ (rv_o K 0 rfl rfl) [0, 1, 2, 3, 4, 5, 6, 7, 8, 9, 10, 11, 12, 13, 14, 15, 16, 17] [] [0, 1, 2, 3, 4, 5, 6, 7, 8, 9, 10, 11, 12, 13, 14, 15, 16, 17] rfl rfl rfl rfl (by decide) rfl rfl rfl rfl (Nat.le_of_ble_eq_true rfl) dX8_mayRoll_10 ?_
    refine s_aload_n K dX8_mayRoll_13 rfl 0 rfl ?_
    refine s_get K 0 rfl rfl inT8 4 (Nat.le_of_ble_eq_true rfl) t_557 rfl rfl dX8_mayRoll_14 ?_
    refine s_icmp_le (tgt := 22) K dX8_mayRoll_17 (by decide) (fun c_6 => ?_) (fun c_6 => ?_)
    · refine s_aload_n K dX8_mayRoll_22 rfl 0 rfl ?_
      refine s_get K 0 rfl rfl inT8 9 (Nat.le_of_ble_eq_true rfl) t_562 rfl rfl dX8_mayRoll_23 ?_
      refine s_iload_n K dX8_mayRoll_26 rfl 1 rfl ?_
      refine s_ck (fun ho_7 => ?_)
      refine s_iald K 4 0 rfl rfl (ok_in ho_7) rfl dX8_mayRoll_27 ?_
      refine s_iload_n K dX8_mayRoll_28 rfl 2 rfl ?_
      refine s_bind (fun q hq_9 => ?_)
      obtain ⟨r_8, rfl⟩ : ∃ z, z = q := ⟨_, rfl⟩
      refine s_callS0 (rest := []) (st1 := [.int r_8]) K (c_X8_beside (m_placeOf (Int32.toNatClampNeg a1)) a2 hq_9) hd_X8_beside t_769 t_770 t_10 t_771 ⟨(Nat.le_of_ble_eq_true rfl), (Nat.le_of_ble_eq_true rfl)⟩ ⟨rfl, rfl⟩ ⟨Nat.zero_le _, Nat.zero_le _⟩ rfl rfl (Nat.le_of_ble_eq_true rfl) dX8_mayRoll_29 ?_
      refine s_istore_n (lv' := [(3, .int r_8), (0, .ref mh), (1, .int a1), (2, .int a2)]) K dX8_mayRoll_32 rfl (Nat.le_of_ble_eq_true rfl) rfl ?_
      refine s_aload_n K dX8_mayRoll_33 rfl 1 rfl ?_
      refine s_get K 0 rfl rfl inT8 7 (Nat.le_of_ble_eq_true rfl) t_560 rfl rfl dX8_mayRoll_34 ?_
      refine s_iload_n K dX8_mayRoll_37 rfl 2 rfl ?_
      refine s_iald K 2 0 rfl rfl (ok_in ho_7) rfl dX8_mayRoll_38 ?_
      refine s_iconst K dX8_mayRoll_39 kic_1 ?_
      refine s_icmp_ne (tgt := 65) K dX8_mayRoll_40 (by decide) (fun c_10 => ?_) (fun c_10 => ?_)
      · refine s_aload_n K dX8_mayRoll_43 rfl 1 rfl ?_
        refine s_get K 0 rfl rfl inT8 11 (Nat.le_of_ble_eq_true rfl) t_564 rfl rfl dX8_mayRoll_44 ?_
        refine s_iload_n K dX8_mayRoll_47 rfl 2 rfl ?_
        refine s_iald K 6 0 rfl rfl (ok_in ho_7) rfl dX8_mayRoll_48 ?_
        refine s_iconst K dX8_mayRoll_49 kic_m1 ?_
        refine s_icmp_eq (tgt := 65) K dX8_mayRoll_50 (by decide) (fun c_11 => ?_) (fun c_11 => ?_)
        · refine s_iconst K dX8_mayRoll_65 kic_1 ?_
          refine s_goto (tgt := 70) K dX8_mayRoll_66 (by decide) ?_
          refine s_istore (lv' := [(4, .int 1), (3, .int r_8), (0, .ref mh), (1, .int a1), (2, .int a2)]) K dX8_mayRoll_70 (Nat.le_of_ble_eq_true rfl) rfl ?_
          refine s_iload_n K dX8_mayRoll_72 rfl 1 rfl ?_
          refine s_iconst K dX8_mayRoll_73 kic_m1 ?_
          refine s_icmp_eq (tgt := 95) K dX8_mayRoll_74 (by decide) (fun c_12 => ?_) (fun c_12 => ?_)
          · refine s_iconst K dX8_mayRoll_95 kic_0 ?_
            exact s_zret K hret hlk rfl rfl rfl dX8_mayRoll_96
          · refine s_aload_n K dX8_mayRoll_77 rfl 2 rfl ?_
            refine s_iload_n K dX8_mayRoll_78 rfl 1 rfl ?_
            refine s_bind (fun q hq_14 => ?_)
            obtain ⟨r_13, rfl⟩ : ∃ z, z = q := ⟨_, rfl⟩
            refine s_callV (w' := (wM cI cC cB cQ kc mh q_depthOf q_kindOf q_sizeOf q_placeOf q_onOf q_sticksOf q_page q_savedDepth q_gameSize q_gamePlace q_gameSticks q_gameDepth q_keptDepth q_keptSize q_keptPlace q_keptOn q_keptSticks m_isLawn m_lawns m_wetness m_strength m_days m_balls m_asks m_books m_pageLength m_faultAt m_savedSize m_savedPlace m_savedSticks m_bestSize m_bestFirst m_seedNow m_isKept m_keptLawn m_keptBalls m_keptStrength m_keptDays m_h m_depthOf m_kindOf m_sizeOf m_placeOf m_onOf m_sticksOf m_page m_savedDepth m_gameSize m_gamePlace m_gameSticks m_gameDepth m_keptDepth m_keptSize m_keptPlace m_keptOn m_keptSticks)) (rest := []) (st1 := [.int r_13]) K (c_X8_standsOn mh q_depthOf q_kindOf q_sizeOf q_placeOf q_onOf q_sticksOf q_page q_savedDepth q_gameSize q_gamePlace q_gameSticks q_gameDepth q_keptDepth q_keptSize q_keptPlace q_keptOn q_keptSticks m_isLawn m_lawns m_wetness m_strength m_days m_balls m_asks m_books m_pageLength m_faultAt m_savedSize m_savedPlace m_savedSticks m_bestSize m_bestFirst m_seedNow m_isKept m_keptLawn m_keptBalls m_keptStrength m_keptDays m_h m_depthOf m_kindOf m_sizeOf m_placeOf m_onOf m_sticksOf m_page m_savedDepth m_gameSize m_gamePlace m_gameSticks m_gameDepth m_keptDepth m_keptSize m_keptPlace m_keptOn m_keptSticks r_8 hq_14) rfl hd_X8_standsOn t_706 t_708 ts_10 t_10 t_709 ⟨(Nat.le_of_ble_eq_true rfl), (Nat.le_of_ble_eq_true rfl)⟩ ⟨rfl, rfl⟩ ⟨Nat.zero_le _, Nat.zero_le _⟩ (rv_o K 0 rfl rfl) [0, 1, 2, 3, 4, 5, 6, 7, 8, 9, 10, 11, 12, 13, 14, 15, 16, 17] [] [0, 1, 2, 3, 4, 5, 6, 7, 8, 9, 10, 11, 12, 13, 14, 15, 16, 17] rfl rfl rfl rfl (by decide) rfl rfl rfl rfl (Nat.le_of_ble_eq_true rfl) dX8_mayRoll_79 ?_
            refine s_iconst K dX8_mayRoll_82 kic_m1 ?_
            refine s_icmp_ne (tgt := 95) K dX8_mayRoll_83 (by decide) (fun c_15 => ?_) (fun c_15 => ?_)
            · refine s_iload K dX8_mayRoll_86 0 rfl ?_
              refine s_if_eqF K dX8_mayRoll_88 95 (by decide) (by decide +kernel) ?_
              refine s_iconst K dX8_mayRoll_91 kic_1 ?_
              refine s_goto (tgt := 96) K dX8_mayRoll_92 (by decide) ?_
              exact s_zret K hret hlk rfl rfl rfl dX8_mayRoll_96
            · refine s_iconst K dX8_mayRoll_95 kic_0 ?_
              exact s_zret K hret hlk rfl rfl rfl dX8_mayRoll_96
        · refine s_aload_n K dX8_mayRoll_53 rfl 1 rfl ?_
          refine s_get K 0 rfl rfl inT8 11 (Nat.le_of_ble_eq_true rfl) t_564 rfl rfl dX8_mayRoll_54 ?_
          refine s_iload_n K dX8_mayRoll_57 rfl 2 rfl ?_
          refine s_iald K 6 0 rfl rfl (ok_in ho_7) rfl dX8_mayRoll_58 ?_
          refine s_iload_n K dX8_mayRoll_59 rfl 3 rfl ?_
          refine s_iconst K dX8_mayRoll_60 kic_2 ?_
          refine s_irem K dX8_mayRoll_61 knz_2 ?_
          refine s_icmp_ne (tgt := 69) K dX8_mayRoll_62 (by decide) (fun c_16 => ?_) (fun c_16 => ?_)
          · refine s_iconst K dX8_mayRoll_65 kic_1 ?_
            refine s_goto (tgt := 70) K dX8_mayRoll_66 (by decide) ?_
            refine s_istore (lv' := [(4, .int 1), (3, .int r_8), (0, .ref mh), (1, .int a1), (2, .int a2)]) K dX8_mayRoll_70 (Nat.le_of_ble_eq_true rfl) rfl ?_
            refine s_iload_n K dX8_mayRoll_72 rfl 1 rfl ?_
            refine s_iconst K dX8_mayRoll_73 kic_m1 ?_
            refine s_icmp_eq (tgt := 95) K dX8_mayRoll_74 (by decide) (fun c_17 => ?_) (fun c_17 => ?_)
            · refine s_iconst K dX8_mayRoll_95 kic_0 ?_
              exact s_zret K hret hlk rfl rfl rfl dX8_mayRoll_96
            · refine s_aload_n K dX8_mayRoll_77 rfl 2 rfl ?_
              refine s_iload_n K dX8_mayRoll_78 rfl 1 rfl ?_
              refine s_bind (fun q hq_19 => ?_)
              obtain ⟨r_18, rfl⟩ : ∃ z, z = q := ⟨_, rfl⟩
              refine s_callV (w' := (wM cI cC cB cQ kc mh q_depthOf q_kindOf q_sizeOf q_placeOf q_onOf q_sticksOf q_page q_savedDepth q_gameSize q_gamePlace q_gameSticks q_gameDepth q_keptDepth q_keptSize q_keptPlace q_keptOn q_keptSticks m_isLawn m_lawns m_wetness m_strength m_days m_balls m_asks m_books m_pageLength m_faultAt m_savedSize m_savedPlace m_savedSticks m_bestSize m_bestFirst m_seedNow m_isKept m_keptLawn m_keptBalls m_keptStrength m_keptDays m_h m_depthOf m_kindOf m_sizeOf m_placeOf m_onOf m_sticksOf m_page m_savedDepth m_gameSize m_gamePlace m_gameSticks m_gameDepth m_keptDepth m_keptSize m_keptPlace m_keptOn m_keptSticks)) (rest := []) (st1 := [.int r_18]) K (c_X8_standsOn mh q_depthOf q_kindOf q_sizeOf q_placeOf q_onOf q_sticksOf q_page q_savedDepth q_gameSize q_gamePlace q_gameSticks q_gameDepth q_keptDepth q_keptSize q_keptPlace q_keptOn q_keptSticks m_isLawn m_lawns m_wetness m_strength m_days m_balls m_asks m_books m_pageLength m_faultAt m_savedSize m_savedPlace m_savedSticks m_bestSize m_bestFirst m_seedNow m_isKept m_keptLawn m_keptBalls m_keptStrength m_keptDays m_h m_depthOf m_kindOf m_sizeOf m_placeOf m_onOf m_sticksOf m_page m_savedDepth m_gameSize m_gamePlace m_gameSticks m_gameDepth m_keptDepth m_keptSize m_keptPlace m_keptOn m_keptSticks r_8 hq_19) rfl hd_X8_standsOn t_706 t_708 ts_10 t_10 t_709 ⟨(Nat.le_of_ble_eq_true rfl), (Nat.le_of_ble_eq_true rfl)⟩ ⟨rfl, rfl⟩ ⟨Nat.zero_le _, Nat.zero_le _⟩ (rv_o K 0 rfl rfl) [0, 1, 2, 3, 4, 5, 6, 7, 8, 9, 10, 11, 12, 13, 14, 15, 16, 17] [] [0, 1, 2, 3, 4, 5, 6, 7, 8, 9, 10, 11, 12, 13, 14, 15, 16, 17] rfl rfl rfl rfl (by decide) rfl rfl rfl rfl (Nat.le_of_ble_eq_true rfl) dX8_mayRoll_79 ?_
              refine s_iconst K dX8_mayRoll_82 kic_m1 ?_
              refine s_icmp_ne (tgt := 95) K dX8_mayRoll_83 (by decide) (fun c_20 => ?_) (fun c_20 => ?_)
              · refine s_iload K dX8_mayRoll_86 0 rfl ?_
                refine s_if_eqF K dX8_mayRoll_88 95 (by decide) (by decide +kernel) ?_
                refine s_iconst K dX8_mayRoll_91 kic_1 ?_
                refine s_goto (tgt := 96) K dX8_mayRoll_92 (by decide) ?_
                exact s_zret K hret hlk rfl rfl rfl dX8_mayRoll_96
              · refine s_iconst K dX8_mayRoll_95 kic_0 ?_
                exact s_zret K hret hlk rfl rfl rfl dX8_mayRoll_96
          · refine s_iconst K dX8_mayRoll_69 kic_0 ?_
            refine s_istore (lv' := [(4, .int 0), (3, .int r_8), (0, .ref mh), (1, .int a1), (2, .int a2)]) K dX8_mayRoll_70 (Nat.le_of_ble_eq_true rfl) rfl ?_
            refine s_iload_n K dX8_mayRoll_72 rfl 1 rfl ?_
            refine s_iconst K dX8_mayRoll_73 kic_m1 ?_
            refine s_icmp_eq (tgt := 95) K dX8_mayRoll_74 (by decide) (fun c_21 => ?_) (fun c_21 => ?_)
            · refine s_iconst K dX8_mayRoll_95 kic_0 ?_
              exact s_zret K hret hlk rfl rfl rfl dX8_mayRoll_96
            · refine s_aload_n K dX8_mayRoll_77 rfl 2 rfl ?_
              refine s_iload_n K dX8_mayRoll_78 rfl 1 rfl ?_
              refine s_bind (fun q hq_23 => ?_)
              obtain ⟨r_22, rfl⟩ : ∃ z, z = q := ⟨_, rfl⟩
              refine s_callV (w' := (wM cI cC cB cQ kc mh q_depthOf q_kindOf q_sizeOf q_placeOf q_onOf q_sticksOf q_page q_savedDepth q_gameSize q_gamePlace q_gameSticks q_gameDepth q_keptDepth q_keptSize q_keptPlace q_keptOn q_keptSticks m_isLawn m_lawns m_wetness m_strength m_days m_balls m_asks m_books m_pageLength m_faultAt m_savedSize m_savedPlace m_savedSticks m_bestSize m_bestFirst m_seedNow m_isKept m_keptLawn m_keptBalls m_keptStrength m_keptDays m_h m_depthOf m_kindOf m_sizeOf m_placeOf m_onOf m_sticksOf m_page m_savedDepth m_gameSize m_gamePlace m_gameSticks m_gameDepth m_keptDepth m_keptSize m_keptPlace m_keptOn m_keptSticks)) (rest := []) (st1 := [.int r_22]) K (c_X8_standsOn mh q_depthOf q_kindOf q_sizeOf q_placeOf q_onOf q_sticksOf q_page q_savedDepth q_gameSize q_gamePlace q_gameSticks q_gameDepth q_keptDepth q_keptSize q_keptPlace q_keptOn q_keptSticks m_isLawn m_lawns m_wetness m_strength m_days m_balls m_asks m_books m_pageLength m_faultAt m_savedSize m_savedPlace m_savedSticks m_bestSize m_bestFirst m_seedNow m_isKept m_keptLawn m_keptBalls m_keptStrength m_keptDays m_h m_depthOf m_kindOf m_sizeOf m_placeOf m_onOf m_sticksOf m_page m_savedDepth m_gameSize m_gamePlace m_gameSticks m_gameDepth m_keptDepth m_keptSize m_keptPlace m_keptOn m_keptSticks r_8 hq_23) rfl hd_X8_standsOn t_706 t_708 ts_10 t_10 t_709 ⟨(Nat.le_of_ble_eq_true rfl), (Nat.le_of_ble_eq_true rfl)⟩ ⟨rfl, rfl⟩ ⟨Nat.zero_le _, Nat.zero_le _⟩ (rv_o K 0 rfl rfl) [0, 1, 2, 3, 4, 5, 6, 7, 8, 9, 10, 11, 12, 13, 14, 15, 16, 17] [] [0, 1, 2, 3, 4, 5, 6, 7, 8, 9, 10, 11, 12, 13, 14, 15, 16, 17] rfl rfl rfl rfl (by decide) rfl rfl rfl rfl (Nat.le_of_ble_eq_true rfl) dX8_mayRoll_79 ?_
              refine s_iconst K dX8_mayRoll_82 kic_m1 ?_
              refine s_icmp_ne (tgt := 95) K dX8_mayRoll_83 (by decide) (fun c_24 => ?_) (fun c_24 => ?_)
              · refine s_iload K dX8_mayRoll_86 0 rfl ?_
                refine s_if_eqT (tgt := 95) K dX8_mayRoll_88 (by decide) (by decide +kernel) ?_
                refine s_iconst K dX8_mayRoll_95 kic_0 ?_
                exact s_zret K hret hlk rfl rfl rfl dX8_mayRoll_96
              · refine s_iconst K dX8_mayRoll_95 kic_0 ?_
                exact s_zret K hret hlk rfl rfl rfl dX8_mayRoll_96
      · refine s_iconst K dX8_mayRoll_65 kic_1 ?_
        refine s_goto (tgt := 70) K dX8_mayRoll_66 (by decide) ?_
        refine s_istore (lv' := [(4, .int 1), (3, .int r_8), (0, .ref mh), (1, .int a1), (2, .int a2)]) K dX8_mayRoll_70 (Nat.le_of_ble_eq_true rfl) rfl ?_
        refine s_iload_n K dX8_mayRoll_72 rfl 1 rfl ?_
        refine s_iconst K dX8_mayRoll_73 kic_m1 ?_
        refine s_icmp_eq (tgt := 95) K dX8_mayRoll_74 (by decide) (fun c_25 => ?_) (fun c_25 => ?_)
        · refine s_iconst K dX8_mayRoll_95 kic_0 ?_
          exact s_zret K hret hlk rfl rfl rfl dX8_mayRoll_96
        · refine s_aload_n K dX8_mayRoll_77 rfl 2 rfl ?_
          refine s_iload_n K dX8_mayRoll_78 rfl 1 rfl ?_
          refine s_bind (fun q hq_27 => ?_)
          obtain ⟨r_26, rfl⟩ : ∃ z, z = q := ⟨_, rfl⟩
          refine s_callV (w' := (wM cI cC cB cQ kc mh q_depthOf q_kindOf q_sizeOf q_placeOf q_onOf q_sticksOf q_page q_savedDepth q_gameSize q_gamePlace q_gameSticks q_gameDepth q_keptDepth q_keptSize q_keptPlace q_keptOn q_keptSticks m_isLawn m_lawns m_wetness m_strength m_days m_balls m_asks m_books m_pageLength m_faultAt m_savedSize m_savedPlace m_savedSticks m_bestSize m_bestFirst m_seedNow m_isKept m_keptLawn m_keptBalls m_keptStrength m_keptDays m_h m_depthOf m_kindOf m_sizeOf m_placeOf m_onOf m_sticksOf m_page m_savedDepth m_gameSize m_gamePlace m_gameSticks m_gameDepth m_keptDepth m_keptSize m_keptPlace m_keptOn m_keptSticks)) (rest := []) (st1 := [.int r_26]) K (c_X8_standsOn mh q_depthOf q_kindOf q_sizeOf q_placeOf q_onOf q_sticksOf q_page q_savedDepth q_gameSize q_gamePlace q_gameSticks q_gameDepth q_keptDepth q_keptSize q_keptPlace q_keptOn q_keptSticks m_isLawn m_lawns m_wetness m_strength m_days m_balls m_asks m_books m_pageLength m_faultAt m_savedSize m_savedPlace m_savedSticks m_bestSize m_bestFirst m_seedNow m_isKept m_keptLawn m_keptBalls m_keptStrength m_keptDays m_h m_depthOf m_kindOf m_sizeOf m_placeOf m_onOf m_sticksOf m_page m_savedDepth m_gameSize m_gamePlace m_gameSticks m_gameDepth m_keptDepth m_keptSize m_keptPlace m_keptOn m_keptSticks r_8 hq_27) rfl hd_X8_standsOn t_706 t_708 ts_10 t_10 t_709 ⟨(Nat.le_of_ble_eq_true rfl), (Nat.le_of_ble_eq_true rfl)⟩ ⟨rfl, rfl⟩ ⟨Nat.zero_le _, Nat.zero_le _⟩ (rv_o K 0 rfl rfl) [0, 1, 2, 3, 4, 5, 6, 7, 8, 9, 10, 11, 12, 13, 14, 15, 16, 17] [] [0, 1, 2, 3, 4, 5, 6, 7, 8, 9, 10, 11, 12, 13, 14, 15, 16, 17] rfl rfl rfl rfl (by decide) rfl rfl rfl rfl (Nat.le_of_ble_eq_true rfl) dX8_mayRoll_79 ?_
          refine s_iconst K dX8_mayRoll_82 kic_m1 ?_
          refine s_icmp_ne (tgt := 95) K dX8_mayRoll_83 (by decide) (fun c_28 => ?_) (fun c_28 => ?_)
          · refine s_iload K dX8_mayRoll_86 0 rfl ?_
            refine s_if_eqF K dX8_mayRoll_88 95 (by decide) (by decide +kernel) ?_
            refine s_iconst K dX8_mayRoll_91 kic_1 ?_
            refine s_goto (tgt := 96) K dX8_mayRoll_92 (by decide) ?_
            exact s_zret K hret hlk rfl rfl rfl dX8_mayRoll_96
          · refine s_iconst K dX8_mayRoll_95 kic_0 ?_
            exact s_zret K hret hlk rfl rfl rfl dX8_mayRoll_96
    · refine s_iconst K dX8_mayRoll_20 kic_0 ?_
      exact s_zret K hret hlk rfl rfl rfl dX8_mayRoll_21
set_option maxHeartbeats 4000000 in
set_option maxRecDepth 100000 in
theorem c_X8_doRoll {l : Launch} {D : va_G} {cI cC cB cQ : ClassId} {kc : Nat → Nat} {kt : Nat} (mh q_depthOf q_kindOf q_sizeOf q_placeOf q_onOf q_sticksOf q_page q_savedDepth q_gameSize q_gamePlace q_gameSticks q_gameDepth q_keptDepth q_keptSize q_keptPlace q_keptOn q_keptSticks : Nat) (m_isLawn m_lawns m_wetness m_strength m_days m_balls m_asks m_books m_pageLength m_faultAt m_savedSize m_savedPlace m_savedSticks m_bestSize m_bestFirst : Int32) (m_seedNow : Int64) (m_isKept m_keptLawn m_keptBalls m_keptStrength m_keptDays : Int32) (m_h : Int64) (m_depthOf m_kindOf m_sizeOf m_placeOf m_onOf m_sticksOf m_page m_savedDepth m_gameSize m_gamePlace m_gameSticks m_gameDepth m_keptDepth m_keptSize m_keptPlace m_keptOn m_keptSticks : Nat → Int32) (a1 a2 : Int32) {r : (Nat → Int32) × (Nat → Int32) × (Nat → Int32) × (Nat → Int32)} (hF : f_X8_doRoll m_wetness m_depthOf m_kindOf m_sizeOf m_placeOf m_sticksOf a1 a2 = some r) : CT l D (tysOf cI cC cB cQ) kc kt yX8_doRoll cX8_doRoll 7 none ({ frames := 2, cells := 0, slots := 0, locals := 101 } : Room) [.ref mh, .int a1, .int a2] (wM cI cC cB cQ kc mh q_depthOf q_kindOf q_sizeOf q_placeOf q_onOf q_sticksOf q_page q_savedDepth q_gameSize q_gamePlace q_gameSticks q_gameDepth q_keptDepth q_keptSize q_keptPlace q_keptOn q_keptSticks m_isLawn m_lawns m_wetness m_strength m_days m_balls m_asks m_books m_pageLength m_faultAt m_savedSize m_savedPlace m_savedSticks m_bestSize m_bestFirst m_seedNow m_isKept m_keptLawn m_keptBalls m_keptStrength m_keptDays m_h m_depthOf m_kindOf m_sizeOf m_placeOf m_onOf m_sticksOf m_page m_savedDepth m_gameSize m_gamePlace m_gameSticks m_gameDepth m_keptDepth m_keptSize m_keptPlace m_keptOn m_keptSticks) ((fun (r : (Nat → Int32) × (Nat → Int32) × (Nat → Int32) × (Nat → Int32)) => (wM cI cC cB cQ kc mh q_depthOf q_kindOf q_sizeOf q_placeOf q_onOf q_sticksOf q_page q_savedDepth q_gameSize q_gamePlace q_gameSticks q_gameDepth q_keptDepth q_keptSize q_keptPlace q_keptOn q_keptSticks m_isLawn m_lawns m_wetness m_strength m_days m_balls m_asks m_books m_pageLength m_faultAt m_savedSize m_savedPlace m_savedSticks m_bestSize m_bestFirst m_seedNow m_isKept m_keptLawn m_keptBalls m_keptStrength m_keptDays m_h (r.1) m_kindOf (r.2.1) (r.2.2.1) m_onOf (r.2.2.2) m_page m_savedDepth m_gameSize m_gamePlace m_gameSticks m_gameDepth m_keptDepth m_keptSize m_keptPlace m_keptOn m_keptSticks)) r) ((fun (r : (Nat → Int32) × (Nat → Int32) × (Nat → Int32) × (Nat → Int32)) => none) r) := by
  refine CT.of (ww := (fun (r : (Nat → Int32) × (Nat → Int32) × (Nat → Int32) × (Nat → Int32)) => (wM cI cC cB cQ kc mh q_depthOf q_kindOf q_sizeOf q_placeOf q_onOf q_sticksOf q_page q_savedDepth q_gameSize q_gamePlace q_gameSticks q_gameDepth q_keptDepth q_keptSize q_keptPlace q_keptOn q_keptSticks m_isLawn m_lawns m_wetness m_strength m_days m_balls m_asks m_books m_pageLength m_faultAt m_savedSize m_savedPlace m_savedSticks m_bestSize m_bestFirst m_seedNow m_isKept m_keptLawn m_keptBalls m_keptStrength m_keptDays m_h (r.1) m_kindOf (r.2.1) (r.2.2.1) m_onOf (r.2.2.2) m_page m_savedDepth m_gameSize m_gamePlace m_gameSticks m_gameDepth m_keptDepth m_keptSize m_keptPlace m_keptOn m_keptSticks))) (oo := (fun (r : (Nat → Int32) × (Nat → Int32) × (Nat → Int32) × (Nat → Int32)) => none)) hF RX8 rfl rfl (Nat.le_of_ble_eq_true rfl) ?_
  intro p e s m args below meth c A K hret hlk
  rewrite [f_X8_doRoll]
  refine s_aload_n K dX8_doRoll_0 rfl 0 rfl ?_
  refine s_get K 0 rfl rfl inT8 9 (Nat.le_of_ble_eq_true rfl) t_562 rfl rfl dX8_doRoll_1 ?_
  refine s_iload_n K dX8_doRoll_4 rfl 1 rfl ?_
  refine s_ck (fun ho_1 => ?_)
  refine s_iald K 4 0 rfl rfl (ok_in ho_1) rfl dX8_doRoll_5 ?_
  refine s_iload_n K dX8_doRoll_6 rfl 2 rfl ?_
  refine s_bind (fun q hq_3 => ?_)
  obtain ⟨r_2, rfl⟩ : ∃ z, z = q := ⟨_, rfl⟩
  refine s_callS0 (rest := []) (st1 := [.int r_2]) K (c_X8_beside (m_placeOf (Int32.toNatClampNeg a1)) a2 hq_3) hd_X8_beside t_769 t_770 t_10 t_771 ⟨(Nat.le_of_ble_eq_true rfl), (Nat.le_of_ble_eq_true rfl)⟩ ⟨rfl, rfl⟩ ⟨Nat.zero_le _, Nat.zero_le _⟩ rfl rfl (Nat.le_of_ble_eq_true rfl) dX8_doRoll_7 ?_
  refine s_istore_n (lv' := [(3, .int r_2), (0, .ref mh), (1, .int a1), (2, .int a2)]) K dX8_doRoll_10 rfl (Nat.le_of_ble_eq_true rfl) rfl ?_
  refine s_aload_n K dX8_doRoll_11 rfl 1 rfl ?_
  refine s_iload_n K dX8_doRoll_12 rfl 2 rfl ?_
  refine s_bind (fun q hq_5 => ?_)
  obtain ⟨r_4, rfl⟩ : ∃ z, z = q := ⟨_, rfl⟩
  refine s_callV (w' := (wM cI cC cB cQ kc mh q_depthOf q_kindOf q_sizeOf q_placeOf q_onOf q_sticksOf q_page q_savedDepth q_gameSize q_gamePlace q_gameSticks q_gameDepth q_keptDepth q_keptSize q_keptPlace q_keptOn q_keptSticks m_isLawn m_lawns m_wetness m_strength m_days m_balls m_asks m_books m_pageLength m_faultAt m_savedSize m_savedPlace m_savedSticks m_bestSize m_bestFirst m_seedNow m_isKept m_keptLawn m_keptBalls m_keptStrength m_keptDays m_h m_depthOf m_kindOf m_sizeOf m_placeOf m_onOf m_sticksOf m_page m_savedDepth m_gameSize m_gamePlace m_gameSticks m_gameDepth m_keptDepth m_keptSize m_keptPlace m_keptOn m_keptSticks)) (rest := []) (st1 := [.int r_4]) K (c_X8_breadth mh q_depthOf q_kindOf q_sizeOf q_placeOf q_onOf q_sticksOf q_page q_savedDepth q_gameSize q_gamePlace q_gameSticks q_gameDepth q_keptDepth q_keptSize q_keptPlace q_keptOn q_keptSticks m_isLawn m_lawns m_wetness m_strength m_days m_balls m_asks m_books m_pageLength m_faultAt m_savedSize m_savedPlace m_savedSticks m_bestSize m_bestFirst m_seedNow m_isKept m_keptLawn m_keptBalls m_keptStrength m_keptDays m_h m_depthOf m_kindOf m_sizeOf m_placeOf m_onOf m_sticksOf m_page m_savedDepth m_gameSize m_gamePlace m_gameSticks m_gameDepth m_keptDepth m_keptSize m_keptPlace m_keptOn m_keptSticks a1 hq_5) rfl hd_X8_breadth t_745 t_747 ts_16 t_10 t_748 ⟨(Nat.le_of_ble_eq_true rfl), (Nat.le_of_ble_eq_true rfl)⟩ ⟨rfl, rfl⟩ ⟨Nat.zero_le _, Nat.zero_le _⟩ (rv_o K 0 rfl rfl) [0, 1, 2, 3, 4, 5, 6, 7, 8, 9, 10, 11, 12, 13, 14, 15, 16, 17] [] [0, 1, 2, 3, 4, 5, 6, 7, 8, 9, 10, 11, 12, 13, 14, 15, 16, 17] rfl rfl rfl rfl (by decide) rfl rfl rfl rfl (Nat.le_of_ble_eq_true rfl) dX8_doRoll_13 ?_
  refine s_aload_n K dX8_doRoll_16 rfl 1 rfl ?_
  refine s_get K 0 rfl rfl inT8 2 (Nat.le_of_ble_eq_true rfl) t_555 rfl rfl dX8_doRoll_17 ?_
  refine s_iload_n K dX8_doRoll_20 rfl 0 rfl ?_
  refine s_ck (fun ho_6 => ?_)
  refine s_iald K 1 0 rfl rfl (ok_in ho_6) rfl dX8_doRoll_21 ?_
  refine s_icmp_ge (tgt := 33) K dX8_doRoll_22 (by decide) (fun c_7 => ?_) (fun c_7 => ?_)
  · refine s_aload_n K dX8_doRoll_33 rfl 1 rfl ?_
    refine s_get K 0 rfl rfl inT8 2 (Nat.le_of_ble_eq_true rfl) t_555 rfl rfl dX8_doRoll_34 ?_
    refine s_iload_n K dX8_doRoll_37 rfl 0 rfl ?_
    refine s_iald K 1 0 rfl rfl (ok_in ho_6) rfl dX8_doRoll_38 ?_
    refine s_istore (lv' := [(4, .int (m_depthOf (Int32.toNatClampNeg r_2))), (3, .int r_2), (0, .ref mh), (1, .int a1), (2, .int a2)]) K dX8_doRoll_39 (Nat.le_of_ble_eq_true rfl) rfl ?_
    refine s_aload_n K dX8_doRoll_41 rfl 2 rfl ?_
    refine s_get K 0 rfl rfl inT8 7 (Nat.le_of_ble_eq_true rfl) t_560 rfl rfl dX8_doRoll_42 ?_
    refine s_iload_n K dX8_doRoll_45 rfl 3 rfl ?_
    refine s_iald K 2 0 rfl rfl (ok_in ho_1) rfl dX8_doRoll_46 ?_
    refine s_iconst K dX8_doRoll_47 kic_2 ?_
    refine s_icmp_eq (tgt := 69) K dX8_doRoll_48 (by decide) (fun c_8 => ?_) (fun c_8 => ?_)
    · refine s_iconst K dX8_doRoll_69 kic_1 ?_
      refine s_goto (tgt := 74) K dX8_doRoll_70 (by decide) ?_
      refine s_istore (lv' := [(5, .int 1), (4, .int (m_depthOf (Int32.toNatClampNeg r_2))), (3, .int r_2), (0, .ref mh), (1, .int a1), (2, .int a2)]) K dX8_doRoll_74 (Nat.le_of_ble_eq_true rfl) rfl ?_
      refine s_iload K dX8_doRoll_76 0 rfl ?_
      refine s_if_eqF K dX8_doRoll_78 90 (by decide) (by decide +kernel) ?_
      refine s_iload K dX8_doRoll_81 1 rfl ?_
      refine s_iconst K dX8_doRoll_83 kic_1 ?_
      refine s_iadd K dX8_doRoll_84 ?_
      refine s_iconst K dX8_doRoll_85 kic_2 ?_
      refine s_idiv K dX8_doRoll_86 knz_2 ?_
      refine s_goto (tgt := 92) K dX8_doRoll_87 (by decide) ?_
      refine s_istore (lv' := [(6, .int (((m_depthOf (Int32.toNatClampNeg r_2)) + 1) / 2)), (5, .int 1), (4, .int (m_depthOf (Int32.toNatClampNeg r_2))), (3, .int r_2), (0, .ref mh), (1, .int a1), (2, .int a2)]) K dX8_doRoll_92 (Nat.le_of_ble_eq_true rfl) rfl ?_
      refine s_aload_n K dX8_doRoll_94 rfl 4 rfl ?_
      refine s_get K 0 rfl rfl inT8 2 (Nat.le_of_ble_eq_true rfl) t_555 rfl rfl dX8_doRoll_95 ?_
      refine s_iload_n K dX8_doRoll_98 rfl 3 rfl ?_
      refine s_dup2 K dX8_doRoll_99 rfl rfl ?_
      refine s_iald K 1 0 rfl rfl (ok_in ho_6) rfl dX8_doRoll_100 ?_
      refine s_iload K dX8_doRoll_101 0 rfl ?_
      refine s_isub K dX8_doRoll_103 ?_
      refine s_iast (w' := (wM cI cC cB cQ kc mh q_depthOf q_kindOf q_sizeOf q_placeOf q_onOf q_sticksOf q_page q_savedDepth q_gameSize q_gamePlace q_gameSticks q_gameDepth q_keptDepth q_keptSize q_keptPlace q_keptOn q_keptSticks m_isLawn m_lawns m_wetness m_strength m_days m_balls m_asks m_books m_pageLength m_faultAt m_savedSize m_savedPlace m_savedSticks m_bestSize m_bestFirst m_seedNow m_isKept m_keptLawn m_keptBalls m_keptStrength m_keptDays m_h (upd m_depthOf (Int32.toNatClampNeg r_2) ((m_depthOf (Int32.toNatClampNeg r_2)) - (((m_depthOf (Int32.toNatClampNeg r_2)) + 1) / 2))) m_kindOf m_sizeOf m_placeOf m_onOf m_sticksOf m_page m_savedDepth m_gameSize m_gamePlace m_gameSticks m_gameDepth m_keptDepth m_keptSize m_keptPlace m_keptOn m_keptSticks)) K 1 0 rfl rfl (ok_in ho_6) rfl rfl dX8_doRoll_104 ?_
      refine s_aload_n K dX8_doRoll_105 rfl 4 rfl ?_
      refine s_get K 0 rfl rfl inT8 8 (Nat.le_of_ble_eq_true rfl) t_561 rfl rfl dX8_doRoll_106 ?_
      refine s_iload_n K dX8_doRoll_109 rfl 5 rfl ?_
      refine s_dup2 K dX8_doRoll_110 rfl rfl ?_
      refine s_iald K 3 0 rfl rfl (ok_in ho_1) rfl dX8_doRoll_111 ?_
      refine s_iload K dX8_doRoll_112 0 rfl ?_
      refine s_iadd K dX8_doRoll_114 ?_
      refine s_iast (w' := (wM cI cC cB cQ kc mh q_depthOf q_kindOf q_sizeOf q_placeOf q_onOf q_sticksOf q_page q_savedDepth q_gameSize q_gamePlace q_gameSticks q_gameDepth q_keptDepth q_keptSize q_keptPlace q_keptOn q_keptSticks m_isLawn m_lawns m_wetness m_strength m_days m_balls m_asks m_books m_pageLength m_faultAt m_savedSize m_savedPlace m_savedSticks m_bestSize m_bestFirst m_seedNow m_isKept m_keptLawn m_keptBalls m_keptStrength m_keptDays m_h (upd m_depthOf (Int32.toNatClampNeg r_2) ((m_depthOf (Int32.toNatClampNeg r_2)) - (((m_depthOf (Int32.toNatClampNeg r_2)) + 1) / 2))) m_kindOf (upd m_sizeOf (Int32.toNatClampNeg a1) ((m_sizeOf (Int32.toNatClampNeg a1)) + (((m_depthOf (Int32.toNatClampNeg r_2)) + 1) / 2))) m_placeOf m_onOf m_sticksOf m_page m_savedDepth m_gameSize m_gamePlace m_gameSticks m_gameDepth m_keptDepth m_keptSize m_keptPlace m_keptOn m_keptSticks)) K 3 0 rfl rfl (ok_in ho_1) rfl rfl dX8_doRoll_115 ?_
      refine s_aload_n K dX8_doRoll_116 rfl 4 rfl ?_
      refine s_get K 0 rfl rfl inT8 9 (Nat.le_of_ble_eq_true rfl) t_562 rfl rfl dX8_doRoll_117 ?_
      refine s_iload_n K dX8_doRoll_120 rfl 5 rfl ?_
      refine s_iload_n K dX8_doRoll_121 rfl 3 rfl ?_
      refine s_iast (w' := (wM cI cC cB cQ kc mh q_depthOf q_kindOf q_sizeOf q_placeOf q_onOf q_sticksOf q_page q_savedDepth q_gameSize q_gamePlace q_gameSticks q_gameDepth q_keptDepth q_keptSize q_keptPlace q_keptOn q_keptSticks m_isLawn m_lawns m_wetness m_strength m_days m_balls m_asks m_books m_pageLength m_faultAt m_savedSize m_savedPlace m_savedSticks m_bestSize m_bestFirst m_seedNow m_isKept m_keptLawn m_keptBalls m_keptStrength m_keptDays m_h (upd m_depthOf (Int32.toNatClampNeg r_2) ((m_depthOf (Int32.toNatClampNeg r_2)) - (((m_depthOf (Int32.toNatClampNeg r_2)) + 1) / 2))) m_kindOf (upd m_sizeOf (Int32.toNatClampNeg a1) ((m_sizeOf (Int32.toNatClampNeg a1)) + (((m_depthOf (Int32.toNatClampNeg r_2)) + 1) / 2))) (upd m_placeOf (Int32.toNatClampNeg a1) r_2) m_onOf m_sticksOf m_page m_savedDepth m_gameSize m_gamePlace m_gameSticks m_gameDepth m_keptDepth m_keptSize m_keptPlace m_keptOn m_keptSticks)) K 4 0 rfl rfl (ok_in ho_1) rfl rfl dX8_doRoll_122 ?_
      refine s_aload_n K dX8_doRoll_123 rfl 4 rfl ?_
      refine s_get K 0 rfl rfl inT8 11 (Nat.le_of_ble_eq_true rfl) t_564 rfl rfl dX8_doRoll_124 ?_
      refine s_iload_n K dX8_doRoll_127 rfl 5 rfl ?_
      refine s_aload_n K dX8_doRoll_128 rfl 4 rfl ?_
      refine s_get K 0 rfl rfl inT8 7 (Nat.le_of_ble_eq_true rfl) t_560 rfl rfl dX8_doRoll_129 ?_
      refine s_iload_n K dX8_doRoll_132 rfl 5 rfl ?_
      refine s_iald K 2 0 rfl rfl (ok_in ho_1) rfl dX8_doRoll_133 ?_
      refine s_iconst K dX8_doRoll_134 kic_1 ?_
      refine s_icmp_ne (tgt := 144) K dX8_doRoll_135 (by decide) (fun c_9 => ?_) (fun c_9 => ?_)
      · refine s_iload_n K dX8_doRoll_138 rfl 6 rfl ?_
        refine s_iconst K dX8_doRoll_139 kic_2 ?_
        refine s_irem K dX8_doRoll_140 knz_2 ?_
        refine s_goto (tgt := 145) K dX8_doRoll_141 (by decide) ?_
        refine s_iast (w' := (wM cI cC cB cQ kc mh q_depthOf q_kindOf q_sizeOf q_placeOf q_onOf q_sticksOf q_page q_savedDepth q_gameSize q_gamePlace q_gameSticks q_gameDepth q_keptDepth q_keptSize q_keptPlace q_keptOn q_keptSticks m_isLawn m_lawns m_wetness m_strength m_days m_balls m_asks m_books m_pageLength m_faultAt m_savedSize m_savedPlace m_savedSticks m_bestSize m_bestFirst m_seedNow m_isKept m_keptLawn m_keptBalls m_keptStrength m_keptDays m_h (upd m_depthOf (Int32.toNatClampNeg r_2) ((m_depthOf (Int32.toNatClampNeg r_2)) - (((m_depthOf (Int32.toNatClampNeg r_2)) + 1) / 2))) m_kindOf (upd m_sizeOf (Int32.toNatClampNeg a1) ((m_sizeOf (Int32.toNatClampNeg a1)) + (((m_depthOf (Int32.toNatClampNeg r_2)) + 1) / 2))) (upd m_placeOf (Int32.toNatClampNeg a1) r_2) m_onOf (upd m_sticksOf (Int32.toNatClampNeg a1) (a2 - a2 / 2 * 2)) m_page m_savedDepth m_gameSize m_gamePlace m_gameSticks m_gameDepth m_keptDepth m_keptSize m_keptPlace m_keptOn m_keptSticks)) K 6 0 rfl rfl (ok_in ho_1) rfl rfl dX8_doRoll_145 ?_
        refine s_aload_n K dX8_doRoll_146 rfl 4 rfl ?_
        refine s_get K 0 rfl rfl inT8 7 (Nat.le_of_ble_eq_true rfl) t_560 rfl rfl dX8_doRoll_147 ?_
        refine s_iload_n K dX8_doRoll_150 rfl 5 rfl ?_
        refine s_iald K 2 0 rfl rfl (ok_in ho_1) rfl dX8_doRoll_151 ?_
        refine s_iconst K dX8_doRoll_152 kic_2 ?_
        refine s_icmp_ne (tgt := 181) K dX8_doRoll_153 (by decide) (fun c_10 => ?_) (fun c_10 => ?_)
        · refine s_aload_n K dX8_doRoll_156 rfl 4 rfl ?_
          refine s_get K 0 rfl rfl inT8 8 (Nat.le_of_ble_eq_true rfl) t_561 rfl rfl dX8_doRoll_157 ?_
          refine s_iload_n K dX8_doRoll_160 rfl 5 rfl ?_
          refine s_iald K 3 0 rfl rfl (ok_in ho_1) rfl dX8_doRoll_161 ?_
          refine s_bipush K dX8_doRoll_162 kib_20 ?_
          refine s_icmp_le (tgt := 181) K dX8_doRoll_164 (by decide) (fun c_11 => ?_) (fun c_11 => ?_)
          · exact s_vret K hret hlk rfl rfl dX8_doRoll_181
          · refine s_aload_n K dX8_doRoll_167 rfl 4 rfl ?_
            refine s_get K 0 rfl rfl inT8 8 (Nat.le_of_ble_eq_true rfl) t_561 rfl rfl dX8_doRoll_168 ?_
            refine s_iload_n K dX8_doRoll_171 rfl 5 rfl ?_
            refine s_iconst K dX8_doRoll_172 kic_0 ?_
            refine s_iast (w' := (wM cI cC cB cQ kc mh q_depthOf q_kindOf q_sizeOf q_placeOf q_onOf q_sticksOf q_page q_savedDepth q_gameSize q_gamePlace q_gameSticks q_gameDepth q_keptDepth q_keptSize q_keptPlace q_keptOn q_keptSticks m_isLawn m_lawns m_wetness m_strength m_days m_balls m_asks m_books m_pageLength m_faultAt m_savedSize m_savedPlace m_savedSticks m_bestSize m_bestFirst m_seedNow m_isKept m_keptLawn m_keptBalls m_keptStrength m_keptDays m_h (upd m_depthOf (Int32.toNatClampNeg r_2) ((m_depthOf (Int32.toNatClampNeg r_2)) - (((m_depthOf (Int32.toNatClampNeg r_2)) + 1) / 2))) m_kindOf (upd (upd m_sizeOf (Int32.toNatClampNeg a1) ((m_sizeOf (Int32.toNatClampNeg a1)) + (((m_depthOf (Int32.toNatClampNeg r_2)) + 1) / 2))) (Int32.toNatClampNeg a1) 0) (upd m_placeOf (Int32.toNatClampNeg a1) r_2) m_onOf (upd m_sticksOf (Int32.toNatClampNeg a1) (a2 - a2 / 2 * 2)) m_page m_savedDepth m_gameSize m_gamePlace m_gameSticks m_gameDepth m_keptDepth m_keptSize m_keptPlace m_keptOn m_keptSticks)) K 3 0 rfl rfl (ok_in ho_1) rfl rfl dX8_doRoll_173 ?_
            refine s_aload_n K dX8_doRoll_174 rfl 4 rfl ?_
            refine s_get K 0 rfl rfl inT8 9 (Nat.le_of_ble_eq_true rfl) t_562 rfl rfl dX8_doRoll_175 ?_
            refine s_iload_n K dX8_doRoll_178 rfl 5 rfl ?_
            refine s_iconst K dX8_doRoll_179 kic_m1 ?_
            refine s_iast (w' := (wM cI cC cB cQ kc mh q_depthOf q_kindOf q_sizeOf q_placeOf q_onOf q_sticksOf q_page q_savedDepth q_gameSize q_gamePlace q_gameSticks q_gameDepth q_keptDepth q_keptSize q_keptPlace q_keptOn q_keptSticks m_isLawn m_lawns m_wetness m_strength m_days m_balls m_asks m_books m_pageLength m_faultAt m_savedSize m_savedPlace m_savedSticks m_bestSize m_bestFirst m_seedNow m_isKept m_keptLawn m_keptBalls m_keptStrength m_keptDays m_h (upd m_depthOf (Int32.toNatClampNeg r_2) ((m_depthOf (Int32.toNatClampNeg r_2)) - (((m_depthOf (Int32.toNatClampNeg r_2)) + 1) / 2))) m_kindOf (upd (upd m_sizeOf (Int32.toNatClampNeg a1) ((m_sizeOf (Int32.toNatClampNeg a1)) + (((m_depthOf (Int32.toNatClampNeg r_2)) + 1) / 2))) (Int32.toNatClampNeg a1) 0) (upd (upd m_placeOf (Int32.toNatClampNeg a1) r_2) (Int32.toNatClampNeg a1) (-1)) m_onOf (upd m_sticksOf (Int32.toNatClampNeg a1) (a2 - a2 / 2 * 2)) m_page m_savedDepth m_gameSize m_gamePlace m_gameSticks m_gameDepth m_keptDepth m_keptSize m_keptPlace m_keptOn m_keptSticks)) K 4 0 rfl rfl (ok_in ho_1) rfl rfl dX8_doRoll_180 ?_
            exact s_vret K hret hlk rfl rfl dX8_doRoll_181
        · exact s_vret K hret hlk rfl rfl dX8_doRoll_181
      · refine s_iconst K dX8_doRoll_144 kic_m1 ?_
        refine s_iast (w' := (wM cI cC cB cQ kc mh q_depthOf q_kindOf q_sizeOf q_placeOf q_onOf q_sticksOf q_page q_savedDepth q_gameSize q_gamePlace q_gameSticks q_gameDepth q_keptDepth q_keptSize q_keptPlace q_keptOn q_keptSticks m_isLawn m_lawns m_wetness m_strength m_days m_balls m_asks m_books m_pageLength m_faultAt m_savedSize m_savedPlace m_savedSticks m_bestSize m_bestFirst m_seedNow m_isKept m_keptLawn m_keptBalls m_keptStrength m_keptDays m_h (upd m_depthOf (Int32.toNatClampNeg r_2) ((m_depthOf (Int32.toNatClampNeg r_2)) - (((m_depthOf (Int32.toNatClampNeg r_2)) + 1) / 2))) m_kindOf (upd m_sizeOf (Int32.toNatClampNeg a1) ((m_sizeOf (Int32.toNatClampNeg a1)) + (((m_depthOf (Int32.toNatClampNeg r_2)) + 1) / 2))) (upd m_placeOf (Int32.toNatClampNeg a1) r_2) m_onOf (upd m_sticksOf (Int32.toNatClampNeg a1) (-1)) m_page m_savedDepth m_gameSize m_gamePlace m_gameSticks m_gameDepth m_keptDepth m_keptSize m_keptPlace m_keptOn m_keptSticks)) K 6 0 rfl rfl (ok_in ho_1) rfl rfl dX8_doRoll_145 ?_
        refine s_aload_n K dX8_doRoll_146 rfl 4 rfl ?_
        refine s_get K 0 rfl rfl inT8 7 (Nat.le_of_ble_eq_true rfl) t_560 rfl rfl dX8_doRoll_147 ?_
        refine s_iload_n K dX8_doRoll_150 rfl 5 rfl ?_
        refine s_iald K 2 0 rfl rfl (ok_in ho_1) rfl dX8_doRoll_151 ?_
        refine s_iconst K dX8_doRoll_152 kic_2 ?_
        refine s_icmp_ne (tgt := 181) K dX8_doRoll_153 (by decide) (fun c_12 => ?_) (fun c_12 => ?_)
        · refine s_aload_n K dX8_doRoll_156 rfl 4 rfl ?_
          refine s_get K 0 rfl rfl inT8 8 (Nat.le_of_ble_eq_true rfl) t_561 rfl rfl dX8_doRoll_157 ?_
          refine s_iload_n K dX8_doRoll_160 rfl 5 rfl ?_
          refine s_iald K 3 0 rfl rfl (ok_in ho_1) rfl dX8_doRoll_161 ?_
          refine s_bipush K dX8_doRoll_162 kib_20 ?_
          refine s_icmp_le (tgt := 181) K dX8_doRoll_164 (by decide) (fun c_13 => ?_) (fun c_13 => ?_)
          · exact s_vret K hret hlk rfl rfl dX8_doRoll_181
          · refine s_aload_n K dX8_doRoll_167 rfl 4 rfl ?_
            refine s_get K 0 rfl rfl inT8 8 (Nat.le_of_ble_eq_true rfl) t_561 rfl rfl dX8_doRoll_168 ?_
            refine s_iload_n K dX8_doRoll_171 rfl 5 rfl ?_
            refine s_iconst K dX8_doRoll_172 kic_0 ?_
            refine s_iast (w' := (wM cI cC cB cQ kc mh q_depthOf q_kindOf q_sizeOf q_placeOf q_onOf q_sticksOf q_page q_savedDepth q_gameSize q_gamePlace q_gameSticks q_gameDepth q_keptDepth q_keptSize q_keptPlace q_keptOn q_keptSticks m_isLawn m_lawns m_wetness m_strength m_days m_balls m_asks m_books m_pageLength m_faultAt m_savedSize m_savedPlace m_savedSticks m_bestSize m_bestFirst m_seedNow m_isKept m_keptLawn m_keptBalls m_keptStrength m_keptDays m_h (upd m_depthOf (Int32.toNatClampNeg r_2) ((m_depthOf (Int32.toNatClampNeg r_2)) - (((m_depthOf (Int32.toNatClampNeg r_2)) + 1) / 2))) m_kindOf (upd (upd m_sizeOf (Int32.toNatClampNeg a1) ((m_sizeOf (Int32.toNatClampNeg a1)) + (((m_depthOf (Int32.toNatClampNeg r_2)) + 1) / 2))) (Int32.toNatClampNeg a1) 0) (upd m_placeOf (Int32.toNatClampNeg a1) r_2) m_onOf (upd m_sticksOf (Int32.toNatClampNeg a1) (-1)) m_page m_savedDepth m_gameSize m_gamePlace m_gameSticks m_gameDepth m_keptDepth m_keptSize m_keptPlace m_keptOn m_keptSticks)) K 3 0 rfl rfl (ok_in ho_1) rfl rfl dX8_doRoll_173 ?_
            refine s_aload_n K dX8_doRoll_174 rfl 4 rfl ?_
            refine s_get K 0 rfl rfl inT8 9 (Nat.le_of_ble_eq_true rfl) t_562 rfl rfl dX8_doRoll_175 ?_
            refine s_iload_n K dX8_doRoll_178 rfl 5 rfl ?_
            refine s_iconst K dX8_doRoll_179 kic_m1 ?_
            refine s_iast (w' := (wM cI cC cB cQ kc mh q_depthOf q_kindOf q_sizeOf q_placeOf q_onOf q_sticksOf q_page q_savedDepth q_gameSize q_gamePlace q_gameSticks q_gameDepth q_keptDepth q_keptSize q_keptPlace q_keptOn q_keptSticks m_isLawn m_lawns m_wetness m_strength m_days m_balls m_asks m_books m_pageLength m_faultAt m_savedSize m_savedPlace m_savedSticks m_bestSize m_bestFirst m_seedNow m_isKept m_keptLawn m_keptBalls m_keptStrength m_keptDays m_h (upd m_depthOf (Int32.toNatClampNeg r_2) ((m_depthOf (Int32.toNatClampNeg r_2)) - (((m_depthOf (Int32.toNatClampNeg r_2)) + 1) / 2))) m_kindOf (upd (upd m_sizeOf (Int32.toNatClampNeg a1) ((m_sizeOf (Int32.toNatClampNeg a1)) + (((m_depthOf (Int32.toNatClampNeg r_2)) + 1) / 2))) (Int32.toNatClampNeg a1) 0) (upd (upd m_placeOf (Int32.toNatClampNeg a1) r_2) (Int32.toNatClampNeg a1) (-1)) m_onOf (upd m_sticksOf (Int32.toNatClampNeg a1) (-1)) m_page m_savedDepth m_gameSize m_gamePlace m_gameSticks m_gameDepth m_keptDepth m_keptSize m_keptPlace m_keptOn m_keptSticks)) K 4 0 rfl rfl (ok_in ho_1) rfl rfl dX8_doRoll_180 ?_
            exact s_vret K hret hlk rfl rfl dX8_doRoll_181
        · exact s_vret K hret hlk rfl rfl dX8_doRoll_181
    · refine s_aload_n K dX8_doRoll_51 rfl 2 rfl ?_
      refine s_get K 0 rfl rfl inT8 7 (Nat.le_of_ble_eq_true rfl) t_560 rfl rfl dX8_doRoll_52 ?_
      refine s_iload_n K dX8_doRoll_55 rfl 3 rfl ?_
      refine s_iald K 2 0 rfl rfl (ok_in ho_1) rfl dX8_doRoll_56 ?_
      refine s_iconst K dX8_doRoll_57 kic_2 ?_
      refine s_icmp_ge (tgt := 73) K dX8_doRoll_58 (by decide) (fun c_14 => ?_) (fun c_14 => ?_)
      · refine s_iconst K dX8_doRoll_73 kic_0 ?_
        refine s_istore (lv' := [(5, .int 0), (4, .int (m_depthOf (Int32.toNatClampNeg r_2))), (3, .int r_2), (0, .ref mh), (1, .int a1), (2, .int a2)]) K dX8_doRoll_74 (Nat.le_of_ble_eq_true rfl) rfl ?_
        refine s_iload K dX8_doRoll_76 0 rfl ?_
        refine s_if_eqT (tgt := 90) K dX8_doRoll_78 (by decide) (by decide +kernel) ?_
        refine s_iload K dX8_doRoll_90 1 rfl ?_
        refine s_istore (lv' := [(6, .int (m_depthOf (Int32.toNatClampNeg r_2))), (5, .int 0), (4, .int (m_depthOf (Int32.toNatClampNeg r_2))), (3, .int r_2), (0, .ref mh), (1, .int a1), (2, .int a2)]) K dX8_doRoll_92 (Nat.le_of_ble_eq_true rfl) rfl ?_
        refine s_aload_n K dX8_doRoll_94 rfl 4 rfl ?_
        refine s_get K 0 rfl rfl inT8 2 (Nat.le_of_ble_eq_true rfl) t_555 rfl rfl dX8_doRoll_95 ?_
        refine s_iload_n K dX8_doRoll_98 rfl 3 rfl ?_
        refine s_dup2 K dX8_doRoll_99 rfl rfl ?_
        refine s_iald K 1 0 rfl rfl (ok_in ho_6) rfl dX8_doRoll_100 ?_
        refine s_iload K dX8_doRoll_101 0 rfl ?_
        refine s_isub K dX8_doRoll_103 ?_
        refine s_iast (w' := (wM cI cC cB cQ kc mh q_depthOf q_kindOf q_sizeOf q_placeOf q_onOf q_sticksOf q_page q_savedDepth q_gameSize q_gamePlace q_gameSticks q_gameDepth q_keptDepth q_keptSize q_keptPlace q_keptOn q_keptSticks m_isLawn m_lawns m_wetness m_strength m_days m_balls m_asks m_books m_pageLength m_faultAt m_savedSize m_savedPlace m_savedSticks m_bestSize m_bestFirst m_seedNow m_isKept m_keptLawn m_keptBalls m_keptStrength m_keptDays m_h (upd m_depthOf (Int32.toNatClampNeg r_2) ((m_depthOf (Int32.toNatClampNeg r_2)) - (m_depthOf (Int32.toNatClampNeg r_2)))) m_kindOf m_sizeOf m_placeOf m_onOf m_sticksOf m_page m_savedDepth m_gameSize m_gamePlace m_gameSticks m_gameDepth m_keptDepth m_keptSize m_keptPlace m_keptOn m_keptSticks)) K 1 0 rfl rfl (ok_in ho_6) rfl rfl dX8_doRoll_104 ?_
        refine s_aload_n K dX8_doRoll_105 rfl 4 rfl ?_
        refine s_get K 0 rfl rfl inT8 8 (Nat.le_of_ble_eq_true rfl) t_561 rfl rfl dX8_doRoll_106 ?_
        refine s_iload_n K dX8_doRoll_109 rfl 5 rfl ?_
        refine s_dup2 K dX8_doRoll_110 rfl rfl ?_
        refine s_iald K 3 0 rfl rfl (ok_in ho_1) rfl dX8_doRoll_111 ?_
        refine s_iload K dX8_doRoll_112 0 rfl ?_
        refine s_iadd K dX8_doRoll_114 ?_
        refine s_iast (w' := (wM cI cC cB cQ kc mh q_depthOf q_kindOf q_sizeOf q_placeOf q_onOf q_sticksOf q_page q_savedDepth q_gameSize q_gamePlace q_gameSticks q_gameDepth q_keptDepth q_keptSize q_keptPlace q_keptOn q_keptSticks m_isLawn m_lawns m_wetness m_strength m_days m_balls m_asks m_books m_pageLength m_faultAt m_savedSize m_savedPlace m_savedSticks m_bestSize m_bestFirst m_seedNow m_isKept m_keptLawn m_keptBalls m_keptStrength m_keptDays m_h (upd m_depthOf (Int32.toNatClampNeg r_2) ((m_depthOf (Int32.toNatClampNeg r_2)) - (m_depthOf (Int32.toNatClampNeg r_2)))) m_kindOf (upd m_sizeOf (Int32.toNatClampNeg a1) ((m_sizeOf (Int32.toNatClampNeg a1)) + (m_depthOf (Int32.toNatClampNeg r_2)))) m_placeOf m_onOf m_sticksOf m_page m_savedDepth m_gameSize m_gamePlace m_gameSticks m_gameDepth m_keptDepth m_keptSize m_keptPlace m_keptOn m_keptSticks)) K 3 0 rfl rfl (ok_in ho_1) rfl rfl dX8_doRoll_115 ?_
        refine s_aload_n K dX8_doRoll_116 rfl 4 rfl ?_
        refine s_get K 0 rfl rfl inT8 9 (Nat.le_of_ble_eq_true rfl) t_562 rfl rfl dX8_doRoll_117 ?_
        refine s_iload_n K dX8_doRoll_120 rfl 5 rfl ?_
        refine s_iload_n K dX8_doRoll_121 rfl 3 rfl ?_
        refine s_iast (w' := (wM cI cC cB cQ kc mh q_depthOf q_kindOf q_sizeOf q_placeOf q_onOf q_sticksOf q_page q_savedDepth q_gameSize q_gamePlace q_gameSticks q_gameDepth q_keptDepth q_keptSize q_keptPlace q_keptOn q_keptSticks m_isLawn m_lawns m_wetness m_strength m_days m_balls m_asks m_books m_pageLength m_faultAt m_savedSize m_savedPlace m_savedSticks m_bestSize m_bestFirst m_seedNow m_isKept m_keptLawn m_keptBalls m_keptStrength m_keptDays m_h (upd m_depthOf (Int32.toNatClampNeg r_2) ((m_depthOf (Int32.toNatClampNeg r_2)) - (m_depthOf (Int32.toNatClampNeg r_2)))) m_kindOf (upd m_sizeOf (Int32.toNatClampNeg a1) ((m_sizeOf (Int32.toNatClampNeg a1)) + (m_depthOf (Int32.toNatClampNeg r_2)))) (upd m_placeOf (Int32.toNatClampNeg a1) r_2) m_onOf m_sticksOf m_page m_savedDepth m_gameSize m_gamePlace m_gameSticks m_gameDepth m_keptDepth m_keptSize m_keptPlace m_keptOn m_keptSticks)) K 4 0 rfl rfl (ok_in ho_1) rfl rfl dX8_doRoll_122 ?_
        refine s_aload_n K dX8_doRoll_123 rfl 4 rfl ?_
        refine s_get K 0 rfl rfl inT8 11 (Nat.le_of_ble_eq_true rfl) t_564 rfl rfl dX8_doRoll_124 ?_
        refine s_iload_n K dX8_doRoll_127 rfl 5 rfl ?_
        refine s_aload_n K dX8_doRoll_128 rfl 4 rfl ?_
        refine s_get K 0 rfl rfl inT8 7 (Nat.le_of_ble_eq_true rfl) t_560 rfl rfl dX8_doRoll_129 ?_
        refine s_iload_n K dX8_doRoll_132 rfl 5 rfl ?_
        refine s_iald K 2 0 rfl rfl (ok_in ho_1) rfl dX8_doRoll_133 ?_
        refine s_iconst K dX8_doRoll_134 kic_1 ?_
        refine s_icmp_ne (tgt := 144) K dX8_doRoll_135 (by decide) (fun c_15 => ?_) (fun c_15 => ?_)
        · refine s_iload_n K dX8_doRoll_138 rfl 6 rfl ?_
          refine s_iconst K dX8_doRoll_139 kic_2 ?_
          refine s_irem K dX8_doRoll_140 knz_2 ?_
          refine s_goto (tgt := 145) K dX8_doRoll_141 (by decide) ?_
          refine s_iast (w' := (wM cI cC cB cQ kc mh q_depthOf q_kindOf q_sizeOf q_placeOf q_onOf q_sticksOf q_page q_savedDepth q_gameSize q_gamePlace q_gameSticks q_gameDepth q_keptDepth q_keptSize q_keptPlace q_keptOn q_keptSticks m_isLawn m_lawns m_wetness m_strength m_days m_balls m_asks m_books m_pageLength m_faultAt m_savedSize m_savedPlace m_savedSticks m_bestSize m_bestFirst m_seedNow m_isKept m_keptLawn m_keptBalls m_keptStrength m_keptDays m_h (upd m_depthOf (Int32.toNatClampNeg r_2) ((m_depthOf (Int32.toNatClampNeg r_2)) - (m_depthOf (Int32.toNatClampNeg r_2)))) m_kindOf (upd m_sizeOf (Int32.toNatClampNeg a1) ((m_sizeOf (Int32.toNatClampNeg a1)) + (m_depthOf (Int32.toNatClampNeg r_2)))) (upd m_placeOf (Int32.toNatClampNeg a1) r_2) m_onOf (upd m_sticksOf (Int32.toNatClampNeg a1) (a2 - a2 / 2 * 2)) m_page m_savedDepth m_gameSize m_gamePlace m_gameSticks m_gameDepth m_keptDepth m_keptSize m_keptPlace m_keptOn m_keptSticks)) K 6 0 rfl rfl (ok_in ho_1) rfl rfl dX8_doRoll_145 ?_
          refine s_aload_n K dX8_doRoll_146 rfl 4 rfl ?_
          refine s_get K 0 rfl rfl inT8 7 (Nat.le_of_ble_eq_true rfl) t_560 rfl rfl dX8_doRoll_147 ?_
          refine s_iload_n K dX8_doRoll_150 rfl 5 rfl ?_
          refine s_iald K 2 0 rfl rfl (ok_in ho_1) rfl dX8_doRoll_151 ?_
          refine s_iconst K dX8_doRoll_152 kic_2 ?_
          refine s_icmp_ne (tgt := 181) K dX8_doRoll_153 (by decide) (fun c_16 => ?_) (fun c_16 => ?_)
          · refine s_aload_n K dX8_doRoll_156 rfl 4 rfl ?_
            refine s_get K 0 rfl rfl inT8 8 (Nat.le_of_ble_eq_true rfl) t_561 rfl rfl dX8_doRoll_157 ?_
            refine s_iload_n K dX8_doRoll_160 rfl 5 rfl ?_
            refine s_iald K 3 0 rfl rfl (ok_in ho_1) rfl dX8_doRoll_161 ?_
            refine s_bipush K dX8_doRoll_162 kib_20 ?_
            refine s_icmp_le (tgt := 181) K dX8_doRoll_164 (by decide) (fun c_17 => ?_) (fun c_17 => ?_)
            · exact s_vret K hret hlk rfl rfl dX8_doRoll_181
            · refine s_aload_n K dX8_doRoll_167 rfl 4 rfl ?_
              refine s_get K 0 rfl rfl inT8 8 (Nat.le_of_ble_eq_true rfl) t_561 rfl rfl dX8_doRoll_168 ?_
              refine s_iload_n K dX8_doRoll_171 rfl 5 rfl ?_
              refine s_iconst K dX8_doRoll_172 kic_0 ?_
              refine s_iast (w' := (wM cI cC cB cQ kc mh q_depthOf q_kindOf q_sizeOf q_placeOf q_onOf q_sticksOf q_page q_savedDepth q_gameSize q_gamePlace q_gameSticks q_gameDepth q_keptDepth q_keptSize q_keptPlace q_keptOn q_keptSticks m_isLawn m_lawns m_wetness m_strength m_days m_balls m_asks m_books m_pageLength m_faultAt m_savedSize m_savedPlace m_savedSticks m_bestSize m_bestFirst m_seedNow m_isKept m_keptLawn m_keptBalls m_keptStrength m_keptDays m_h (upd m_depthOf (Int32.toNatClampNeg r_2) ((m_depthOf (Int32.toNatClampNeg r_2)) - (m_depthOf (Int32.toNatClampNeg r_2)))) m_kindOf (upd (upd m_sizeOf (Int32.toNatClampNeg a1) ((m_sizeOf (Int32.toNatClampNeg a1)) + (m_depthOf (Int32.toNatClampNeg r_2)))) (Int32.toNatClampNeg a1) 0) (upd m_placeOf (Int32.toNatClampNeg a1) r_2) m_onOf (upd m_sticksOf (Int32.toNatClampNeg a1) (a2 - a2 / 2 * 2)) m_page m_savedDepth m_gameSize m_gamePlace m_gameSticks m_gameDepth m_keptDepth m_keptSize m_keptPlace m_keptOn m_keptSticks)) K 3 0 rfl rfl (ok_in ho_1) rfl rfl dX8_doRoll_173 ?_
              refine s_aload_n K dX8_doRoll_174 rfl 4 rfl ?_
              refine s_get K 0 rfl rfl inT8 9 (Nat.le_of_ble_eq_true rfl) t_562 rfl rfl dX8_doRoll_175 ?_
              refine s_iload_n K dX8_doRoll_178 rfl 5 rfl ?_
              refine s_iconst K dX8_doRoll_179 kic_m1 ?_
              refine s_iast (w' := (wM cI cC cB cQ kc mh q_depthOf q_kindOf q_sizeOf q_placeOf q_onOf q_sticksOf q_page q_savedDepth q_gameSize q_gamePlace q_gameSticks q_gameDepth q_keptDepth q_keptSize q_keptPlace q_keptOn q_keptSticks m_isLawn m_lawns m_wetness m_strength m_days m_balls m_asks m_books m_pageLength m_faultAt m_savedSize m_savedPlace m_savedSticks m_bestSize m_bestFirst m_seedNow m_isKept m_keptLawn m_keptBalls m_keptStrength m_keptDays m_h (upd m_depthOf (Int32.toNatClampNeg r_2) ((m_depthOf (Int32.toNatClampNeg r_2)) - (m_depthOf (Int32.toNatClampNeg r_2)))) m_kindOf (upd (upd m_sizeOf (Int32.toNatClampNeg a1) ((m_sizeOf (Int32.toNatClampNeg a1)) + (m_depthOf (Int32.toNatClampNeg r_2)))) (Int32.toNatClampNeg a1) 0) (upd (upd m_placeOf (Int32.toNatClampNeg a1) r_2) (Int32.toNatClampNeg a1) (-1)) m_onOf (upd m_sticksOf (Int32.toNatClampNeg a1) (a2 - a2 / 2 * 2)) m_page m_savedDepth m_gameSize m_gamePlace m_gameSticks m_gameDepth m_keptDepth m_keptSize m_keptPlace m_keptOn m_keptSticks)) K 4 0 rfl rfl (ok_in ho_1) rfl rfl dX8_doRoll_180 ?_
              exact s_vret K hret hlk rfl rfl dX8_doRoll_181
          · exact s_vret K hret hlk rfl rfl dX8_doRoll_181
        · refine s_iconst K dX8_doRoll_144 kic_m1 ?_
          refine s_iast (w' := (wM cI cC cB cQ kc mh q_depthOf q_kindOf q_sizeOf q_placeOf q_onOf q_sticksOf q_page q_savedDepth q_gameSize q_gamePlace q_gameSticks q_gameDepth q_keptDepth q_keptSize q_keptPlace q_keptOn q_keptSticks m_isLawn m_lawns m_wetness m_strength m_days m_balls m_asks m_books m_pageLength m_faultAt m_savedSize m_savedPlace m_savedSticks m_bestSize m_bestFirst m_seedNow m_isKept m_keptLawn m_keptBalls m_keptStrength m_keptDays m_h (upd m_depthOf (Int32.toNatClampNeg r_2) ((m_depthOf (Int32.toNatClampNeg r_2)) - (m_depthOf (Int32.toNatClampNeg r_2)))) m_kindOf (upd m_sizeOf (Int32.toNatClampNeg a1) ((m_sizeOf (Int32.toNatClampNeg a1)) + (m_depthOf (Int32.toNatClampNeg r_2)))) (upd m_placeOf (Int32.toNatClampNeg a1) r_2) m_onOf (upd m_sticksOf (Int32.toNatClampNeg a1) (-1)) m_page m_savedDepth m_gameSize m_gamePlace m_gameSticks m_gameDepth m_keptDepth m_keptSize m_keptPlace m_keptOn m_keptSticks)) K 6 0 rfl rfl (ok_in ho_1) rfl rfl dX8_doRoll_145 ?_
          refine s_aload_n K dX8_doRoll_146 rfl 4 rfl ?_
          refine s_get K 0 rfl rfl inT8 7 (Nat.le_of_ble_eq_true rfl) t_560 rfl rfl dX8_doRoll_147 ?_
          refine s_iload_n K dX8_doRoll_150 rfl 5 rfl ?_
          refine s_iald K 2 0 rfl rfl (ok_in ho_1) rfl dX8_doRoll_151 ?_
          refine s_iconst K dX8_doRoll_152 kic_2 ?_
          refine s_icmp_ne (tgt := 181) K dX8_doRoll_153 (by decide) (fun c_18 => ?_) (fun c_18 => ?_)
          · refine s_aload_n K dX8_doRoll_156 rfl 4 rfl ?_
            refine s_get K 0 rfl rfl inT8 8 (Nat.le_of_ble_eq_true rfl) t_561 rfl rfl dX8_doRoll_157 ?_
            refine s_iload_n K dX8_doRoll_160 rfl 5 rfl ?_
            refine s_iald K 3 0 rfl rfl (ok_in ho_1) rfl dX8_doRoll_161 ?_
            refine s_bipush K dX8_doRoll_162 kib_20 ?_
            refine s_icmp_le (tgt := 181) K dX8_doRoll_164 (by decide) (fun c_19 => ?_) (fun c_19 => ?_)
            · exact s_vret K hret hlk rfl rfl dX8_doRoll_181
            · refine s_aload_n K dX8_doRoll_167 rfl 4 rfl ?_
              refine s_get K 0 rfl rfl inT8 8 (Nat.le_of_ble_eq_true rfl) t_561 rfl rfl dX8_doRoll_168 ?_
              refine s_iload_n K dX8_doRoll_171 rfl 5 rfl ?_
              refine s_iconst K dX8_doRoll_172 kic_0 ?_
              refine s_iast (w' := (wM cI cC cB cQ kc mh q_depthOf q_kindOf q_sizeOf q_placeOf q_onOf q_sticksOf q_page q_savedDepth q_gameSize q_gamePlace q_gameSticks q_gameDepth q_keptDepth q_keptSize q_keptPlace q_keptOn q_keptSticks m_isLawn m_lawns m_wetness m_strength m_days m_balls m_asks m_books m_pageLength m_faultAt m_savedSize m_savedPlace m_savedSticks m_bestSize m_bestFirst m_seedNow m_isKept m_keptLawn m_keptBalls m_keptStrength m_keptDays m_h (upd m_depthOf (Int32.toNatClampNeg r_2) ((m_depthOf (Int32.toNatClampNeg r_2)) - (m_depthOf (Int32.toNatClampNeg r_2)))) m_kindOf (upd (upd m_sizeOf (Int32.toNatClampNeg a1) ((m_sizeOf (Int32.toNatClampNeg a1)) + (m_depthOf (Int32.toNatClampNeg r_2)))) (Int32.toNatClampNeg a1) 0) (upd m_placeOf (Int32.toNatClampNeg a1) r_2) m_onOf (upd m_sticksOf (Int32.toNatClampNeg a1) (-1)) m_page m_savedDepth m_gameSize m_gamePlace m_gameSticks m_gameDepth m_keptDepth m_keptSize m_keptPlace m_keptOn m_keptSticks)) K 3 0 rfl rfl (ok_in ho_1) rfl rfl dX8_doRoll_173 ?_
              refine s_aload_n K dX8_doRoll_174 rfl 4 rfl ?_
              refine s_get K 0 rfl rfl inT8 9 (Nat.le_of_ble_eq_true rfl) t_562 rfl rfl dX8_doRoll_175 ?_
              refine s_iload_n K dX8_doRoll_178 rfl 5 rfl ?_
              refine s_iconst K dX8_doRoll_179 kic_m1 ?_
              refine s_iast (w' := (wM cI cC cB cQ kc mh q_depthOf q_kindOf q_sizeOf q_placeOf q_onOf q_sticksOf q_page q_savedDepth q_gameSize q_gamePlace q_gameSticks q_gameDepth q_keptDepth q_keptSize q_keptPlace q_keptOn q_keptSticks m_isLawn m_lawns m_wetness m_strength m_days m_balls m_asks m_books m_pageLength m_faultAt m_savedSize m_savedPlace m_savedSticks m_bestSize m_bestFirst m_seedNow m_isKept m_keptLawn m_keptBalls m_keptStrength m_keptDays m_h (upd m_depthOf (Int32.toNatClampNeg r_2) ((m_depthOf (Int32.toNatClampNeg r_2)) - (m_depthOf (Int32.toNatClampNeg r_2)))) m_kindOf (upd (upd m_sizeOf (Int32.toNatClampNeg a1) ((m_sizeOf (Int32.toNatClampNeg a1)) + (m_depthOf (Int32.toNatClampNeg r_2)))) (Int32.toNatClampNeg a1) 0) (upd (upd m_placeOf (Int32.toNatClampNeg a1) r_2) (Int32.toNatClampNeg a1) (-1)) m_onOf (upd m_sticksOf (Int32.toNatClampNeg a1) (-1)) m_page m_savedDepth m_gameSize m_gamePlace m_gameSticks m_gameDepth m_keptDepth m_keptSize m_keptPlace m_keptOn m_keptSticks)) K 4 0 rfl rfl (ok_in ho_1) rfl rfl dX8_doRoll_180 ?_
              exact s_vret K hret hlk rfl rfl dX8_doRoll_181
          · exact s_vret K hret hlk rfl rfl dX8_doRoll_181
      · refine s_aload_n K dX8_doRoll_61 rfl 2 rfl ?_
        refine s_get K 0 rfl rfl inT8 3 (Nat.le_of_ble_eq_true rfl) t_556 rfl rfl dX8_doRoll_62 ?_
        refine s_iconst K dX8_doRoll_65 kic_4 ?_
        refine s_icmp_ge (tgt := 73) K dX8_doRoll_66 (by decide) (fun c_20 => ?_) (fun c_20 => ?_)
        · refine s_iconst K dX8_doRoll_73 kic_0 ?_
          refine s_istore (lv' := [(5, .int 0), (4, .int (m_depthOf (Int32.toNatClampNeg r_2))), (3, .int r_2), (0, .ref mh), (1, .int a1), (2, .int a2)]) K dX8_doRoll_74 (Nat.le_of_ble_eq_true rfl) rfl ?_
          refine s_iload K dX8_doRoll_76 0 rfl ?_
          refine s_if_eqT (tgt := 90) K dX8_doRoll_78 (by decide) (by decide +kernel) ?_
          refine s_iload K dX8_doRoll_90 1 rfl ?_
          refine s_istore (lv' := [(6, .int (m_depthOf (Int32.toNatClampNeg r_2))), (5, .int 0), (4, .int (m_depthOf (Int32.toNatClampNeg r_2))), (3, .int r_2), (0, .ref mh), (1, .int a1), (2, .int a2)]) K dX8_doRoll_92 (Nat.le_of_ble_eq_true rfl) rfl ?_
          refine s_aload_n K dX8_doRoll_94 rfl 4 rfl ?_
          refine s_get K 0 rfl rfl inT8 2 (Nat.le_of_ble_eq_true rfl) t_555 rfl rfl dX8_doRoll_95 ?_
          refine s_iload_n K dX8_doRoll_98 rfl 3 rfl ?_
          refine s_dup2 K dX8_doRoll_99 rfl rfl ?_
          refine s_iald K 1 0 rfl rfl (ok_in ho_6) rfl dX8_doRoll_100 ?_
          refine s_iload K dX8_doRoll_101 0 rfl ?_
          refine s_isub K dX8_doRoll_103 ?_
          refine s_iast (w' := (wM cI cC cB cQ kc mh q_depthOf q_kindOf q_sizeOf q_placeOf q_onOf q_sticksOf q_page q_savedDepth q_gameSize q_gamePlace q_gameSticks q_gameDepth q_keptDepth q_keptSize q_keptPlace q_keptOn q_keptSticks m_isLawn m_lawns m_wetness m_strength m_days m_balls m_asks m_books m_pageLength m_faultAt m_savedSize m_savedPlace m_savedSticks m_bestSize m_bestFirst m_seedNow m_isKept m_keptLawn m_keptBalls m_keptStrength m_keptDays m_h (upd m_depthOf (Int32.toNatClampNeg r_2) ((m_depthOf (Int32.toNatClampNeg r_2)) - (m_depthOf (Int32.toNatClampNeg r_2)))) m_kindOf m_sizeOf m_placeOf m_onOf m_sticksOf m_page m_savedDepth m_gameSize m_gamePlace m_gameSticks m_gameDepth m_keptDepth m_keptSize m_keptPlace m_keptOn m_keptSticks)) K 1 0 rfl rfl (ok_in ho_6) rfl rfl dX8_doRoll_104 ?_
          refine s_aload_n K dX8_doRoll_105 rfl 4 rfl ?_
          refine s_get K 0 rfl rfl inT8 8 (Nat.le_of_ble_eq_true rfl) t_561 rfl rfl dX8_doRoll_106 ?_
          refine s_iload_n K dX8_doRoll_109 rfl 5 rfl ?_
          refine s_dup2 K dX8_doRoll_110 rfl rfl ?_
          refine s_iald K 3 0 rfl rfl (ok_in ho_1) rfl dX8_doRoll_111 ?_
          refine s_iload K dX8_doRoll_112 0 rfl ?_
          refine s_iadd K dX8_doRoll_114 ?_
          refine s_iast (w' := (wM cI cC cB cQ kc mh q_depthOf q_kindOf q_sizeOf q_placeOf q_onOf q_sticksOf q_page q_savedDepth q_gameSize q_gamePlace q_gameSticks q_gameDepth q_keptDepth q_keptSize q_keptPlace q_keptOn q_keptSticks m_isLawn m_lawns m_wetness m_strength m_days m_balls m_asks m_books m_pageLength m_faultAt m_savedSize m_savedPlace m_savedSticks m_bestSize m_bestFirst m_seedNow m_isKept m_keptLawn m_keptBalls m_keptStrength m_keptDays m_h (upd m_depthOf (Int32.toNatClampNeg r_2) ((m_depthOf (Int32.toNatClampNeg r_2)) - (m_depthOf (Int32.toNatClampNeg r_2)))) m_kindOf (upd m_sizeOf (Int32.toNatClampNeg a1) ((m_sizeOf (Int32.toNatClampNeg a1)) + (m_depthOf (Int32.toNatClampNeg r_2)))) m_placeOf m_onOf m_sticksOf m_page m_savedDepth m_gameSize m_gamePlace m_gameSticks m_gameDepth m_keptDepth m_keptSize m_keptPlace m_keptOn m_keptSticks)) K 3 0 rfl rfl (ok_in ho_1) rfl rfl dX8_doRoll_115 ?_
          refine s_aload_n K dX8_doRoll_116 rfl 4 rfl ?_
          refine s_get K 0 rfl rfl inT8 9 (Nat.le_of_ble_eq_true rfl) t_562 rfl rfl dX8_doRoll_117 ?_
          refine s_iload_n K dX8_doRoll_120 rfl 5 rfl ?_
          refine s_iload_n K dX8_doRoll_121 rfl 3 rfl ?_
          refine s_iast (w' := (wM cI cC cB cQ kc mh q_depthOf q_kindOf q_sizeOf q_placeOf q_onOf q_sticksOf q_page q_savedDepth q_gameSize q_gamePlace q_gameSticks q_gameDepth q_keptDepth q_keptSize q_keptPlace q_keptOn q_keptSticks m_isLawn m_lawns m_wetness m_strength m_days m_balls m_asks m_books m_pageLength m_faultAt m_savedSize m_savedPlace m_savedSticks m_bestSize m_bestFirst m_seedNow m_isKept m_keptLawn m_keptBalls m_keptStrength m_keptDays m_h (upd m_depthOf (Int32.toNatClampNeg r_2) ((m_depthOf (Int32.toNatClampNeg r_2)) - (m_depthOf (Int32.toNatClampNeg r_2)))) m_kindOf (upd m_sizeOf (Int32.toNatClampNeg a1) ((m_sizeOf (Int32.toNatClampNeg a1)) + (m_depthOf (Int32.toNatClampNeg r_2)))) (upd m_placeOf (Int32.toNatClampNeg a1) r_2) m_onOf m_sticksOf m_page m_savedDepth m_gameSize m_gamePlace m_gameSticks m_gameDepth m_keptDepth m_keptSize m_keptPlace m_keptOn m_keptSticks)) K 4 0 rfl rfl (ok_in ho_1) rfl rfl dX8_doRoll_122 ?_
          refine s_aload_n K dX8_doRoll_123 rfl 4 rfl ?_
          refine s_get K 0 rfl rfl inT8 11 (Nat.le_of_ble_eq_true rfl) t_564 rfl rfl dX8_doRoll_124 ?_
          refine s_iload_n K dX8_doRoll_127 rfl 5 rfl ?_
          refine s_aload_n K dX8_doRoll_128 rfl 4 rfl ?_
          refine s_get K 0 rfl rfl inT8 7 (Nat.le_of_ble_eq_true rfl) t_560 rfl rfl dX8_doRoll_129 ?_
          refine s_iload_n K dX8_doRoll_132 rfl 5 rfl ?_
          refine s_iald K 2 0 rfl rfl (ok_in ho_1) rfl dX8_doRoll_133 ?_
          refine s_iconst K dX8_doRoll_134 kic_1 ?_
          refine s_icmp_ne (tgt := 144) K dX8_doRoll_135 (by decide) (fun c_21 => ?_) (fun c_21 => ?_)
          · refine s_iload_n K dX8_doRoll_138 rfl 6 rfl ?_
            refine s_iconst K dX8_doRoll_139 kic_2 ?_
            refine s_irem K dX8_doRoll_140 knz_2 ?_
            refine s_goto (tgt := 145) K dX8_doRoll_141 (by decide) ?_
            refine s_iast (w' := (wM cI cC cB cQ kc mh q_depthOf q_kindOf q_sizeOf q_placeOf q_onOf q_sticksOf q_page q_savedDepth q_gameSize q_gamePlace q_gameSticks q_gameDepth q_keptDepth q_keptSize q_keptPlace q_keptOn q_keptSticks m_isLawn m_lawns m_wetness m_strength m_days m_balls m_asks m_books m_pageLength m_faultAt m_savedSize m_savedPlace m_savedSticks m_bestSize m_bestFirst m_seedNow m_isKept m_keptLawn m_keptBalls m_keptStrength m_keptDays m_h (upd m_depthOf (Int32.toNatClampNeg r_2) ((m_depthOf (Int32.toNatClampNeg r_2)) - (m_depthOf (Int32.toNatClampNeg r_2)))) m_kindOf (upd m_sizeOf (Int32.toNatClampNeg a1) ((m_sizeOf (Int32.toNatClampNeg a1)) + (m_depthOf (Int32.toNatClampNeg r_2)))) (upd m_placeOf (Int32.toNatClampNeg a1) r_2) m_onOf (upd m_sticksOf (Int32.toNatClampNeg a1) (a2 - a2 / 2 * 2)) m_page m_savedDepth m_gameSize m_gamePlace m_gameSticks m_gameDepth m_keptDepth m_keptSize m_keptPlace m_keptOn m_keptSticks)) K 6 0 rfl rfl (ok_in ho_1) rfl rfl dX8_doRoll_145 ?_
            refine s_aload_n K dX8_doRoll_146 rfl 4 rfl ?_
            refine s_get K 0 rfl rfl inT8 7 (Nat.le_of_ble_eq_true rfl) t_560 rfl rfl dX8_doRoll_147 ?_
            refine s_iload_n K dX8_doRoll_150 rfl 5 rfl ?_
            refine s_iald K 2 0 rfl rfl (ok_in ho_1) rfl dX8_doRoll_151 ?_
            refine s_iconst K dX8_doRoll_152 kic_2 ?_
            refine s_icmp_ne (tgt := 181) K dX8_doRoll_153 (by decide) (fun c_22 => ?_) (fun c_22 => ?_)
            · refine s_aload_n K dX8_doRoll_156 rfl 4 rfl ?_
              refine s_get K 0 rfl rfl inT8 8 (Nat.le_of_ble_eq_true rfl) t_561 rfl rfl dX8_doRoll_157 ?_
              refine s_iload_n K dX8_doRoll_160 rfl 5 rfl ?_
              refine s_iald K 3 0 rfl rfl (ok_in ho_1) rfl dX8_doRoll_161 ?_
              refine s_bipush K dX8_doRoll_162 kib_20 ?_
              refine s_icmp_le (tgt := 181) K dX8_doRoll_164 (by decide) (fun c_23 => ?_) (fun c_23 => ?_)
              · exact s_vret K hret hlk rfl rfl dX8_doRoll_181
              · refine s_aload_n K dX8_doRoll_167 rfl 4 rfl ?_
                refine s_get K 0 rfl rfl inT8 8 (Nat.le_of_ble_eq_true rfl) t_561 rfl rfl dX8_doRoll_168 ?_
                refine s_iload_n K dX8_doRoll_171 rfl 5 rfl ?_
                refine s_iconst K dX8_doRoll_172 kic_0 ?_
                refine s_iast (w' := (wM cI cC cB cQ kc mh q_depthOf q_kindOf q_sizeOf q_placeOf q_onOf q_sticksOf q_page q_savedDepth q_gameSize q_gamePlace q_gameSticks q_gameDepth q_keptDepth q_keptSize q_keptPlace q_keptOn q_keptSticks m_isLawn m_lawns m_wetness m_strength m_days m_balls m_asks m_books m_pageLength m_faultAt m_savedSize m_savedPlace m_savedSticks m_bestSize m_bestFirst m_seedNow m_isKept m_keptLawn m_keptBalls m_keptStrength m_keptDays m_h (upd m_depthOf (Int32.toNatClampNeg r_2) ((m_depthOf (Int32.toNatClampNeg r_2)) - (m_depthOf (Int32.toNatClampNeg r_2)))) m_kindOf (upd (upd m_sizeOf (Int32.toNatClampNeg a1) ((m_sizeOf (Int32.toNatClampNeg a1)) + (m_depthOf (Int32.toNatClampNeg r_2)))) (Int32.toNatClampNeg a1) 0) (upd m_placeOf (Int32.toNatClampNeg a1) r_2) m_onOf (upd m_sticksOf (Int32.toNatClampNeg a1) (a2 - a2 / 2 * 2)) m_page m_savedDepth m_gameSize m_gamePlace m_gameSticks m_gameDepth m_keptDepth m_keptSize m_keptPlace m_keptOn m_keptSticks)) K 3 0 rfl rfl (ok_in ho_1) rfl rfl dX8_doRoll_173 ?_
                refine s_aload_n K dX8_doRoll_174 rfl 4 rfl ?_
                refine s_get K 0 rfl rfl inT8 9 (Nat.le_of_ble_eq_true rfl) t_562 rfl rfl dX8_doRoll_175 ?_
                refine s_iload_n K dX8_doRoll_178 rfl 5 rfl ?_
                refine s_iconst K dX8_doRoll_179 kic_m1 ?_
                refine s_iast (w' := (wM cI cC cB cQ kc mh q_depthOf q_kindOf q_sizeOf q_placeOf q_onOf q_sticksOf q_page q_savedDepth q_gameSize q_gamePlace q_gameSticks q_gameDepth q_keptDepth q_keptSize q_keptPlace q_keptOn q_keptSticks m_isLawn m_lawns m_wetness m_strength m_days m_balls m_asks m_books m_pageLength m_faultAt m_savedSize m_savedPlace m_savedSticks m_bestSize m_bestFirst m_seedNow m_isKept m_keptLawn m_keptBalls m_keptStrength m_keptDays m_h (upd m_depthOf (Int32.toNatClampNeg r_2) ((m_depthOf (Int32.toNatClampNeg r_2)) - (m_depthOf (Int32.toNatClampNeg r_2)))) m_kindOf (upd (upd m_sizeOf (Int32.toNatClampNeg a1) ((m_sizeOf (Int32.toNatClampNeg a1)) + (m_depthOf (Int32.toNatClampNeg r_2)))) (Int32.toNatClampNeg a1) 0) (upd (upd m_placeOf (Int32.toNatClampNeg a1) r_2) (Int32.toNatClampNeg a1) (-1)) m_onOf (upd m_sticksOf (Int32.toNatClampNeg a1) (a2 - a2 / 2 * 2)) m_page m_savedDepth m_gameSize m_gamePlace m_gameSticks m_gameDepth m_keptDepth m_keptSize m_keptPlace m_keptOn m_keptSticks)) K 4 0 rfl rfl (ok_in ho_1) rfl rfl dX8_doRoll_180 ?_
                exact s_vret K hret hlk rfl rfl dX8_doRoll_181
            · exact s_vret K hret hlk rfl rfl dX8_doRoll_181
          · refine s_iconst K dX8_doRoll_144 kic_m1 ?_
            refine s_iast (w' := (wM cI cC cB cQ kc mh q_depthOf q_kindOf q_sizeOf q_placeOf q_onOf q_sticksOf q_page q_savedDepth q_gameSize q_gamePlace q_gameSticks q_gameDepth q_keptDepth q_keptSize q_keptPlace q_keptOn q_keptSticks m_isLawn m_lawns m_wetness m_strength m_days m_balls m_asks m_books m_pageLength m_faultAt m_savedSize m_savedPlace m_savedSticks m_bestSize m_bestFirst m_seedNow m_isKept m_keptLawn m_keptBalls m_keptStrength m_keptDays m_h (upd m_depthOf (Int32.toNatClampNeg r_2) ((m_depthOf (Int32.toNatClampNeg r_2)) - (m_depthOf (Int32.toNatClampNeg r_2)))) m_kindOf (upd m_sizeOf (Int32.toNatClampNeg a1) ((m_sizeOf (Int32.toNatClampNeg a1)) + (m_depthOf (Int32.toNatClampNeg r_2)))) (upd m_placeOf (Int32.toNatClampNeg a1) r_2) m_onOf (upd m_sticksOf (Int32.toNatClampNeg a1) (-1)) m_page m_savedDepth m_gameSize m_gamePlace m_gameSticks m_gameDepth m_keptDepth m_keptSize m_keptPlace m_keptOn m_keptSticks)) K 6 0 rfl rfl (ok_in ho_1) rfl rfl dX8_doRoll_145 ?_
            refine s_aload_n K dX8_doRoll_146 rfl 4 rfl ?_
            refine s_get K 0 rfl rfl inT8 7 (Nat.le_of_ble_eq_true rfl) t_560 rfl rfl dX8_doRoll_147 ?_
            refine s_iload_n K dX8_doRoll_150 rfl 5 rfl ?_
            refine s_iald K 2 0 rfl rfl (ok_in ho_1) rfl dX8_doRoll_151 ?_
            refine s_iconst K dX8_doRoll_152 kic_2 ?_
            refine s_icmp_ne (tgt := 181) K dX8_doRoll_153 (by decide) (fun c_24 => ?_) (fun c_24 => ?_)
            · refine s_aload_n K dX8_doRoll_156 rfl 4 rfl ?_
              refine s_get K 0 rfl rfl inT8 8 (Nat.le_of_ble_eq_true rfl) t_561 rfl rfl dX8_doRoll_157 ?_
              refine s_iload_n K dX8_doRoll_160 rfl 5 rfl ?_
              refine s_iald K 3 0 rfl rfl (ok_in ho_1) rfl dX8_doRoll_161 ?_
              refine s_bipush K dX8_doRoll_162 kib_20 ?_
              refine s_icmp_le (tgt := 181) K dX8_doRoll_164 (by decide) (fun c_25 => ?_) (fun c_25 => ?_)
              · exact s_vret K hret hlk rfl rfl dX8_doRoll_181
              · refine s_aload_n K dX8_doRoll_167 rfl 4 rfl ?_
                refine s_get K 0 rfl rfl inT8 8 (Nat.le_of_ble_eq_true rfl) t_561 rfl rfl dX8_doRoll_168 ?_
                refine s_iload_n K dX8_doRoll_171 rfl 5 rfl ?_
                refine s_iconst K dX8_doRoll_172 kic_0 ?_
                refine s_iast (w' := (wM cI cC cB cQ kc mh q_depthOf q_kindOf q_sizeOf q_placeOf q_onOf q_sticksOf q_page q_savedDepth q_gameSize q_gamePlace q_gameSticks q_gameDepth q_keptDepth q_keptSize q_keptPlace q_keptOn q_keptSticks m_isLawn m_lawns m_wetness m_strength m_days m_balls m_asks m_books m_pageLength m_faultAt m_savedSize m_savedPlace m_savedSticks m_bestSize m_bestFirst m_seedNow m_isKept m_keptLawn m_keptBalls m_keptStrength m_keptDays m_h (upd m_depthOf (Int32.toNatClampNeg r_2) ((m_depthOf (Int32.toNatClampNeg r_2)) - (m_depthOf (Int32.toNatClampNeg r_2)))) m_kindOf (upd (upd m_sizeOf (Int32.toNatClampNeg a1) ((m_sizeOf (Int32.toNatClampNeg a1)) + (m_depthOf (Int32.toNatClampNeg r_2)))) (Int32.toNatClampNeg a1) 0) (upd m_placeOf (Int32.toNatClampNeg a1) r_2) m_onOf (upd m_sticksOf (Int32.toNatClampNeg a1) (-1)) m_page m_savedDepth m_gameSize m_gamePlace m_gameSticks m_gameDepth m_keptDepth m_keptSize m_keptPlace m_keptOn m_keptSticks)) K 3 0 rfl rfl (ok_in ho_1) rfl rfl dX8_doRoll_173 ?_
                refine s_aload_n K dX8_doRoll_174 rfl 4 rfl ?_
                refine s_get K 0 rfl rfl inT8 9 (Nat.le_of_ble_eq_true rfl) t_562 rfl rfl dX8_doRoll_175 ?_
                refine s_iload_n K dX8_doRoll_178 rfl 5 rfl ?_
                refine s_iconst K dX8_doRoll_179 kic_m1 ?_
                refine s_iast (w' := (wM cI cC cB cQ kc mh q_depthOf q_kindOf q_sizeOf q_placeOf q_onOf q_sticksOf q_page q_savedDepth q_gameSize q_gamePlace q_gameSticks q_gameDepth q_keptDepth q_keptSize q_keptPlace q_keptOn q_keptSticks m_isLawn m_lawns m_wetness m_strength m_days m_balls m_asks m_books m_pageLength m_faultAt m_savedSize m_savedPlace m_savedSticks m_bestSize m_bestFirst m_seedNow m_isKept m_keptLawn m_keptBalls m_keptStrength m_keptDays m_h (upd m_depthOf (Int32.toNatClampNeg r_2) ((m_depthOf (Int32.toNatClampNeg r_2)) - (m_depthOf (Int32.toNatClampNeg r_2)))) m_kindOf (upd (upd m_sizeOf (Int32.toNatClampNeg a1) ((m_sizeOf (Int32.toNatClampNeg a1)) + (m_depthOf (Int32.toNatClampNeg r_2)))) (Int32.toNatClampNeg a1) 0) (upd (upd m_placeOf (Int32.toNatClampNeg a1) r_2) (Int32.toNatClampNeg a1) (-1)) m_onOf (upd m_sticksOf (Int32.toNatClampNeg a1) (-1)) m_page m_savedDepth m_gameSize m_gamePlace m_gameSticks m_gameDepth m_keptDepth m_keptSize m_keptPlace m_keptOn m_keptSticks)) K 4 0 rfl rfl (ok_in ho_1) rfl rfl dX8_doRoll_180 ?_
                exact s_vret K hret hlk rfl rfl dX8_doRoll_181
            · exact s_vret K hret hlk rfl rfl dX8_doRoll_181
        · refine s_iconst K dX8_doRoll_69 kic_1 ?_
          refine s_goto (tgt := 74) K dX8_doRoll_70 (by decide) ?_
          refine s_istore (lv' := [(5, .int 1), (4, .int (m_depthOf (Int32.toNatClampNeg r_2))), (3, .int r_2), (0, .ref mh), (1, .int a1), (2, .int a2)]) K dX8_doRoll_74 (Nat.le_of_ble_eq_true rfl) rfl ?_
          refine s_iload K dX8_doRoll_76 0 rfl ?_
          refine s_if_eqF K dX8_doRoll_78 90 (by decide) (by decide +kernel) ?_
          refine s_iload K dX8_doRoll_81 1 rfl ?_
          refine s_iconst K dX8_doRoll_83 kic_1 ?_
          refine s_iadd K dX8_doRoll_84 ?_
          refine s_iconst K dX8_doRoll_85 kic_2 ?_
          refine s_idiv K dX8_doRoll_86 knz_2 ?_
          refine s_goto (tgt := 92) K dX8_doRoll_87 (by decide) ?_
          refine s_istore (lv' := [(6, .int (((m_depthOf (Int32.toNatClampNeg r_2)) + 1) / 2)), (5, .int 1), (4, .int (m_depthOf (Int32.toNatClampNeg r_2))), (3, .int r_2), (0, .ref mh), (1, .int a1), (2, .int a2)]) K dX8_doRoll_92 (Nat.le_of_ble_eq_true rfl) rfl ?_
          refine s_aload_n K dX8_doRoll_94 rfl 4 rfl ?_
          refine s_get K 0 rfl rfl inT8 2 (Nat.le_of_ble_eq_true rfl) t_555 rfl rfl dX8_doRoll_95 ?_
          refine s_iload_n K dX8_doRoll_98 rfl 3 rfl ?_
          refine s_dup2 K dX8_doRoll_99 rfl rfl ?_
          refine s_iald K 1 0 rfl rfl (ok_in ho_6) rfl dX8_doRoll_100 ?_
          refine s_iload K dX8_doRoll_101 0 rfl ?_
          refine s_isub K dX8_doRoll_103 ?_
          refine s_iast (w' := (wM cI cC cB cQ kc mh q_depthOf q_kindOf q_sizeOf q_placeOf q_onOf q_sticksOf q_page q_savedDepth q_gameSize q_gamePlace q_gameSticks q_gameDepth q_keptDepth q_keptSize q_keptPlace q_keptOn q_keptSticks m_isLawn m_lawns m_wetness m_strength m_days m_balls m_asks m_books m_pageLength m_faultAt m_savedSize m_savedPlace m_savedSticks m_bestSize m_bestFirst m_seedNow m_isKept m_keptLawn m_keptBalls m_keptStrength m_keptDays m_h (upd m_depthOf (Int32.toNatClampNeg r_2) ((m_depthOf (Int32.toNatClampNeg r_2)) - (((m_depthOf (Int32.toNatClampNeg r_2)) + 1) / 2))) m_kindOf m_sizeOf m_placeOf m_onOf m_sticksOf m_page m_savedDepth m_gameSize m_gamePlace m_gameSticks m_gameDepth m_keptDepth m_keptSize m_keptPlace m_keptOn m_keptSticks)) K 1 0 rfl rfl (ok_in ho_6) rfl rfl dX8_doRoll_104 ?_
          refine s_aload_n K dX8_doRoll_105 rfl 4 rfl ?_
          refine s_get K 0 rfl rfl inT8 8 (Nat.le_of_ble_eq_true rfl) t_561 rfl rfl dX8_doRoll_106 ?_
          refine s_iload_n K dX8_doRoll_109 rfl 5 rfl ?_
          refine s_dup2 K dX8_doRoll_110 rfl rfl ?_
          refine s_iald K 3 0 rfl rfl (ok_in ho_1) rfl dX8_doRoll_111 ?_
          refine s_iload K dX8_doRoll_112 0 rfl ?_
          refine s_iadd K dX8_doRoll_114 ?_
          refine s_iast (w' := (wM cI cC cB cQ kc mh q_depthOf q_kindOf q_sizeOf q_placeOf q_onOf q_sticksOf q_page q_savedDepth q_gameSize q_gamePlace q_gameSticks q_gameDepth q_keptDepth q_keptSize q_keptPlace q_keptOn q_keptSticks m_isLawn m_lawns m_wetness m_strength m_days m_balls m_asks m_books m_pageLength m_faultAt m_savedSize m_savedPlace m_savedSticks m_bestSize m_bestFirst m_seedNow m_isKept m_keptLawn m_keptBalls m_keptStrength m_keptDays m_h (upd m_depthOf (Int32.toNatClampNeg r_2) ((m_depthOf (Int32.toNatClampNeg r_2)) - (((m_depthOf (Int32.toNatClampNeg r_2)) + 1) / 2))) m_kindOf (upd m_sizeOf (Int32.toNatClampNeg a1) ((m_sizeOf (Int32.toNatClampNeg a1)) + (((m_depthOf (Int32.toNatClampNeg r_2)) + 1) / 2))) m_placeOf m_onOf m_sticksOf m_page m_savedDepth m_gameSize m_gamePlace m_gameSticks m_gameDepth m_keptDepth m_keptSize m_keptPlace m_keptOn m_keptSticks)) K 3 0 rfl rfl (ok_in ho_1) rfl rfl dX8_doRoll_115 ?_
          refine s_aload_n K dX8_doRoll_116 rfl 4 rfl ?_
          refine s_get K 0 rfl rfl inT8 9 (Nat.le_of_ble_eq_true rfl) t_562 rfl rfl dX8_doRoll_117 ?_
          refine s_iload_n K dX8_doRoll_120 rfl 5 rfl ?_
          refine s_iload_n K dX8_doRoll_121 rfl 3 rfl ?_
          refine s_iast (w' := (wM cI cC cB cQ kc mh q_depthOf q_kindOf q_sizeOf q_placeOf q_onOf q_sticksOf q_page q_savedDepth q_gameSize q_gamePlace q_gameSticks q_gameDepth q_keptDepth q_keptSize q_keptPlace q_keptOn q_keptSticks m_isLawn m_lawns m_wetness m_strength m_days m_balls m_asks m_books m_pageLength m_faultAt m_savedSize m_savedPlace m_savedSticks m_bestSize m_bestFirst m_seedNow m_isKept m_keptLawn m_keptBalls m_keptStrength m_keptDays m_h (upd m_depthOf (Int32.toNatClampNeg r_2) ((m_depthOf (Int32.toNatClampNeg r_2)) - (((m_depthOf (Int32.toNatClampNeg r_2)) + 1) / 2))) m_kindOf (upd m_sizeOf (Int32.toNatClampNeg a1) ((m_sizeOf (Int32.toNatClampNeg a1)) + (((m_depthOf (Int32.toNatClampNeg r_2)) + 1) / 2))) (upd m_placeOf (Int32.toNatClampNeg a1) r_2) m_onOf m_sticksOf m_page m_savedDepth m_gameSize m_gamePlace m_gameSticks m_gameDepth m_keptDepth m_keptSize m_keptPlace m_keptOn m_keptSticks)) K 4 0 rfl rfl (ok_in ho_1) rfl rfl dX8_doRoll_122 ?_
          refine s_aload_n K dX8_doRoll_123 rfl 4 rfl ?_
          refine s_get K 0 rfl rfl inT8 11 (Nat.le_of_ble_eq_true rfl) t_564 rfl rfl dX8_doRoll_124 ?_
          refine s_iload_n K dX8_doRoll_127 rfl 5 rfl ?_
          refine s_aload_n K dX8_doRoll_128 rfl 4 rfl ?_
          refine s_get K 0 rfl rfl inT8 7 (Nat.le_of_ble_eq_true rfl) t_560 rfl rfl dX8_doRoll_129 ?_
          refine s_iload_n K dX8_doRoll_132 rfl 5 rfl ?_
          refine s_iald K 2 0 rfl rfl (ok_in ho_1) rfl dX8_doRoll_133 ?_
          refine s_iconst K dX8_doRoll_134 kic_1 ?_
          refine s_icmp_ne (tgt := 144) K dX8_doRoll_135 (by decide) (fun c_26 => ?_) (fun c_26 => ?_)
          · refine s_iload_n K dX8_doRoll_138 rfl 6 rfl ?_
            refine s_iconst K dX8_doRoll_139 kic_2 ?_
            refine s_irem K dX8_doRoll_140 knz_2 ?_
            refine s_goto (tgt := 145) K dX8_doRoll_141 (by decide) ?_
            refine s_iast (w' := (wM cI cC cB cQ kc mh q_depthOf q_kindOf q_sizeOf q_placeOf q_onOf q_sticksOf q_page q_savedDepth q_gameSize q_gamePlace q_gameSticks q_gameDepth q_keptDepth q_keptSize q_keptPlace q_keptOn q_keptSticks m_isLawn m_lawns m_wetness m_strength m_days m_balls m_asks m_books m_pageLength m_faultAt m_savedSize m_savedPlace m_savedSticks m_bestSize m_bestFirst m_seedNow m_isKept m_keptLawn m_keptBalls m_keptStrength m_keptDays m_h (upd m_depthOf (Int32.toNatClampNeg r_2) ((m_depthOf (Int32.toNatClampNeg r_2)) - (((m_depthOf (Int32.toNatClampNeg r_2)) + 1) / 2))) m_kindOf (upd m_sizeOf (Int32.toNatClampNeg a1) ((m_sizeOf (Int32.toNatClampNeg a1)) + (((m_depthOf (Int32.toNatClampNeg r_2)) + 1) / 2))) (upd m_placeOf (Int32.toNatClampNeg a1) r_2) m_onOf (upd m_sticksOf (Int32.toNatClampNeg a1) (a2 - a2 / 2 * 2)) m_page m_savedDepth m_gameSize m_gamePlace m_gameSticks m_gameDepth m_keptDepth m_keptSize m_keptPlace m_keptOn m_keptSticks)) K 6 0 rfl rfl (ok_in ho_1) rfl rfl dX8_doRoll_145 ?_
            refine s_aload_n K dX8_doRoll_146 rfl 4 rfl ?_
            refine s_get K 0 rfl rfl inT8 7 (Nat.le_of_ble_eq_true rfl) t_560 rfl rfl dX8_doRoll_147 ?_
            refine s_iload_n K dX8_doRoll_150 rfl 5 rfl ?_
            refine s_iald K 2 0 rfl rfl (ok_in ho_1) rfl dX8_doRoll_151 ?_
            refine s_iconst K dX8_doRoll_152 kic_2 ?_
            refine s_icmp_ne (tgt := 181) K dX8_doRoll_153 (by decide) (fun c_27 => ?_) (fun c_27 => ?_)
            · refine s_aload_n K dX8_doRoll_156 rfl 4 rfl ?_
              refine s_get K 0 rfl rfl inT8 8 (Nat.le_of_ble_eq_true rfl) t_561 rfl rfl dX8_doRoll_157 ?_
              refine s_iload_n K dX8_doRoll_160 rfl 5 rfl ?_
              refine s_iald K 3 0 rfl rfl (ok_in ho_1) rfl dX8_doRoll_161 ?_
              refine s_bipush K dX8_doRoll_162 kib_20 ?_
              refine s_icmp_le (tgt := 181) K dX8_doRoll_164 (by decide) (fun c_28 => ?_) (fun c_28 => ?_)
              · exact s_vret K hret hlk rfl rfl dX8_doRoll_181
              · refine s_aload_n K dX8_doRoll_167 rfl 4 rfl ?_
                refine s_get K 0 rfl rfl inT8 8 (Nat.le_of_ble_eq_true rfl) t_561 rfl rfl dX8_doRoll_168 ?_
                refine s_iload_n K dX8_doRoll_171 rfl 5 rfl ?_
                refine s_iconst K dX8_doRoll_172 kic_0 ?_
                refine s_iast (w' := (wM cI cC cB cQ kc mh q_depthOf q_kindOf q_sizeOf q_placeOf q_onOf q_sticksOf q_page q_savedDepth q_gameSize q_gamePlace q_gameSticks q_gameDepth q_keptDepth q_keptSize q_keptPlace q_keptOn q_keptSticks m_isLawn m_lawns m_wetness m_strength m_days m_balls m_asks m_books m_pageLength m_faultAt m_savedSize m_savedPlace m_savedSticks m_bestSize m_bestFirst m_seedNow m_isKept m_keptLawn m_keptBalls m_keptStrength m_keptDays m_h (upd m_depthOf (Int32.toNatClampNeg r_2) ((m_depthOf (Int32.toNatClampNeg r_2)) - (((m_depthOf (Int32.toNatClampNeg r_2)) + 1) / 2))) m_kindOf (upd (upd m_sizeOf (Int32.toNatClampNeg a1) ((m_sizeOf (Int32.toNatClampNeg a1)) + (((m_depthOf (Int32.toNatClampNeg r_2)) + 1) / 2))) (Int32.toNatClampNeg a1) 0) (upd m_placeOf (Int32.toNatClampNeg a1) r_2) m_onOf (upd m_sticksOf (Int32.toNatClampNeg a1) (a2 - a2 / 2 * 2)) m_page m_savedDepth m_gameSize m_gamePlace m_gameSticks m_gameDepth m_keptDepth m_keptSize m_keptPlace m_keptOn m_keptSticks)) K 3 0 rfl rfl (ok_in ho_1) rfl rfl dX8_doRoll_173 ?_
                refine s_aload_n K dX8_doRoll_174 rfl 4 rfl ?_
                refine s_get K 0 rfl rfl inT8 9 (Nat.le_of_ble_eq_true rfl) t_562 rfl rfl dX8_doRoll_175 ?_
                refine s_iload_n K dX8_doRoll_178 rfl 5 rfl ?_
                refine s_iconst K dX8_doRoll_179 kic_m1 ?_
                refine s_iast (w' := (wM cI cC cB cQ kc mh q_depthOf q_kindOf q_sizeOf q_placeOf q_onOf q_sticksOf q_page q_savedDepth q_gameSize q_gamePlace q_gameSticks q_gameDepth q_keptDepth q_keptSize q_keptPlace q_keptOn q_keptSticks m_isLawn m_lawns m_wetness m_strength m_days m_balls m_asks m_books m_pageLength m_faultAt m_savedSize m_savedPlace m_savedSticks m_bestSize m_bestFirst m_seedNow m_isKept m_keptLawn m_keptBalls m_keptStrength m_keptDays m_h (upd m_depthOf (Int32.toNatClampNeg r_2) ((m_depthOf (Int32.toNatClampNeg r_2)) - (((m_depthOf (Int32.toNatClampNeg r_2)) + 1) / 2))) m_kindOf (upd (upd m_sizeOf (Int32.toNatClampNeg a1) ((m_sizeOf (Int32.toNatClampNeg a1)) + (((m_depthOf (Int32.toNatClampNeg r_2)) + 1) / 2))) (Int32.toNatClampNeg a1) 0) (upd (upd m_placeOf (Int32.toNatClampNeg a1) r_2) (Int32.toNatClampNeg a1) (-1)) m_onOf (upd m_sticksOf (Int32.toNatClampNeg a1) (a2 - a2 / 2 * 2)) m_page m_savedDepth m_gameSize m_gamePlace m_gameSticks m_gameDepth m_keptDepth m_keptSize m_keptPlace m_keptOn m_keptSticks)) K 4 0 rfl rfl (ok_in ho_1) rfl rfl dX8_doRoll_180 ?_
                exact s_vret K hret hlk rfl rfl dX8_doRoll_181
            · exact s_vret K hret hlk rfl rfl dX8_doRoll_181
          · refine s_iconst K dX8_doRoll_144 kic_m1 ?_
            refine s_iast (w' := (wM cI cC cB cQ kc mh q_depthOf q_kindOf q_sizeOf q_placeOf q_onOf q_sticksOf q_page q_savedDepth q_gameSize q_gamePlace q_gameSticks q_gameDepth q_keptDepth q_keptSize q_keptPlace q_keptOn q_keptSticks m_isLawn m_lawns m_wetness m_strength m_days m_balls m_asks m_books m_pageLength m_faultAt m_savedSize m_savedPlace m_savedSticks m_bestSize m_bestFirst m_seedNow m_isKept m_keptLawn m_keptBalls m_keptStrength m_keptDays m_h (upd m_depthOf (Int32.toNatClampNeg r_2) ((m_depthOf (Int32.toNatClampNeg r_2)) - (((m_depthOf (Int32.toNatClampNeg r_2)) + 1) / 2))) m_kindOf (upd m_sizeOf (Int32.toNatClampNeg a1) ((m_sizeOf (Int32.toNatClampNeg a1)) + (((m_depthOf (Int32.toNatClampNeg r_2)) + 1) / 2))) (upd m_placeOf (Int32.toNatClampNeg a1) r_2) m_onOf (upd m_sticksOf (Int32.toNatClampNeg a1) (-1)) m_page m_savedDepth m_gameSize m_gamePlace m_gameSticks m_gameDepth m_keptDepth m_keptSize m_keptPlace m_keptOn m_keptSticks)) K 6 0 rfl rfl (ok_in ho_1) rfl rfl dX8_doRoll_145 ?_
            refine s_aload_n K dX8_doRoll_146 rfl 4 rfl ?_
            refine s_get K 0 rfl rfl inT8 7 (Nat.le_of_ble_eq_true rfl) t_560 rfl rfl dX8_doRoll_147 ?_
            refine s_iload_n K dX8_doRoll_150 rfl 5 rfl ?_
            refine s_iald K 2 0 rfl rfl (ok_in ho_1) rfl dX8_doRoll_151 ?_
            refine s_iconst K dX8_doRoll_152 kic_2 ?_
            refine s_icmp_ne (tgt := 181) K dX8_doRoll_153 (by decide) (fun c_29 => ?_) (fun c_29 => ?_)
            · refine s_aload_n K dX8_doRoll_156 rfl 4 rfl ?_
              refine s_get K 0 rfl rfl inT8 8 (Nat.le_of_ble_eq_true rfl) t_561 rfl rfl dX8_doRoll_157 ?_
              refine s_iload_n K dX8_doRoll_160 rfl 5 rfl ?_
              refine s_iald K 3 0 rfl rfl (ok_in ho_1) rfl dX8_doRoll_161 ?_
              refine s_bipush K dX8_doRoll_162 kib_20 ?_
              refine s_icmp_le (tgt := 181) K dX8_doRoll_164 (by decide) (fun c_30 => ?_) (fun c_30 => ?_)
              · exact s_vret K hret hlk rfl rfl dX8_doRoll_181
              · refine s_aload_n K dX8_doRoll_167 rfl 4 rfl ?_
                refine s_get K 0 rfl rfl inT8 8 (Nat.le_of_ble_eq_true rfl) t_561 rfl rfl dX8_doRoll_168 ?_
                refine s_iload_n K dX8_doRoll_171 rfl 5 rfl ?_
                refine s_iconst K dX8_doRoll_172 kic_0 ?_
                refine s_iast (w' := (wM cI cC cB cQ kc mh q_depthOf q_kindOf q_sizeOf q_placeOf q_onOf q_sticksOf q_page q_savedDepth q_gameSize q_gamePlace q_gameSticks q_gameDepth q_keptDepth q_keptSize q_keptPlace q_keptOn q_keptSticks m_isLawn m_lawns m_wetness m_strength m_days m_balls m_asks m_books m_pageLength m_faultAt m_savedSize m_savedPlace m_savedSticks m_bestSize m_bestFirst m_seedNow m_isKept m_keptLawn m_keptBalls m_keptStrength m_keptDays m_h (upd m_depthOf (Int32.toNatClampNeg r_2) ((m_depthOf (Int32.toNatClampNeg r_2)) - (((m_depthOf (Int32.toNatClampNeg r_2)) + 1) / 2))) m_kindOf (upd (upd m_sizeOf (Int32.toNatClampNeg a1) ((m_sizeOf (Int32.toNatClampNeg a1)) + (((m_depthOf (Int32.toNatClampNeg r_2)) + 1) / 2))) (Int32.toNatClampNeg a1) 0) (upd m_placeOf (Int32.toNatClampNeg a1) r_2) m_onOf (upd m_sticksOf (Int32.toNatClampNeg a1) (-1)) m_page m_savedDepth m_gameSize m_gamePlace m_gameSticks m_gameDepth m_keptDepth m_keptSize m_keptPlace m_keptOn m_keptSticks)) K 3 0 rfl rfl (ok_in ho_1) rfl rfl dX8_doRoll_173 ?_
                refine s_aload_n K dX8_doRoll_174 rfl 4 rfl ?_
                refine s_get K 0 rfl rfl inT8 9 (Nat.le_of_ble_eq_true rfl) t_562 rfl rfl dX8_doRoll_175 ?_
                refine s_iload_n K dX8_doRoll_178 rfl 5 rfl ?_
                refine s_iconst K dX8_doRoll_179 kic_m1 ?_
                refine s_iast (w' := (wM cI cC cB cQ kc mh q_depthOf q_kindOf q_sizeOf q_placeOf q_onOf q_sticksOf q_page q_savedDepth q_gameSize q_gamePlace q_gameSticks q_gameDepth q_keptDepth q_keptSize q_keptPlace q_keptOn q_keptSticks m_isLawn m_lawns m_wetness m_strength m_days m_balls m_asks m_books m_pageLength m_faultAt m_savedSize m_savedPlace m_savedSticks m_bestSize m_bestFirst m_seedNow m_isKept m_keptLawn m_keptBalls m_keptStrength m_keptDays m_h (upd m_depthOf (Int32.toNatClampNeg r_2) ((m_depthOf (Int32.toNatClampNeg r_2)) - (((m_depthOf (Int32.toNatClampNeg r_2)) + 1) / 2))) m_kindOf (upd (upd m_sizeOf (Int32.toNatClampNeg a1) ((m_sizeOf (Int32.toNatClampNeg a1)) + (((m_depthOf (Int32.toNatClampNeg r_2)) + 1) / 2))) (Int32.toNatClampNeg a1) 0) (upd (upd m_placeOf (Int32.toNatClampNeg a1) r_2) (Int32.toNatClampNeg a1) (-1)) m_onOf (upd m_sticksOf (Int32.toNatClampNeg a1) (-1)) m_page m_savedDepth m_gameSize m_gamePlace m_gameSticks m_gameDepth m_keptDepth m_keptSize m_keptPlace m_keptOn m_keptSticks)) K 4 0 rfl rfl (ok_in ho_1) rfl rfl dX8_doRoll_180 ?_
                exact s_vret K hret hlk rfl rfl dX8_doRoll_181
            · exact s_vret K hret hlk rfl rfl dX8_doRoll_181
  · refine s_aload_n K dX8_doRoll_25 rfl 1 rfl ?_
    refine s_iload_n K dX8_doRoll_26 rfl 2 rfl ?_
    refine s_bind (fun q hq_32 => ?_)
    obtain ⟨r_31, rfl⟩ : ∃ z, z = q := ⟨_, rfl⟩
    refine s_callV (w' := (wM cI cC cB cQ kc mh q_depthOf q_kindOf q_sizeOf q_placeOf q_onOf q_sticksOf q_page q_savedDepth q_gameSize q_gamePlace q_gameSticks q_gameDepth q_keptDepth q_keptSize q_keptPlace q_keptOn q_keptSticks m_isLawn m_lawns m_wetness m_strength m_days m_balls m_asks m_books m_pageLength m_faultAt m_savedSize m_savedPlace m_savedSticks m_bestSize m_bestFirst m_seedNow m_isKept m_keptLawn m_keptBalls m_keptStrength m_keptDays m_h m_depthOf m_kindOf m_sizeOf m_placeOf m_onOf m_sticksOf m_page m_savedDepth m_gameSize m_gamePlace m_gameSticks m_gameDepth m_keptDepth m_keptSize m_keptPlace m_keptOn m_keptSticks)) (rest := []) (st1 := [.int r_31]) K (c_X8_breadth mh q_depthOf q_kindOf q_sizeOf q_placeOf q_onOf q_sticksOf q_page q_savedDepth q_gameSize q_gamePlace q_gameSticks q_gameDepth q_keptDepth q_keptSize q_keptPlace q_keptOn q_keptSticks m_isLawn m_lawns m_wetness m_strength m_days m_balls m_asks m_books m_pageLength m_faultAt m_savedSize m_savedPlace m_savedSticks m_bestSize m_bestFirst m_seedNow m_isKept m_keptLawn m_keptBalls m_keptStrength m_keptDays m_h m_depthOf m_kindOf m_sizeOf m_placeOf m_onOf m_sticksOf m_page m_savedDepth m_gameSize m_gamePlace m_gameSticks m_gameDepth m_keptDepth m_keptSize m_keptPlace m_keptOn m_keptSticks a1 hq_32) rfl hd_X8_breadth t_745 t_747 ts_16 t_10 t_748 ⟨(Nat.le_of_ble_eq_true rfl), (Nat.le_of_ble_eq_true rfl)⟩ ⟨rfl, rfl⟩ ⟨Nat.zero_le _, Nat.zero_le _⟩ (rv_o K 0 rfl rfl) [0, 1, 2, 3, 4, 5, 6, 7, 8, 9, 10, 11, 12, 13, 14, 15, 16, 17] [] [0, 1, 2, 3, 4, 5, 6, 7, 8, 9, 10, 11, 12, 13, 14, 15, 16, 17] rfl rfl rfl rfl (by decide) rfl rfl rfl rfl (Nat.le_of_ble_eq_true rfl) dX8_doRoll_27 ?_
    refine s_goto (tgt := 39) K dX8_doRoll_30 (by decide) ?_
    refine s_istore (lv' := [(4, .int r_31), (3, .int r_2), (0, .ref mh), (1, .int a1), (2, .int a2)]) K dX8_doRoll_39 (Nat.le_of_ble_eq_true rfl) rfl ?_
    refine s_aload_n K dX8_doRoll_41 rfl 2 rfl ?_
    refine s_get K 0 rfl rfl inT8 7 (Nat.le_of_ble_eq_true rfl) t_560 rfl rfl dX8_doRoll_42 ?_
    refine s_iload_n K dX8_doRoll_45 rfl 3 rfl ?_
    refine s_iald K 2 0 rfl rfl (ok_in ho_1) rfl dX8_doRoll_46 ?_
    refine s_iconst K dX8_doRoll_47 kic_2 ?_
    refine s_icmp_eq (tgt := 69) K dX8_doRoll_48 (by decide) (fun c_33 => ?_) (fun c_33 => ?_)
    · refine s_iconst K dX8_doRoll_69 kic_1 ?_
      refine s_goto (tgt := 74) K dX8_doRoll_70 (by decide) ?_
      refine s_istore (lv' := [(5, .int 1), (4, .int r_31), (3, .int r_2), (0, .ref mh), (1, .int a1), (2, .int a2)]) K dX8_doRoll_74 (Nat.le_of_ble_eq_true rfl) rfl ?_
      refine s_iload K dX8_doRoll_76 0 rfl ?_
      refine s_if_eqF K dX8_doRoll_78 90 (by decide) (by decide +kernel) ?_
      refine s_iload K dX8_doRoll_81 1 rfl ?_
      refine s_iconst K dX8_doRoll_83 kic_1 ?_
      refine s_iadd K dX8_doRoll_84 ?_
      refine s_iconst K dX8_doRoll_85 kic_2 ?_
      refine s_idiv K dX8_doRoll_86 knz_2 ?_
      refine s_goto (tgt := 92) K dX8_doRoll_87 (by decide) ?_
      refine s_istore (lv' := [(6, .int ((r_31 + 1) / 2)), (5, .int 1), (4, .int r_31), (3, .int r_2), (0, .ref mh), (1, .int a1), (2, .int a2)]) K dX8_doRoll_92 (Nat.le_of_ble_eq_true rfl) rfl ?_
      refine s_aload_n K dX8_doRoll_94 rfl 4 rfl ?_
      refine s_get K 0 rfl rfl inT8 2 (Nat.le_of_ble_eq_true rfl) t_555 rfl rfl dX8_doRoll_95 ?_
      refine s_iload_n K dX8_doRoll_98 rfl 3 rfl ?_
      refine s_dup2 K dX8_doRoll_99 rfl rfl ?_
      refine s_iald K 1 0 rfl rfl (ok_in ho_6) rfl dX8_doRoll_100 ?_
      refine s_iload K dX8_doRoll_101 0 rfl ?_
      refine s_isub K dX8_doRoll_103 ?_
      refine s_iast (w' := (wM cI cC cB cQ kc mh q_depthOf q_kindOf q_sizeOf q_placeOf q_onOf q_sticksOf q_page q_savedDepth q_gameSize q_gamePlace q_gameSticks q_gameDepth q_keptDepth q_keptSize q_keptPlace q_keptOn q_keptSticks m_isLawn m_lawns m_wetness m_strength m_days m_balls m_asks m_books m_pageLength m_faultAt m_savedSize m_savedPlace m_savedSticks m_bestSize m_bestFirst m_seedNow m_isKept m_keptLawn m_keptBalls m_keptStrength m_keptDays m_h (upd m_depthOf (Int32.toNatClampNeg r_2) ((m_depthOf (Int32.toNatClampNeg r_2)) - ((r_31 + 1) / 2))) m_kindOf m_sizeOf m_placeOf m_onOf m_sticksOf m_page m_savedDepth m_gameSize m_gamePlace m_gameSticks m_gameDepth m_keptDepth m_keptSize m_keptPlace m_keptOn m_keptSticks)) K 1 0 rfl rfl (ok_in ho_6) rfl rfl dX8_doRoll_104 ?_
      refine s_aload_n K dX8_doRoll_105 rfl 4 rfl ?_
      refine s_get K 0 rfl rfl inT8 8 (Nat.le_of_ble_eq_true rfl) t_561 rfl rfl dX8_doRoll_106 ?_
      refine s_iload_n K dX8_doRoll_109 rfl 5 rfl ?_
      refine s_dup2 K dX8_doRoll_110 rfl rfl ?_
      refine s_iald K 3 0 rfl rfl (ok_in ho_1) rfl dX8_doRoll_111 ?_
      refine s_iload K dX8_doRoll_112 0 rfl ?_
      refine s_iadd K dX8_doRoll_114 ?_
      refine s_iast (w' := (wM cI cC cB cQ kc mh q_depthOf q_kindOf q_sizeOf q_placeOf q_onOf q_sticksOf q_page q_savedDepth q_gameSize q_gamePlace q_gameSticks q_gameDepth q_keptDepth q_keptSize q_keptPlace q_keptOn q_keptSticks m_isLawn m_lawns m_wetness m_strength m_days m_balls m_asks m_books m_pageLength m_faultAt m_savedSize m_savedPlace m_savedSticks m_bestSize m_bestFirst m_seedNow m_isKept m_keptLawn m_keptBalls m_keptStrength m_keptDays m_h (upd m_depthOf (Int32.toNatClampNeg r_2) ((m_depthOf (Int32.toNatClampNeg r_2)) - ((r_31 + 1) / 2))) m_kindOf (upd m_sizeOf (Int32.toNatClampNeg a1) ((m_sizeOf (Int32.toNatClampNeg a1)) + ((r_31 + 1) / 2))) m_placeOf m_onOf m_sticksOf m_page m_savedDepth m_gameSize m_gamePlace m_gameSticks m_gameDepth m_keptDepth m_keptSize m_keptPlace m_keptOn m_keptSticks)) K 3 0 rfl rfl (ok_in ho_1) rfl rfl dX8_doRoll_115 ?_
      refine s_aload_n K dX8_doRoll_116 rfl 4 rfl ?_
      refine s_get K 0 rfl rfl inT8 9 (Nat.le_of_ble_eq_true rfl) t_562 rfl rfl dX8_doRoll_117 ?_
      refine s_iload_n K dX8_doRoll_120 rfl 5 rfl ?_
      refine s_iload_n K dX8_doRoll_121 rfl 3 rfl ?_
      refine s_iast (w' := (wM cI cC cB cQ kc mh q_depthOf q_kindOf q_sizeOf q_placeOf q_onOf q_sticksOf q_page q_savedDepth q_gameSize q_gamePlace q_gameSticks q_gameDepth q_keptDepth q_keptSize q_keptPlace q_keptOn q_keptSticks m_isLawn m_lawns m_wetness m_strength m_days m_balls m_asks m_books m_pageLength m_faultAt m_savedSize m_savedPlace m_savedSticks m_bestSize m_bestFirst m_seedNow m_isKept m_keptLawn m_keptBalls m_keptStrength m_keptDays m_h (upd m_depthOf (Int32.toNatClampNeg r_2) ((m_depthOf (Int32.toNatClampNeg r_2)) - ((r_31 + 1) / 2))) m_kindOf (upd m_sizeOf (Int32.toNatClampNeg a1) ((m_sizeOf (Int32.toNatClampNeg a1)) + ((r_31 + 1) / 2))) (upd m_placeOf (Int32.toNatClampNeg a1) r_2) m_onOf m_sticksOf m_page m_savedDepth m_gameSize m_gamePlace m_gameSticks m_gameDepth m_keptDepth m_keptSize m_keptPlace m_keptOn m_keptSticks)) K 4 0 rfl rfl (ok_in ho_1) rfl rfl dX8_doRoll_122 ?_
      refine s_aload_n K dX8_doRoll_123 rfl 4 rfl ?_
      refine s_get K 0 rfl rfl inT8 11 (Nat.le_of_ble_eq_true rfl) t_564 rfl rfl dX8_doRoll_124 ?_
      refine s_iload_n K dX8_doRoll_127 rfl 5 rfl ?_
      refine s_aload_n K dX8_doRoll_128 rfl 4 rfl ?_
      refine s_get K 0 rfl rfl inT8 7 (Nat.le_of_ble_eq_true rfl) t_560 rfl rfl dX8_doRoll_129 ?_
      refine s_iload_n K dX8_doRoll_132 rfl 5 rfl ?_
      refine s_iald K 2 0 rfl rfl (ok_in ho_1) rfl dX8_doRoll_133 ?_
      refine s_iconst K dX8_doRoll_134 kic_1 ?_
      refine s_icmp_ne (tgt := 144) K dX8_doRoll_135 (by decide) (fun c_34 => ?_) (fun c_34 => ?_)
      · refine s_iload_n K dX8_doRoll_138 rfl 6 rfl ?_
        refine s_iconst K dX8_doRoll_139 kic_2 ?_
        refine s_irem K dX8_doRoll_140 knz_2 ?_
        refine s_goto (tgt := 145) K dX8_doRoll_141 (by decide) ?_
        refine s_iast (w' := (wM cI cC cB cQ kc mh q_depthOf q_kindOf q_sizeOf q_placeOf q_onOf q_sticksOf q_page q_savedDepth q_gameSize q_gamePlace q_gameSticks q_gameDepth q_keptDepth q_keptSize q_keptPlace q_keptOn q_keptSticks m_isLawn m_lawns m_wetness m_strength m_days m_balls m_asks m_books m_pageLength m_faultAt m_savedSize m_savedPlace m_savedSticks m_bestSize m_bestFirst m_seedNow m_isKept m_keptLawn m_keptBalls m_keptStrength m_keptDays m_h (upd m_depthOf (Int32.toNatClampNeg r_2) ((m_depthOf (Int32.toNatClampNeg r_2)) - ((r_31 + 1) / 2))) m_kindOf (upd m_sizeOf (Int32.toNatClampNeg a1) ((m_sizeOf (Int32.toNatClampNeg a1)) + ((r_31 + 1) / 2))) (upd m_placeOf (Int32.toNatClampNeg a1) r_2) m_onOf (upd m_sticksOf (Int32.toNatClampNeg a1) (a2 - a2 / 2 * 2)) m_page m_savedDepth m_gameSize m_gamePlace m_gameSticks m_gameDepth m_keptDepth m_keptSize m_keptPlace m_keptOn m_keptSticks)) K 6 0 rfl rfl (ok_in ho_1) rfl rfl dX8_doRoll_145 ?_
        refine s_aload_n K dX8_doRoll_146 rfl 4 rfl ?_
        refine s_get K 0 rfl rfl inT8 7 (Nat.le_of_ble_eq_true rfl) t_560 rfl rfl dX8_doRoll_147 ?_
        refine s_iload_n K dX8_doRoll_150 rfl 5 rfl ?_
        refine s_iald K 2 0 rfl rfl (ok_in ho_1) rfl dX8_doRoll_151 ?_
        refine s_iconst K dX8_doRoll_152 kic_2 ?_
        refine s_icmp_ne (tgt := 181) K dX8_doRoll_153 (by decide) (fun c_35 => ?_) (fun c_35 => ?_)
        · refine s_aload_n K dX8_doRoll_156 rfl 4 rfl ?_
          refine s_get K 0 rfl rfl inT8 8 (Nat.le_of_ble_eq_true rfl) t_561 rfl rfl dX8_doRoll_157 ?_
          refine s_iload_n K dX8_doRoll_160 rfl 5 rfl ?_
          refine s_iald K 3 0 rfl rfl (ok_in ho_1) rfl dX8_doRoll_161 ?_
          refine s_bipush K dX8_doRoll_162 kib_20 ?_
          refine s_icmp_le (tgt := 181) K dX8_doRoll_164 (by decide) (fun c_36 => ?_) (fun c_36 => ?_)
          · exact s_vret K hret hlk rfl rfl dX8_doRoll_181
          · refine s_aload_n K dX8_doRoll_167 rfl 4 rfl ?_
            refine s_get K 0 rfl rfl inT8 8 (Nat.le_of_ble_eq_true rfl) t_561 rfl rfl dX8_doRoll_168 ?_
            refine s_iload_n K dX8_doRoll_171 rfl 5 rfl ?_
            refine s_iconst K dX8_doRoll_172 kic_0 ?_
            refine s_iast (w' := (wM cI cC cB cQ kc mh q_depthOf q_kindOf q_sizeOf q_placeOf q_onOf q_sticksOf q_page q_savedDepth q_gameSize q_gamePlace q_gameSticks q_gameDepth q_keptDepth q_keptSize q_keptPlace q_keptOn q_keptSticks m_isLawn m_lawns m_wetness m_strength m_days m_balls m_asks m_books m_pageLength m_faultAt m_savedSize m_savedPlace m_savedSticks m_bestSize m_bestFirst m_seedNow m_isKept m_keptLawn m_keptBalls m_keptStrength m_keptDays m_h (upd m_depthOf (Int32.toNatClampNeg r_2) ((m_depthOf (Int32.toNatClampNeg r_2)) - ((r_31 + 1) / 2))) m_kindOf (upd (upd m_sizeOf (Int32.toNatClampNeg a1) ((m_sizeOf (Int32.toNatClampNeg a1)) + ((r_31 + 1) / 2))) (Int32.toNatClampNeg a1) 0) (upd m_placeOf (Int32.toNatClampNeg a1) r_2) m_onOf (upd m_sticksOf (Int32.toNatClampNeg a1) (a2 - a2 / 2 * 2)) m_page m_savedDepth m_gameSize m_gamePlace m_gameSticks m_gameDepth m_keptDepth m_keptSize m_keptPlace m_keptOn m_keptSticks)) K 3 0 rfl rfl (ok_in ho_1) rfl rfl dX8_doRoll_173 ?_
            refine s_aload_n K dX8_doRoll_174 rfl 4 rfl ?_
            refine s_get K 0 rfl rfl inT8 9 (Nat.le_of_ble_eq_true rfl) t_562 rfl rfl dX8_doRoll_175 ?_
            refine s_iload_n K dX8_doRoll_178 rfl 5 rfl ?_
            refine s_iconst K dX8_doRoll_179 kic_m1 ?_
            refine s_iast (w' := (wM cI cC cB cQ kc mh q_depthOf q_kindOf q_sizeOf q_placeOf q_onOf q_sticksOf q_page q_savedDepth q_gameSize q_gamePlace q_gameSticks q_gameDepth q_keptDepth q_keptSize q_keptPlace q_keptOn q_keptSticks m_isLawn m_lawns m_wetness m_strength m_days m_balls m_asks m_books m_pageLength m_faultAt m_savedSize m_savedPlace m_savedSticks m_bestSize m_bestFirst m_seedNow m_isKept m_keptLawn m_keptBalls m_keptStrength m_keptDays m_h (upd m_depthOf (Int32.toNatClampNeg r_2) ((m_depthOf (Int32.toNatClampNeg r_2)) - ((r_31 + 1) / 2))) m_kindOf (upd (upd m_sizeOf (Int32.toNatClampNeg a1) ((m_sizeOf (Int32.toNatClampNeg a1)) + ((r_31 + 1) / 2))) (Int32.toNatClampNeg a1) 0) (upd (upd m_placeOf (Int32.toNatClampNeg a1) r_2) (Int32.toNatClampNeg a1) (-1)) m_onOf (upd m_sticksOf (Int32.toNatClampNeg a1) (a2 - a2 / 2 * 2)) m_page m_savedDepth m_gameSize m_gamePlace m_gameSticks m_gameDepth m_keptDepth m_keptSize m_keptPlace m_keptOn m_keptSticks)) K 4 0 rfl rfl (ok_in ho_1) rfl rfl dX8_doRoll_180 ?_
            exact s_vret K hret hlk rfl rfl dX8_doRoll_181
        · exact s_vret K hret hlk rfl rfl dX8_doRoll_181
      · refine s_iconst K dX8_doRoll_144 kic_m1 ?_
        refine s_iast (w' := (wM cI cC cB cQ kc mh q_depthOf q_kindOf q_sizeOf q_placeOf q_onOf q_sticksOf q_page q_savedDepth q_gameSize q_gamePlace q_gameSticks q_gameDepth q_keptDepth q_keptSize q_keptPlace q_keptOn q_keptSticks m_isLawn m_lawns m_wetness m_strength m_days m_balls m_asks m_books m_pageLength m_faultAt m_savedSize m_savedPlace m_savedSticks m_bestSize m_bestFirst m_seedNow m_isKept m_keptLawn m_keptBalls m_keptStrength m_keptDays m_h (upd m_depthOf (Int32.toNatClampNeg r_2) ((m_depthOf (Int32.toNatClampNeg r_2)) - ((r_31 + 1) / 2))) m_kindOf (upd m_sizeOf (Int32.toNatClampNeg a1) ((m_sizeOf (Int32.toNatClampNeg a1)) + ((r_31 + 1) / 2))) (upd m_placeOf (Int32.toNatClampNeg a1) r_2) m_onOf (upd m_sticksOf (Int32.toNatClampNeg a1) (-1)) m_page m_savedDepth m_gameSize m_gamePlace m_gameSticks m_gameDepth m_keptDepth m_keptSize m_keptPlace m_keptOn m_keptSticks)) K 6 0 rfl rfl (ok_in ho_1) rfl rfl dX8_doRoll_145 ?_
        refine s_aload_n K dX8_doRoll_146 rfl 4 rfl ?_
        refine s_get K 0 rfl rfl inT8 7 (Nat.le_of_ble_eq_true rfl) t_560 rfl rfl dX8_doRoll_147 ?_
        refine s_iload_n K dX8_doRoll_150 rfl 5 rfl ?_
        refine s_iald K 2 0 rfl rfl (ok_in ho_1) rfl dX8_doRoll_151 ?_
        refine s_iconst K dX8_doRoll_152 kic_2 ?_
        refine s_icmp_ne (tgt := 181) K dX8_doRoll_153 (by decide) (fun c_37 => ?_) (fun c_37 => ?_)
        · refine s_aload_n K dX8_doRoll_156 rfl 4 rfl ?_
          refine s_get K 0 rfl rfl inT8 8 (Nat.le_of_ble_eq_true rfl) t_561 rfl rfl dX8_doRoll_157 ?_
          refine s_iload_n K dX8_doRoll_160 rfl 5 rfl ?_
          refine s_iald K 3 0 rfl rfl (ok_in ho_1) rfl dX8_doRoll_161 ?_
          refine s_bipush K dX8_doRoll_162 kib_20 ?_
          refine s_icmp_le (tgt := 181) K dX8_doRoll_164 (by decide) (fun c_38 => ?_) (fun c_38 => ?_)
          · exact s_vret K hret hlk rfl rfl dX8_doRoll_181
          · refine s_aload_n K dX8_doRoll_167 rfl 4 rfl ?_
            refine s_get K 0 rfl rfl inT8 8 (Nat.le_of_ble_eq_true rfl) t_561 rfl rfl dX8_doRoll_168 ?_
            refine s_iload_n K dX8_doRoll_171 rfl 5 rfl ?_
            refine s_iconst K dX8_doRoll_172 kic_0 ?_
            refine s_iast (w' := (wM cI cC cB cQ kc mh q_depthOf q_kindOf q_sizeOf q_placeOf q_onOf q_sticksOf q_page q_savedDepth q_gameSize q_gamePlace q_gameSticks q_gameDepth q_keptDepth q_keptSize q_keptPlace q_keptOn q_keptSticks m_isLawn m_lawns m_wetness m_strength m_days m_balls m_asks m_books m_pageLength m_faultAt m_savedSize m_savedPlace m_savedSticks m_bestSize m_bestFirst m_seedNow m_isKept m_keptLawn m_keptBalls m_keptStrength m_keptDays m_h (upd m_depthOf (Int32.toNatClampNeg r_2) ((m_depthOf (Int32.toNatClampNeg r_2)) - ((r_31 + 1) / 2))) m_kindOf (upd (upd m_sizeOf (Int32.toNatClampNeg a1) ((m_sizeOf (Int32.toNatClampNeg a1)) + ((r_31 + 1) / 2))) (Int32.toNatClampNeg a1) 0) (upd m_placeOf (Int32.toNatClampNeg a1) r_2) m_onOf (upd m_sticksOf (Int32.toNatClampNeg a1) (-1)) m_page m_savedDepth m_gameSize m_gamePlace m_gameSticks m_gameDepth m_keptDepth m_keptSize m_keptPlace m_keptOn m_keptSticks)) K 3 0 rfl rfl (ok_in ho_1) rfl rfl dX8_doRoll_173 ?_
            refine s_aload_n K dX8_doRoll_174 rfl 4 rfl ?_
            refine s_get K 0 rfl rfl inT8 9 (Nat.le_of_ble_eq_true rfl) t_562 rfl rfl dX8_doRoll_175 ?_
            refine s_iload_n K dX8_doRoll_178 rfl 5 rfl ?_
            refine s_iconst K dX8_doRoll_179 kic_m1 ?_
            refine s_iast (w' := (wM cI cC cB cQ kc mh q_depthOf q_kindOf q_sizeOf q_placeOf q_onOf q_sticksOf q_page q_savedDepth q_gameSize q_gamePlace q_gameSticks q_gameDepth q_keptDepth q_keptSize q_keptPlace q_keptOn q_keptSticks m_isLawn m_lawns m_wetness m_strength m_days m_balls m_asks m_books m_pageLength m_faultAt m_savedSize m_savedPlace m_savedSticks m_bestSize m_bestFirst m_seedNow m_isKept m_keptLawn m_keptBalls m_keptStrength m_keptDays m_h (upd m_depthOf (Int32.toNatClampNeg r_2) ((m_depthOf (Int32.toNatClampNeg r_2)) - ((r_31 + 1) / 2))) m_kindOf (upd (upd m_sizeOf (Int32.toNatClampNeg a1) ((m_sizeOf (Int32.toNatClampNeg a1)) + ((r_31 + 1) / 2))) (Int32.toNatClampNeg a1) 0) (upd (upd m_placeOf (Int32.toNatClampNeg a1) r_2) (Int32.toNatClampNeg a1) (-1)) m_onOf (upd m_sticksOf (Int32.toNatClampNeg a1) (-1)) m_page m_savedDepth m_gameSize m_gamePlace m_gameSticks m_gameDepth m_keptDepth m_keptSize m_keptPlace m_keptOn m_keptSticks)) K 4 0 rfl rfl (ok_in ho_1) rfl rfl dX8_doRoll_180 ?_
            exact s_vret K hret hlk rfl rfl dX8_doRoll_181
        · exact s_vret K hret hlk rfl rfl dX8_doRoll_181
    · refine s_aload_n K dX8_doRoll_51 rfl 2 rfl ?_
      refine s_get K 0 rfl rfl inT8 7 (Nat.le_of_ble_eq_true rfl) t_560 rfl rfl dX8_doRoll_52 ?_
      refine s_iload_n K dX8_doRoll_55 rfl 3 rfl ?_
      refine s_iald K 2 0 rfl rfl (ok_in ho_1) rfl dX8_doRoll_56 ?_
      refine s_iconst K dX8_doRoll_57 kic_2 ?_
      refine s_icmp_ge (tgt := 73) K dX8_doRoll_58 (by decide) (fun c_39 => ?_) (fun c_39 => ?_)
      · refine s_iconst K dX8_doRoll_73 kic_0 ?_
        refine s_istore (lv' := [(5, .int 0), (4, .int r_31), (3, .int r_2), (0, .ref mh), (1, .int a1), (2, .int a2)]) K dX8_doRoll_74 (Nat.le_of_ble_eq_true rfl) rfl ?_
        refine s_iload K dX8_doRoll_76 0 rfl ?_
        refine s_if_eqT (tgt := 90) K dX8_doRoll_78 (by decide) (by decide +kernel) ?_
        refine s_iload K dX8_doRoll_90 1 rfl ?_
        refine s_istore (lv' := [(6, .int r_31), (5, .int 0), (4, .int r_31), (3, .int r_2), (0, .ref mh), (1, .int a1), (2, .int a2)]) K dX8_doRoll_92 (Nat.le_of_ble_eq_true rfl) rfl ?_
        refine s_aload_n K dX8_doRoll_94 rfl 4 rfl ?_
        refine s_get K 0 rfl rfl inT8 2 (Nat.le_of_ble_eq_true rfl) t_555 rfl rfl dX8_doRoll_95 ?_
        refine s_iload_n K dX8_doRoll_98 rfl 3 rfl ?_
        refine s_dup2 K dX8_doRoll_99 rfl rfl ?_
        refine s_iald K 1 0 rfl rfl (ok_in ho_6) rfl dX8_doRoll_100 ?_
        refine s_iload K dX8_doRoll_101 0 rfl ?_
        refine s_isub K dX8_doRoll_103 ?_
        refine s_iast (w' := (wM cI cC cB cQ kc mh q_depthOf q_kindOf q_sizeOf q_placeOf q_onOf q_sticksOf q_page q_savedDepth q_gameSize q_gamePlace q_gameSticks q_gameDepth q_keptDepth q_keptSize q_keptPlace q_keptOn q_keptSticks m_isLawn m_lawns m_wetness m_strength m_days m_balls m_asks m_books m_pageLength m_faultAt m_savedSize m_savedPlace m_savedSticks m_bestSize m_bestFirst m_seedNow m_isKept m_keptLawn m_keptBalls m_keptStrength m_keptDays m_h (upd m_depthOf (Int32.toNatClampNeg r_2) ((m_depthOf (Int32.toNatClampNeg r_2)) - r_31)) m_kindOf m_sizeOf m_placeOf m_onOf m_sticksOf m_page m_savedDepth m_gameSize m_gamePlace m_gameSticks m_gameDepth m_keptDepth m_keptSize m_keptPlace m_keptOn m_keptSticks)) K 1 0 rfl rfl (ok_in ho_6) rfl rfl dX8_doRoll_104 ?_
        refine s_aload_n K dX8_doRoll_105 rfl 4 rfl ?_
        refine s_get K 0 rfl rfl inT8 8 (Nat.le_of_ble_eq_true rfl) t_561 rfl rfl dX8_doRoll_106 ?_
        refine s_iload_n K dX8_doRoll_109 rfl 5 rfl ?_
        refine s_dup2 K dX8_doRoll_110 rfl rfl ?_
        refine s_iald K 3 0 rfl rfl (ok_in ho_1) rfl dX8_doRoll_111 ?_
        refine s_iload K dX8_doRoll_112 0 rfl ?_
        refine s_iadd K dX8_doRoll_114 ?_
        refine s_iast (w' := (wM cI cC cB cQ kc mh q_depthOf q_kindOf q_sizeOf q_placeOf q_onOf q_sticksOf q_page q_savedDepth q_gameSize q_gamePlace q_gameSticks q_gameDepth q_keptDepth q_keptSize q_keptPlace q_keptOn q_keptSticks m_isLawn m_lawns m_wetness m_strength m_days m_balls m_asks m_books m_pageLength m_faultAt m_savedSize m_savedPlace m_savedSticks m_bestSize m_bestFirst m_seedNow m_isKept m_keptLawn m_keptBalls m_keptStrength m_keptDays m_h (upd m_depthOf (Int32.toNatClampNeg r_2) ((m_depthOf (Int32.toNatClampNeg r_2)) - r_31)) m_kindOf (upd m_sizeOf (Int32.toNatClampNeg a1) ((m_sizeOf (Int32.toNatClampNeg a1)) + r_31)) m_placeOf m_onOf m_sticksOf m_page m_savedDepth m_gameSize m_gamePlace m_gameSticks m_gameDepth m_keptDepth m_keptSize m_keptPlace m_keptOn m_keptSticks)) K 3 0 rfl rfl (ok_in ho_1) rfl rfl dX8_doRoll_115 ?_
        refine s_aload_n K dX8_doRoll_116 rfl 4 rfl ?_
        refine s_get K 0 rfl rfl inT8 9 (Nat.le_of_ble_eq_true rfl) t_562 rfl rfl dX8_doRoll_117 ?_
        refine s_iload_n K dX8_doRoll_120 rfl 5 rfl ?_
        refine s_iload_n K dX8_doRoll_121 rfl 3 rfl ?_
        refine s_iast (w' := (wM cI cC cB cQ kc mh q_depthOf q_kindOf q_sizeOf q_placeOf q_onOf q_sticksOf q_page q_savedDepth q_gameSize q_gamePlace q_gameSticks q_gameDepth q_keptDepth q_keptSize q_keptPlace q_keptOn q_keptSticks m_isLawn m_lawns m_wetness m_strength m_days m_balls m_asks m_books m_pageLength m_faultAt m_savedSize m_savedPlace m_savedSticks m_bestSize m_bestFirst m_seedNow m_isKept m_keptLawn m_keptBalls m_keptStrength m_keptDays m_h (upd m_depthOf (Int32.toNatClampNeg r_2) ((m_depthOf (Int32.toNatClampNeg r_2)) - r_31)) m_kindOf (upd m_sizeOf (Int32.toNatClampNeg a1) ((m_sizeOf (Int32.toNatClampNeg a1)) + r_31)) (upd m_placeOf (Int32.toNatClampNeg a1) r_2) m_onOf m_sticksOf m_page m_savedDepth m_gameSize m_gamePlace m_gameSticks m_gameDepth m_keptDepth m_keptSize m_keptPlace m_keptOn m_keptSticks)) K 4 0 rfl rfl (ok_in ho_1) rfl rfl dX8_doRoll_122 ?_
        refine s_aload_n K dX8_doRoll_123 rfl 4 rfl ?_
        refine s_get K 0 rfl rfl inT8 11 (Nat.le_of_ble_eq_true rfl) t_564 rfl rfl dX8_doRoll_124 ?_
        refine s_iload_n K dX8_doRoll_127 rfl 5 rfl ?_
        refine s_aload_n K dX8_doRoll_128 rfl 4 rfl ?_
        refine s_get K 0 rfl rfl inT8 7 (Nat.le_of_ble_eq_true rfl) t_560 rfl rfl dX8_doRoll_129 ?_
        refine s_iload_n K dX8_doRoll_132 rfl 5 rfl ?_
        refine s_iald K 2 0 rfl rfl (ok_in ho_1) rfl dX8_doRoll_133 ?_
        refine s_iconst K dX8_doRoll_134 kic_1 ?_
        refine s_icmp_ne (tgt := 144) K dX8_doRoll_135 (by decide) (fun c_40 => ?_) (fun c_40 => ?_)
        · refine s_iload_n K dX8_doRoll_138 rfl 6 rfl ?_
          refine s_iconst K dX8_doRoll_139 kic_2 ?_
          refine s_irem K dX8_doRoll_140 knz_2 ?_
          refine s_goto (tgt := 145) K dX8_doRoll_141 (by decide) ?_
          refine s_iast (w' := (wM cI cC cB cQ kc mh q_depthOf q_kindOf q_sizeOf q_placeOf q_onOf q_sticksOf q_page q_savedDepth q_gameSize q_gamePlace q_gameSticks q_gameDepth q_keptDepth q_keptSize q_keptPlace q_keptOn q_keptSticks m_isLawn m_lawns m_wetness m_strength m_days m_balls m_asks m_books m_pageLength m_faultAt m_savedSize m_savedPlace m_savedSticks m_bestSize m_bestFirst m_seedNow m_isKept m_keptLawn m_keptBalls m_keptStrength m_keptDays m_h (upd m_depthOf (Int32.toNatClampNeg r_2) ((m_depthOf (Int32.toNatClampNeg r_2)) - r_31)) m_kindOf (upd m_sizeOf (Int32.toNatClampNeg a1) ((m_sizeOf (Int32.toNatClampNeg a1)) + r_31)) (upd m_placeOf (Int32.toNatClampNeg a1) r_2) m_onOf (upd m_sticksOf (Int32.toNatClampNeg a1) (a2 - a2 / 2 * 2)) m_page m_savedDepth m_gameSize m_gamePlace m_gameSticks m_gameDepth m_keptDepth m_keptSize m_keptPlace m_keptOn m_keptSticks)) K 6 0 rfl rfl (ok_in ho_1) rfl rfl dX8_doRoll_145 ?_
          refine s_aload_n K dX8_doRoll_146 rfl 4 rfl ?_
          refine s_get K 0 rfl rfl inT8 7 (Nat.le_of_ble_eq_true rfl) t_560 rfl rfl dX8_doRoll_147 ?_
          refine s_iload_n K dX8_doRoll_150 rfl 5 rfl ?_
          refine s_iald K 2 0 rfl rfl (ok_in ho_1) rfl dX8_doRoll_151 ?_
          refine s_iconst K dX8_doRoll_152 kic_2 ?_
          refine s_icmp_ne (tgt := 181) K dX8_doRoll_153 (by decide) (fun c_41 => ?_) (fun c_41 => ?_)
          · refine s_aload_n K dX8_doRoll_156 rfl 4 rfl ?_
            refine s_get K 0 rfl rfl inT8 8 (Nat.le_of_ble_eq_true rfl) t_561 rfl rfl dX8_doRoll_157 ?_
            refine s_iload_n K dX8_doRoll_160 rfl 5 rfl ?_
            refine s_iald K 3 0 rfl rfl (ok_in ho_1) rfl dX8_doRoll_161 ?_
            refine s_bipush K dX8_doRoll_162 kib_20 ?_
            refine s_icmp_le (tgt := 181) K dX8_doRoll_164 (by decide) (fun c_42 => ?_) (fun c_42 => ?_)
            · exact s_vret K hret hlk rfl rfl dX8_doRoll_181
            · refine s_aload_n K dX8_doRoll_167 rfl 4 rfl ?_
              refine s_get K 0 rfl rfl inT8 8 (Nat.le_of_ble_eq_true rfl) t_561 rfl rfl dX8_doRoll_168 ?_
              refine s_iload_n K dX8_doRoll_171 rfl 5 rfl ?_
              refine s_iconst K dX8_doRoll_172 kic_0 ?_
              refine s_iast (w' := (wM cI cC cB cQ kc mh q_depthOf q_kindOf q_sizeOf q_placeOf q_onOf q_sticksOf q_page q_savedDepth q_gameSize q_gamePlace q_gameSticks q_gameDepth q_keptDepth q_keptSize q_keptPlace q_keptOn q_keptSticks m_isLawn m_lawns m_wetness m_strength m_days m_balls m_asks m_books m_pageLength m_faultAt m_savedSize m_savedPlace m_savedSticks m_bestSize m_bestFirst m_seedNow m_isKept m_keptLawn m_keptBalls m_keptStrength m_keptDays m_h (upd m_depthOf (Int32.toNatClampNeg r_2) ((m_depthOf (Int32.toNatClampNeg r_2)) - r_31)) m_kindOf (upd (upd m_sizeOf (Int32.toNatClampNeg a1) ((m_sizeOf (Int32.toNatClampNeg a1)) + r_31)) (Int32.toNatClampNeg a1) 0) (upd m_placeOf (Int32.toNatClampNeg a1) r_2) m_onOf (upd m_sticksOf (Int32.toNatClampNeg a1) (a2 - a2 / 2 * 2)) m_page m_savedDepth m_gameSize m_gamePlace m_gameSticks m_gameDepth m_keptDepth m_keptSize m_keptPlace m_keptOn m_keptSticks)) K 3 0 rfl rfl (ok_in ho_1) rfl rfl dX8_doRoll_173 ?_
              refine s_aload_n K dX8_doRoll_174 rfl 4 rfl ?_
              refine s_get K 0 rfl rfl inT8 9 (Nat.le_of_ble_eq_true rfl) t_562 rfl rfl dX8_doRoll_175 ?_
              refine s_iload_n K dX8_doRoll_178 rfl 5 rfl ?_
              refine s_iconst K dX8_doRoll_179 kic_m1 ?_
              refine s_iast (w' := (wM cI cC cB cQ kc mh q_depthOf q_kindOf q_sizeOf q_placeOf q_onOf q_sticksOf q_page q_savedDepth q_gameSize q_gamePlace q_gameSticks q_gameDepth q_keptDepth q_keptSize q_keptPlace q_keptOn q_keptSticks m_isLawn m_lawns m_wetness m_strength m_days m_balls m_asks m_books m_pageLength m_faultAt m_savedSize m_savedPlace m_savedSticks m_bestSize m_bestFirst m_seedNow m_isKept m_keptLawn m_keptBalls m_keptStrength m_keptDays m_h (upd m_depthOf (Int32.toNatClampNeg r_2) ((m_depthOf (Int32.toNatClampNeg r_2)) - r_31)) m_kindOf (upd (upd m_sizeOf (Int32.toNatClampNeg a1) ((m_sizeOf (Int32.toNatClampNeg a1)) + r_31)) (Int32.toNatClampNeg a1) 0) (upd (upd m_placeOf (Int32.toNatClampNeg a1) r_2) (Int32.toNatClampNeg a1) (-1)) m_onOf (upd m_sticksOf (Int32.toNatClampNeg a1) (a2 - a2 / 2 * 2)) m_page m_savedDepth m_gameSize m_gamePlace m_gameSticks m_gameDepth m_keptDepth m_keptSize m_keptPlace m_keptOn m_keptSticks)) K 4 0 rfl rfl (ok_in ho_1) rfl rfl dX8_doRoll_180 ?_
              exact s_vret K hret hlk rfl rfl dX8_doRoll_181
          · exact s_vret K hret hlk rfl rfl dX8_doRoll_181
        · refine s_iconst K dX8_doRoll_144 kic_m1 ?_
          refine s_iast (w' := (wM cI cC cB cQ kc mh q_depthOf q_kindOf q_sizeOf q_placeOf q_onOf q_sticksOf q_page q_savedDepth q_gameSize q_gamePlace q_gameSticks q_gameDepth q_keptDepth q_keptSize q_keptPlace q_keptOn q_keptSticks m_isLawn m_lawns m_wetness m_strength m_days m_balls m_asks m_books m_pageLength m_faultAt m_savedSize m_savedPlace m_savedSticks m_bestSize m_bestFirst m_seedNow m_isKept m_keptLawn m_keptBalls m_keptStrength m_keptDays m_h (upd m_depthOf (Int32.toNatClampNeg r_2) ((m_depthOf (Int32.toNatClampNeg r_2)) - r_31)) m_kindOf (upd m_sizeOf (Int32.toNatClampNeg a1) ((m_sizeOf (Int32.toNatClampNeg a1)) + r_31)) (upd m_placeOf (Int32.toNatClampNeg a1) r_2) m_onOf (upd m_sticksOf (Int32.toNatClampNeg a1) (-1)) m_page m_savedDepth m_gameSize m_gamePlace m_gameSticks m_gameDepth m_keptDepth m_keptSize m_keptPlace m_keptOn m_keptSticks)) K 6 0 rfl rfl (ok_in ho_1) rfl rfl dX8_doRoll_145 ?_
          refine s_aload_n K dX8_doRoll_146 rfl 4 rfl ?_
          refine s_get K 0 rfl rfl inT8 7 (Nat.le_of_ble_eq_true rfl) t_560 rfl rfl dX8_doRoll_147 ?_
          refine s_iload_n K dX8_doRoll_150 rfl 5 rfl ?_
          refine s_iald K 2 0 rfl rfl (ok_in ho_1) rfl dX8_doRoll_151 ?_
          refine s_iconst K dX8_doRoll_152 kic_2 ?_
          refine s_icmp_ne (tgt := 181) K dX8_doRoll_153 (by decide) (fun c_43 => ?_) (fun c_43 => ?_)
          · refine s_aload_n K dX8_doRoll_156 rfl 4 rfl ?_
            refine s_get K 0 rfl rfl inT8 8 (Nat.le_of_ble_eq_true rfl) t_561 rfl rfl dX8_doRoll_157 ?_
            refine s_iload_n K dX8_doRoll_160 rfl 5 rfl ?_
            refine s_iald K 3 0 rfl rfl (ok_in ho_1) rfl dX8_doRoll_161 ?_
            refine s_bipush K dX8_doRoll_162 kib_20 ?_
            refine s_icmp_le (tgt := 181) K dX8_doRoll_164 (by decide) (fun c_44 => ?_) (fun c_44 => ?_)
            · exact s_vret K hret hlk rfl rfl dX8_doRoll_181
            · refine s_aload_n K dX8_doRoll_167 rfl 4 rfl ?_
              refine s_get K 0 rfl rfl inT8 8 (Nat.le_of_ble_eq_true rfl) t_561 rfl rfl dX8_doRoll_168 ?_
              refine s_iload_n K dX8_doRoll_171 rfl 5 rfl ?_
              refine s_iconst K dX8_doRoll_172 kic_0 ?_
              refine s_iast (w' := (wM cI cC cB cQ kc mh q_depthOf q_kindOf q_sizeOf q_placeOf q_onOf q_sticksOf q_page q_savedDepth q_gameSize q_gamePlace q_gameSticks q_gameDepth q_keptDepth q_keptSize q_keptPlace q_keptOn q_keptSticks m_isLawn m_lawns m_wetness m_strength m_days m_balls m_asks m_books m_pageLength m_faultAt m_savedSize m_savedPlace m_savedSticks m_bestSize m_bestFirst m_seedNow m_isKept m_keptLawn m_keptBalls m_keptStrength m_keptDays m_h (upd m_depthOf (Int32.toNatClampNeg r_2) ((m_depthOf (Int32.toNatClampNeg r_2)) - r_31)) m_kindOf (upd (upd m_sizeOf (Int32.toNatClampNeg a1) ((m_sizeOf (Int32.toNatClampNeg a1)) + r_31)) (Int32.toNatClampNeg a1) 0) (upd m_placeOf (Int32.toNatClampNeg a1) r_2) m_onOf (upd m_sticksOf (Int32.toNatClampNeg a1) (-1)) m_page m_savedDepth m_gameSize m_gamePlace m_gameSticks m_gameDepth m_keptDepth m_keptSize m_keptPlace m_keptOn m_keptSticks)) K 3 0 rfl rfl (ok_in ho_1) rfl rfl dX8_doRoll_173 ?_
              refine s_aload_n K dX8_doRoll_174 rfl 4 rfl ?_
              refine s_get K 0 rfl rfl inT8 9 (Nat.le_of_ble_eq_true rfl) t_562 rfl rfl dX8_doRoll_175 ?_
              refine s_iload_n K dX8_doRoll_178 rfl 5 rfl ?_
              refine s_iconst K dX8_doRoll_179 kic_m1 ?_
              refine s_iast (w' := (wM cI cC cB cQ kc mh q_depthOf q_kindOf q_sizeOf q_placeOf q_onOf q_sticksOf q_page q_savedDepth q_gameSize q_gamePlace q_gameSticks q_gameDepth q_keptDepth q_keptSize q_keptPlace q_keptOn q_keptSticks m_isLawn m_lawns m_wetness m_strength m_days m_balls m_asks m_books m_pageLength m_faultAt m_savedSize m_savedPlace m_savedSticks m_bestSize m_bestFirst m_seedNow m_isKept m_keptLawn m_keptBalls m_keptStrength m_keptDays m_h (upd m_depthOf (Int32.toNatClampNeg r_2) ((m_depthOf (Int32.toNatClampNeg r_2)) - r_31)) m_kindOf (upd (upd m_sizeOf (Int32.toNatClampNeg a1) ((m_sizeOf (Int32.toNatClampNeg a1)) + r_31)) (Int32.toNatClampNeg a1) 0) (upd (upd m_placeOf (Int32.toNatClampNeg a1) r_2) (Int32.toNatClampNeg a1) (-1)) m_onOf (upd m_sticksOf (Int32.toNatClampNeg a1) (-1)) m_page m_savedDepth m_gameSize m_gamePlace m_gameSticks m_gameDepth m_keptDepth m_keptSize m_keptPlace m_keptOn m_keptSticks)) K 4 0 rfl rfl (ok_in ho_1) rfl rfl dX8_doRoll_180 ?_
              exact s_vret K hret hlk rfl rfl dX8_doRoll_181
          · exact s_vret K hret hlk rfl rfl dX8_doRoll_181
      · refine s_aload_n K dX8_doRoll_61 rfl 2 rfl ?_
        refine s_get K 0 rfl rfl inT8 3 (Nat.le_of_ble_eq_true rfl) t_556 rfl rfl dX8_doRoll_62 ?_
        refine s_iconst K dX8_doRoll_65 kic_4 ?_
        refine s_icmp_ge (tgt := 73) K dX8_doRoll_66 (by decide) (fun c_45 => ?_) (fun c_45 => ?_)
        · refine s_iconst K dX8_doRoll_73 kic_0 ?_
          refine s_istore (lv' := [(5, .int 0), (4, .int r_31), (3, .int r_2), (0, .ref mh), (1, .int a1), (2, .int a2)]) K dX8_doRoll_74 (Nat.le_of_ble_eq_true rfl) rfl ?_
          refine s_iload K dX8_doRoll_76 0 rfl ?_
          refine s_if_eqT (tgt := 90) K dX8_doRoll_78 (by decide) (by decide +kernel) ?_
          refine s_iload K dX8_doRoll_90 1 rfl ?_
          refine s_istore (lv' := [(6, .int r_31), (5, .int 0), (4, .int r_31), (3, .int r_2), (0, .ref mh), (1, .int a1), (2, .int a2)]) K dX8_doRoll_92 (Nat.le_of_ble_eq_true rfl) rfl ?_
          refine s_aload_n K dX8_doRoll_94 rfl 4 rfl ?_
          refine s_get K 0 rfl rfl inT8 2 (Nat.le_of_ble_eq_true rfl) t_555 rfl rfl dX8_doRoll_95 ?_
          refine s_iload_n K dX8_doRoll_98 rfl 3 rfl ?_
          refine s_dup2 K dX8_doRoll_99 rfl rfl ?_
          refine s_iald K 1 0 rfl rfl (ok_in ho_6) rfl dX8_doRoll_100 ?_
          refine s_iload K dX8_doRoll_101 0 rfl ?_
          refine s_isub K dX8_doRoll_103 ?_
          refine s_iast (w' := (wM cI cC cB cQ kc mh q_depthOf q_kindOf q_sizeOf q_placeOf q_onOf q_sticksOf q_page q_savedDepth q_gameSize q_gamePlace q_gameSticks q_gameDepth q_keptDepth q_keptSize q_keptPlace q_keptOn q_keptSticks m_isLawn m_lawns m_wetness m_strength m_days m_balls m_asks m_books m_pageLength m_faultAt m_savedSize m_savedPlace m_savedSticks m_bestSize m_bestFirst m_seedNow m_isKept m_keptLawn m_keptBalls m_keptStrength m_keptDays m_h (upd m_depthOf (Int32.toNatClampNeg r_2) ((m_depthOf (Int32.toNatClampNeg r_2)) - r_31)) m_kindOf m_sizeOf m_placeOf m_onOf m_sticksOf m_page m_savedDepth m_gameSize m_gamePlace m_gameSticks m_gameDepth m_keptDepth m_keptSize m_keptPlace m_keptOn m_keptSticks)) K 1 0 rfl rfl (ok_in ho_6) rfl rfl dX8_doRoll_104 ?_
          refine s_aload_n K dX8_doRoll_105 rfl 4 rfl ?_
          refine s_get K 0 rfl rfl inT8 8 (Nat.le_of_ble_eq_true rfl) t_561 rfl rfl dX8_doRoll_106 ?_
          refine s_iload_n K dX8_doRoll_109 rfl 5 rfl ?_
          refine s_dup2 K dX8_doRoll_110 rfl rfl ?_
          refine s_iald K 3 0 rfl rfl (ok_in ho_1) rfl dX8_doRoll_111 ?_
          refine s_iload K dX8_doRoll_112 0 rfl ?_
          refine s_iadd K dX8_doRoll_114 ?_
          refine s_iast (w' := (wM cI cC cB cQ kc mh q_depthOf q_kindOf q_sizeOf q_placeOf q_onOf q_sticksOf q_page q_savedDepth q_gameSize q_gamePlace q_gameSticks q_gameDepth q_keptDepth q_keptSize q_keptPlace q_keptOn q_keptSticks m_isLawn m_lawns m_wetness m_strength m_days m_balls m_asks m_books m_pageLength m_faultAt m_savedSize m_savedPlace m_savedSticks m_bestSize m_bestFirst m_seedNow m_isKept m_keptLawn m_keptBalls m_keptStrength m_keptDays m_h (upd m_depthOf (Int32.toNatClampNeg r_2) ((m_depthOf (Int32.toNatClampNeg r_2)) - r_31)) m_kindOf (upd m_sizeOf (Int32.toNatClampNeg a1) ((m_sizeOf (Int32.toNatClampNeg a1)) + r_31)) m_placeOf m_onOf m_sticksOf m_page m_savedDepth m_gameSize m_gamePlace m_gameSticks m_gameDepth m_keptDepth m_keptSize m_keptPlace m_keptOn m_keptSticks)) K 3 0 rfl rfl (ok_in ho_1) rfl rfl dX8_doRoll_115 ?_
          refine s_aload_n K dX8_doRoll_116 rfl 4 rfl ?_
          refine s_get K 0 rfl rfl inT8 9 (Nat.le_of_ble_eq_true rfl) t_562 rfl rfl dX8_doRoll_117 ?_
          refine s_iload_n K dX8_doRoll_120 rfl 5 rfl ?_
          refine s_iload_n K dX8_doRoll_121 rfl 3 rfl ?_
          refine s_iast (w' := (wM cI cC cB cQ kc mh q_depthOf q_kindOf q_sizeOf q_placeOf q_onOf q_sticksOf q_page q_savedDepth q_gameSize q_gamePlace q_gameSticks q_gameDepth q_keptDepth q_keptSize q_keptPlace q_keptOn q_keptSticks m_isLawn m_lawns m_wetness m_strength m_days m_balls m_asks m_books m_pageLength m_faultAt m_savedSize m_savedPlace m_savedSticks m_bestSize m_bestFirst m_seedNow m_isKept m_keptLawn m_keptBalls m_keptStrength m_keptDays m_h (upd m_depthOf (Int32.toNatClampNeg r_2) ((m_depthOf (Int32.toNatClampNeg r_2)) - r_31)) m_kindOf (upd m_sizeOf (Int32.toNatClampNeg a1) ((m_sizeOf (Int32.toNatClampNeg a1)) + r_31)) (upd m_placeOf (Int32.toNatClampNeg a1) r_2) m_onOf m_sticksOf m_page m_savedDepth m_gameSize m_gamePlace m_gameSticks m_gameDepth m_keptDepth m_keptSize m_keptPlace m_keptOn m_keptSticks)) K 4 0 rfl rfl (ok_in ho_1) rfl rfl dX8_doRoll_122 ?_
          refine s_aload_n K dX8_doRoll_123 rfl 4 rfl ?_
          refine s_get K 0 rfl rfl inT8 11 (Nat.le_of_ble_eq_true rfl) t_564 rfl rfl dX8_doRoll_124 ?_
          refine s_iload_n K dX8_doRoll_127 rfl 5 rfl ?_
          refine s_aload_n K dX8_doRoll_128 rfl 4 rfl ?_
          refine s_get K 0 rfl rfl inT8 7 (Nat.le_of_ble_eq_true rfl) t_560 rfl rfl dX8_doRoll_129 ?_
          refine s_iload_n K dX8_doRoll_132 rfl 5 rfl ?_
          refine s_iald K 2 0 rfl rfl (ok_in ho_1) rfl dX8_doRoll_133 ?_
          refine s_iconst K dX8_doRoll_134 kic_1 ?_
          refine s_icmp_ne (tgt := 144) K dX8_doRoll_135 (by decide) (fun c_46 => ?_) (fun c_46 => ?_)
          · refine s_iload_n K dX8_doRoll_138 rfl 6 rfl ?_
            refine s_iconst K dX8_doRoll_139 kic_2 ?_
            refine s_irem K dX8_doRoll_140 knz_2 ?_
            refine s_goto (tgt := 145) K dX8_doRoll_141 (by decide) ?_
            refine s_iast (w' := (wM cI cC cB cQ kc mh q_depthOf q_kindOf q_sizeOf q_placeOf q_onOf q_sticksOf q_page q_savedDepth q_gameSize q_gamePlace q_gameSticks q_gameDepth q_keptDepth q_keptSize q_keptPlace q_keptOn q_keptSticks m_isLawn m_lawns m_wetness m_strength m_days m_balls m_asks m_books m_pageLength m_faultAt m_savedSize m_savedPlace m_savedSticks m_bestSize m_bestFirst m_seedNow m_isKept m_keptLawn m_keptBalls m_keptStrength m_keptDays m_h (upd m_depthOf (Int32.toNatClampNeg r_2) ((m_depthOf (Int32.toNatClampNeg r_2)) - r_31)) m_kindOf (upd m_sizeOf (Int32.toNatClampNeg a1) ((m_sizeOf (Int32.toNatClampNeg a1)) + r_31)) (upd m_placeOf (Int32.toNatClampNeg a1) r_2) m_onOf (upd m_sticksOf (Int32.toNatClampNeg a1) (a2 - a2 / 2 * 2)) m_page m_savedDepth m_gameSize m_gamePlace m_gameSticks m_gameDepth m_keptDepth m_keptSize m_keptPlace m_keptOn m_keptSticks)) K 6 0 rfl rfl (ok_in ho_1) rfl rfl dX8_doRoll_145 ?_
            refine s_aload_n K dX8_doRoll_146 rfl 4 rfl ?_
            refine s_get K 0 rfl rfl inT8 7 (Nat.le_of_ble_eq_true rfl) t_560 rfl rfl dX8_doRoll_147 ?_
            refine s_iload_n K dX8_doRoll_150 rfl 5 rfl ?_
            refine s_iald K 2 0 rfl rfl (ok_in ho_1) rfl dX8_doRoll_151 ?_
            refine s_iconst K dX8_doRoll_152 kic_2 ?_
            refine s_icmp_ne (tgt := 181) K dX8_doRoll_153 (by decide) (fun c_47 => ?_) (fun c_47 => ?_)
            · refine s_aload_n K dX8_doRoll_156 rfl 4 rfl ?_
              refine s_get K 0 rfl rfl inT8 8 (Nat.le_of_ble_eq_true rfl) t_561 rfl rfl dX8_doRoll_157 ?_
              refine s_iload_n K dX8_doRoll_160 rfl 5 rfl ?_
              refine s_iald K 3 0 rfl rfl (ok_in ho_1) rfl dX8_doRoll_161 ?_
              refine s_bipush K dX8_doRoll_162 kib_20 ?_
              refine s_icmp_le (tgt := 181) K dX8_doRoll_164 (by decide) (fun c_48 => ?_) (fun c_48 => ?_)
              · exact s_vret K hret hlk rfl rfl dX8_doRoll_181
              · refine s_aload_n K dX8_doRoll_167 rfl 4 rfl ?_
                refine s_get K 0 rfl rfl inT8 8 (Nat.le_of_ble_eq_true rfl) t_561 rfl rfl dX8_doRoll_168 ?_
                refine s_iload_n K dX8_doRoll_171 rfl 5 rfl ?_
                refine s_iconst K dX8_doRoll_172 kic_0 ?_
                refine s_iast (w' := (wM cI cC cB cQ kc mh q_depthOf q_kindOf q_sizeOf q_placeOf q_onOf q_sticksOf q_page q_savedDepth q_gameSize q_gamePlace q_gameSticks q_gameDepth q_keptDepth q_keptSize q_keptPlace q_keptOn q_keptSticks m_isLawn m_lawns m_wetness m_strength m_days m_balls m_asks m_books m_pageLength m_faultAt m_savedSize m_savedPlace m_savedSticks m_bestSize m_bestFirst m_seedNow m_isKept m_keptLawn m_keptBalls m_keptStrength m_keptDays m_h (upd m_depthOf (Int32.toNatClampNeg r_2) ((m_depthOf (Int32.toNatClampNeg r_2)) - r_31)) m_kindOf (upd (upd m_sizeOf (Int32.toNatClampNeg a1) ((m_sizeOf (Int32.toNatClampNeg a1)) + r_31)) (Int32.toNatClampNeg a1) 0) (upd m_placeOf (Int32.toNatClampNeg a1) r_2) m_onOf (upd m_sticksOf (Int32.toNatClampNeg a1) (a2 - a2 / 2 * 2)) m_page m_savedDepth m_gameSize m_gamePlace m_gameSticks m_gameDepth m_keptDepth m_keptSize m_keptPlace m_keptOn m_keptSticks)) K 3 0 rfl rfl (ok_in ho_1) rfl rfl dX8_doRoll_173 ?_
                refine s_aload_n K dX8_doRoll_174 rfl 4 rfl ?_
                refine s_get K 0 rfl rfl inT8 9 (Nat.le_of_ble_eq_true rfl) t_562 rfl rfl dX8_doRoll_175 ?_
                refine s_iload_n K dX8_doRoll_178 rfl 5 rfl ?_
                refine s_iconst K dX8_doRoll_179 kic_m1 ?_
                refine s_iast (w' := (wM cI cC cB cQ kc mh q_depthOf q_kindOf q_sizeOf q_placeOf q_onOf q_sticksOf q_page q_savedDepth q_gameSize q_gamePlace q_gameSticks q_gameDepth q_keptDepth q_keptSize q_keptPlace q_keptOn q_keptSticks m_isLawn m_lawns m_wetness m_strength m_days m_balls m_asks m_books m_pageLength m_faultAt m_savedSize m_savedPlace m_savedSticks m_bestSize m_bestFirst m_seedNow m_isKept m_keptLawn m_keptBalls m_keptStrength m_keptDays m_h (upd m_depthOf (Int32.toNatClampNeg r_2) ((m_depthOf (Int32.toNatClampNeg r_2)) - r_31)) m_kindOf (upd (upd m_sizeOf (Int32.toNatClampNeg a1) ((m_sizeOf (Int32.toNatClampNeg a1)) + r_31)) (Int32.toNatClampNeg a1) 0) (upd (upd m_placeOf (Int32.toNatClampNeg a1) r_2) (Int32.toNatClampNeg a1) (-1)) m_onOf (upd m_sticksOf (Int32.toNatClampNeg a1) (a2 - a2 / 2 * 2)) m_page m_savedDepth m_gameSize m_gamePlace m_gameSticks m_gameDepth m_keptDepth m_keptSize m_keptPlace m_keptOn m_keptSticks)) K 4 0 rfl rfl (ok_in ho_1) rfl rfl dX8_doRoll_180 ?_
                exact s_vret K hret hlk rfl rfl dX8_doRoll_181
            · exact s_vret K hret hlk rfl rfl dX8_doRoll_181
          · refine s_iconst K dX8_doRoll_144 kic_m1 ?_
            refine s_iast (w' := (wM cI cC cB cQ kc mh q_depthOf q_kindOf q_sizeOf q_placeOf q_onOf q_sticksOf q_page q_savedDepth q_gameSize q_gamePlace q_gameSticks q_gameDepth q_keptDepth q_keptSize q_keptPlace q_keptOn q_keptSticks m_isLawn m_lawns m_wetness m_strength m_days m_balls m_asks m_books m_pageLength m_faultAt m_savedSize m_savedPlace m_savedSticks m_bestSize m_bestFirst m_seedNow m_isKept m_keptLawn m_keptBalls m_keptStrength m_keptDays m_h (upd m_depthOf (Int32.toNatClampNeg r_2) ((m_depthOf (Int32.toNatClampNeg r_2)) - r_31)) m_kindOf (upd m_sizeOf (Int32.toNatClampNeg a1) ((m_sizeOf (Int32.toNatClampNeg a1)) + r_31)) (upd m_placeOf (Int32.toNatClampNeg a1) r_2) m_onOf (upd m_sticksOf (Int32.toNatClampNeg a1) (-1)) m_page m_savedDepth m_gameSize m_gamePlace m_gameSticks m_gameDepth m_keptDepth m_keptSize m_keptPlace m_keptOn m_keptSticks)) K 6 0 rfl rfl (ok_in ho_1) rfl rfl dX8_doRoll_145 ?_
            refine s_aload_n K dX8_doRoll_146 rfl 4 rfl ?_
            refine s_get K 0 rfl rfl inT8 7 (Nat.le_of_ble_eq_true rfl) t_560 rfl rfl dX8_doRoll_147 ?_
            refine s_iload_n K dX8_doRoll_150 rfl 5 rfl ?_
            refine s_iald K 2 0 rfl rfl (ok_in ho_1) rfl dX8_doRoll_151 ?_
            refine s_iconst K dX8_doRoll_152 kic_2 ?_
            refine s_icmp_ne (tgt := 181) K dX8_doRoll_153 (by decide) (fun c_49 => ?_) (fun c_49 => ?_)
            · refine s_aload_n K dX8_doRoll_156 rfl 4 rfl ?_
              refine s_get K 0 rfl rfl inT8 8 (Nat.le_of_ble_eq_true rfl) t_561 rfl rfl dX8_doRoll_157 ?_
              refine s_iload_n K dX8_doRoll_160 rfl 5 rfl ?_
              refine s_iald K 3 0 rfl rfl (ok_in ho_1) rfl dX8_doRoll_161 ?_
              refine s_bipush K dX8_doRoll_162 kib_20 ?_
              refine s_icmp_le (tgt := 181) K dX8_doRoll_164 (by decide) (fun c_50 => ?_) (fun c_50 => ?_)
              · exact s_vret K hret hlk rfl rfl dX8_doRoll_181
              · refine s_aload_n K dX8_doRoll_167 rfl 4 rfl ?_
                refine s_get K 0 rfl rfl inT8 8 (Nat.le_of_ble_eq_true rfl) t_561 rfl rfl dX8_doRoll_168 ?_
                refine s_iload_n K dX8_doRoll_171 rfl 5 rfl ?_
                refine s_iconst K dX8_doRoll_172 kic_0 ?_
                refine s_iast (w' := (wM cI cC cB cQ kc mh q_depthOf q_kindOf q_sizeOf q_placeOf q_onOf q_sticksOf q_page q_savedDepth q_gameSize q_gamePlace q_gameSticks q_gameDepth q_keptDepth q_keptSize q_keptPlace q_keptOn q_keptSticks m_isLawn m_lawns m_wetness m_strength m_days m_balls m_asks m_books m_pageLength m_faultAt m_savedSize m_savedPlace m_savedSticks m_bestSize m_bestFirst m_seedNow m_isKept m_keptLawn m_keptBalls m_keptStrength m_keptDays m_h (upd m_depthOf (Int32.toNatClampNeg r_2) ((m_depthOf (Int32.toNatClampNeg r_2)) - r_31)) m_kindOf (upd (upd m_sizeOf (Int32.toNatClampNeg a1) ((m_sizeOf (Int32.toNatClampNeg a1)) + r_31)) (Int32.toNatClampNeg a1) 0) (upd m_placeOf (Int32.toNatClampNeg a1) r_2) m_onOf (upd m_sticksOf (Int32.toNatClampNeg a1) (-1)) m_page m_savedDepth m_gameSize m_gamePlace m_gameSticks m_gameDepth m_keptDepth m_keptSize m_keptPlace m_keptOn m_keptSticks)) K 3 0 rfl rfl (ok_in ho_1) rfl rfl dX8_doRoll_173 ?_
                refine s_aload_n K dX8_doRoll_174 rfl 4 rfl ?_
                refine s_get K 0 rfl rfl inT8 9 (Nat.le_of_ble_eq_true rfl) t_562 rfl rfl dX8_doRoll_175 ?_
                refine s_iload_n K dX8_doRoll_178 rfl 5 rfl ?_
                refine s_iconst K dX8_doRoll_179 kic_m1 ?_
                refine s_iast (w' := (wM cI cC cB cQ kc mh q_depthOf q_kindOf q_sizeOf q_placeOf q_onOf q_sticksOf q_page q_savedDepth q_gameSize q_gamePlace q_gameSticks q_gameDepth q_keptDepth q_keptSize q_keptPlace q_keptOn q_keptSticks m_isLawn m_lawns m_wetness m_strength m_days m_balls m_asks m_books m_pageLength m_faultAt m_savedSize m_savedPlace m_savedSticks m_bestSize m_bestFirst m_seedNow m_isKept m_keptLawn m_keptBalls m_keptStrength m_keptDays m_h (upd m_depthOf (Int32.toNatClampNeg r_2) ((m_depthOf (Int32.toNatClampNeg r_2)) - r_31)) m_kindOf (upd (upd m_sizeOf (Int32.toNatClampNeg a1) ((m_sizeOf (Int32.toNatClampNeg a1)) + r_31)) (Int32.toNatClampNeg a1) 0) (upd (upd m_placeOf (Int32.toNatClampNeg a1) r_2) (Int32.toNatClampNeg a1) (-1)) m_onOf (upd m_sticksOf (Int32.toNatClampNeg a1) (-1)) m_page m_savedDepth m_gameSize m_gamePlace m_gameSticks m_gameDepth m_keptDepth m_keptSize m_keptPlace m_keptOn m_keptSticks)) K 4 0 rfl rfl (ok_in ho_1) rfl rfl dX8_doRoll_180 ?_
                exact s_vret K hret hlk rfl rfl dX8_doRoll_181
            · exact s_vret K hret hlk rfl rfl dX8_doRoll_181
        · refine s_iconst K dX8_doRoll_69 kic_1 ?_
          refine s_goto (tgt := 74) K dX8_doRoll_70 (by decide) ?_
          refine s_istore (lv' := [(5, .int 1), (4, .int r_31), (3, .int r_2), (0, .ref mh), (1, .int a1), (2, .int a2)]) K dX8_doRoll_74 (Nat.le_of_ble_eq_true rfl) rfl ?_
          refine s_iload K dX8_doRoll_76 0 rfl ?_
          refine s_if_eqF K dX8_doRoll_78 90 (by decide) (by decide +kernel) ?_
          refine s_iload K dX8_doRoll_81 1 rfl ?_
          refine s_iconst K dX8_doRoll_83 kic_1 ?_
          refine s_iadd K dX8_doRoll_84 ?_
          refine s_iconst K dX8_doRoll_85 kic_2 ?_
          refine s_idiv K dX8_doRoll_86 knz_2 ?_
          refine s_goto (tgt := 92) K dX8_doRoll_87 (by decide) ?_
          refine s_istore (lv' := [(6, .int ((r_31 + 1) / 2)), (5, .int 1), (4, .int r_31), (3, .int r_2), (0, .ref mh), (1, .int a1), (2, .int a2)]) K dX8_doRoll_92 (Nat.le_of_ble_eq_true rfl) rfl ?_
          refine s_aload_n K dX8_doRoll_94 rfl 4 rfl ?_
          refine s_get K 0 rfl rfl inT8 2 (Nat.le_of_ble_eq_true rfl) t_555 rfl rfl dX8_doRoll_95 ?_
          refine s_iload_n K dX8_doRoll_98 rfl 3 rfl ?_
          refine s_dup2 K dX8_doRoll_99 rfl rfl ?_
          refine s_iald K 1 0 rfl rfl (ok_in ho_6) rfl dX8_doRoll_100 ?_
          refine s_iload K dX8_doRoll_101 0 rfl ?_
          refine s_isub K dX8_doRoll_103 ?_
          refine s_iast (w' := (wM cI cC cB cQ kc mh q_depthOf q_kindOf q_sizeOf q_placeOf q_onOf q_sticksOf q_page q_savedDepth q_gameSize q_gamePlace q_gameSticks q_gameDepth q_keptDepth q_keptSize q_keptPlace q_keptOn q_keptSticks m_isLawn m_lawns m_wetness m_strength m_days m_balls m_asks m_books m_pageLength m_faultAt m_savedSize m_savedPlace m_savedSticks m_bestSize m_bestFirst m_seedNow m_isKept m_keptLawn m_keptBalls m_keptStrength m_keptDays m_h (upd m_depthOf (Int32.toNatClampNeg r_2) ((m_depthOf (Int32.toNatClampNeg r_2)) - ((r_31 + 1) / 2))) m_kindOf m_sizeOf m_placeOf m_onOf m_sticksOf m_page m_savedDepth m_gameSize m_gamePlace m_gameSticks m_gameDepth m_keptDepth m_keptSize m_keptPlace m_keptOn m_keptSticks)) K 1 0 rfl rfl (ok_in ho_6) rfl rfl dX8_doRoll_104 ?_
          refine s_aload_n K dX8_doRoll_105 rfl 4 rfl ?_
          refine s_get K 0 rfl rfl inT8 8 (Nat.le_of_ble_eq_true rfl) t_561 rfl rfl dX8_doRoll_106 ?_
          refine s_iload_n K dX8_doRoll_109 rfl 5 rfl ?_
          refine s_dup2 K dX8_doRoll_110 rfl rfl ?_
          refine s_iald K 3 0 rfl rfl (ok_in ho_1) rfl dX8_doRoll_111 ?_
          refine s_iload K dX8_doRoll_112 0 rfl ?_
          refine s_iadd K dX8_doRoll_114 ?_
          refine s_iast (w' := (wM cI cC cB cQ kc mh q_depthOf q_kindOf q_sizeOf q_placeOf q_onOf q_sticksOf q_page q_savedDepth q_gameSize q_gamePlace q_gameSticks q_gameDepth q_keptDepth q_keptSize q_keptPlace q_keptOn q_keptSticks m_isLawn m_lawns m_wetness m_strength m_days m_balls m_asks m_books m_pageLength m_faultAt m_savedSize m_savedPlace m_savedSticks m_bestSize m_bestFirst m_seedNow m_isKept m_keptLawn m_keptBalls m_keptStrength m_keptDays m_h (upd m_depthOf (Int32.toNatClampNeg r_2) ((m_depthOf (Int32.toNatClampNeg r_2)) - ((r_31 + 1) / 2))) m_kindOf (upd m_sizeOf (Int32.toNatClampNeg a1) ((m_sizeOf (Int32.toNatClampNeg a1)) + ((r_31 + 1) / 2))) m_placeOf m_onOf m_sticksOf m_page m_savedDepth m_gameSize m_gamePlace m_gameSticks m_gameDepth m_keptDepth m_keptSize m_keptPlace m_keptOn m_keptSticks)) K 3 0 rfl rfl (ok_in ho_1) rfl rfl dX8_doRoll_115 ?_
          refine s_aload_n K dX8_doRoll_116 rfl 4 rfl ?_
          refine s_get K 0 rfl rfl inT8 9 (Nat.le_of_ble_eq_true rfl) t_562 rfl rfl dX8_doRoll_117 ?_
          refine s_iload_n K dX8_doRoll_120 rfl 5 rfl ?_
          refine s_iload_n K dX8_doRoll_121 rfl 3 rfl ?_
          refine s_iast (w' := (wM cI cC cB cQ kc mh q_depthOf q_kindOf q_sizeOf q_placeOf q_onOf q_sticksOf q_page q_savedDepth q_gameSize q_gamePlace q_gameSticks q_gameDepth q_keptDepth q_keptSize q_keptPlace q_keptOn q_keptSticks m_isLawn m_lawns m_wetness m_strength m_days m_balls m_asks m_books m_pageLength m_faultAt m_savedSize m_savedPlace m_savedSticks m_bestSize m_bestFirst m_seedNow m_isKept m_keptLawn m_keptBalls m_keptStrength m_keptDays m_h (upd m_depthOf (Int32.toNatClampNeg r_2) ((m_depthOf (Int32.toNatClampNeg r_2)) - ((r_31 + 1) / 2))) m_kindOf (upd m_sizeOf (Int32.toNatClampNeg a1) ((m_sizeOf (Int32.toNatClampNeg a1)) + ((r_31 + 1) / 2))) (upd m_placeOf (Int32.toNatClampNeg a1) r_2) m_onOf m_sticksOf m_page m_savedDepth m_gameSize m_gamePlace m_gameSticks m_gameDepth m_keptDepth m_keptSize m_keptPlace m_keptOn m_keptSticks)) K 4 0 rfl rfl (ok_in ho_1) rfl rfl dX8_doRoll_122 ?_
          refine s_aload_n K dX8_doRoll_123 rfl 4 rfl ?_
          refine s_get K 0 rfl rfl inT8 11 (Nat.le_of_ble_eq_true rfl) t_564 rfl rfl dX8_doRoll_124 ?_
          refine s_iload_n K dX8_doRoll_127 rfl 5 rfl ?_
          refine s_aload_n K dX8_doRoll_128 rfl 4 rfl ?_
          refine s_get K 0 rfl rfl inT8 7 (Nat.le_of_ble_eq_true rfl) t_560 rfl rfl dX8_doRoll_129 ?_
          refine s_iload_n K dX8_doRoll_132 rfl 5 rfl ?_
          refine s_iald K 2 0 rfl rfl (ok_in ho_1) rfl dX8_doRoll_133 ?_
          refine s_iconst K dX8_doRoll_134 kic_1 ?_
          refine s_icmp_ne (tgt := 144) K dX8_doRoll_135 (by decide) (fun c_51 => ?_) (fun c_51 => ?_)
          · refine s_iload_n K dX8_doRoll_138 rfl 6 rfl ?_
            refine s_iconst K dX8_doRoll_139 kic_2 ?_
            refine s_irem K dX8_doRoll_140 knz_2 ?_
            refine s_goto (tgt := 145) K dX8_doRoll_141 (by decide) ?_
            refine s_iast (w' := (wM cI cC cB cQ kc mh q_depthOf q_kindOf q_sizeOf q_placeOf q_onOf q_sticksOf q_page q_savedDepth q_gameSize q_gamePlace q_gameSticks q_gameDepth q_keptDepth q_keptSize q_keptPlace q_keptOn q_keptSticks m_isLawn m_lawns m_wetness m_strength m_days m_balls m_asks m_books m_pageLength m_faultAt m_savedSize m_savedPlace m_savedSticks m_bestSize m_bestFirst m_seedNow m_isKept m_keptLawn m_keptBalls m_keptStrength m_keptDays m_h (upd m_depthOf (Int32.toNatClampNeg r_2) ((m_depthOf (Int32.toNatClampNeg r_2)) - ((r_31 + 1) / 2))) m_kindOf (upd m_sizeOf (Int32.toNatClampNeg a1) ((m_sizeOf (Int32.toNatClampNeg a1)) + ((r_31 + 1) / 2))) (upd m_placeOf (Int32.toNatClampNeg a1) r_2) m_onOf (upd m_sticksOf (Int32.toNatClampNeg a1) (a2 - a2 / 2 * 2)) m_page m_savedDepth m_gameSize m_gamePlace m_gameSticks m_gameDepth m_keptDepth m_keptSize m_keptPlace m_keptOn m_keptSticks)) K 6 0 rfl rfl (ok_in ho_1) rfl rfl dX8_doRoll_145 ?_
            refine s_aload_n K dX8_doRoll_146 rfl 4 rfl ?_
            refine s_get K 0 rfl rfl inT8 7 (Nat.le_of_ble_eq_true rfl) t_560 rfl rfl dX8_doRoll_147 ?_
            refine s_iload_n K dX8_doRoll_150 rfl 5 rfl ?_
            refine s_iald K 2 0 rfl rfl (ok_in ho_1) rfl dX8_doRoll_151 ?_
            refine s_iconst K dX8_doRoll_152 kic_2 ?_
            refine s_icmp_ne (tgt := 181) K dX8_doRoll_153 (by decide) (fun c_52 => ?_) (fun c_52 => ?_)
            · refine s_aload_n K dX8_doRoll_156 rfl 4 rfl ?_
              refine s_get K 0 rfl rfl inT8 8 (Nat.le_of_ble_eq_true rfl) t_561 rfl rfl dX8_doRoll_157 ?_
              refine s_iload_n K dX8_doRoll_160 rfl 5 rfl ?_
              refine s_iald K 3 0 rfl rfl (ok_in ho_1) rfl dX8_doRoll_161 ?_
              refine s_bipush K dX8_doRoll_162 kib_20 ?_
              refine s_icmp_le (tgt := 181) K dX8_doRoll_164 (by decide) (fun c_53 => ?_) (fun c_53 => ?_)
              · exact s_vret K hret hlk rfl rfl dX8_doRoll_181
              · refine s_aload_n K dX8_doRoll_167 rfl 4 rfl ?_
                refine s_get K 0 rfl rfl inT8 8 (Nat.le_of_ble_eq_true rfl) t_561 rfl rfl dX8_doRoll_168 ?_
                refine s_iload_n K dX8_doRoll_171 rfl 5 rfl ?_
                refine s_iconst K dX8_doRoll_172 kic_0 ?_
                refine s_iast (w' := (wM cI cC cB cQ kc mh q_depthOf q_kindOf q_sizeOf q_placeOf q_onOf q_sticksOf q_page q_savedDepth q_gameSize q_gamePlace q_gameSticks q_gameDepth q_keptDepth q_keptSize q_keptPlace q_keptOn q_keptSticks m_isLawn m_lawns m_wetness m_strength m_days m_balls m_asks m_books m_pageLength m_faultAt m_savedSize m_savedPlace m_savedSticks m_bestSize m_bestFirst m_seedNow m_isKept m_keptLawn m_keptBalls m_keptStrength m_keptDays m_h (upd m_depthOf (Int32.toNatClampNeg r_2) ((m_depthOf (Int32.toNatClampNeg r_2)) - ((r_31 + 1) / 2))) m_kindOf (upd (upd m_sizeOf (Int32.toNatClampNeg a1) ((m_sizeOf (Int32.toNatClampNeg a1)) + ((r_31 + 1) / 2))) (Int32.toNatClampNeg a1) 0) (upd m_placeOf (Int32.toNatClampNeg a1) r_2) m_onOf (upd m_sticksOf (Int32.toNatClampNeg a1) (a2 - a2 / 2 * 2)) m_page m_savedDepth m_gameSize m_gamePlace m_gameSticks m_gameDepth m_keptDepth m_keptSize m_keptPlace m_keptOn m_keptSticks)) K 3 0 rfl rfl (ok_in ho_1) rfl rfl dX8_doRoll_173 ?_
                refine s_aload_n K dX8_doRoll_174 rfl 4 rfl ?_
                refine s_get K 0 rfl rfl inT8 9 (Nat.le_of_ble_eq_true rfl) t_562 rfl rfl dX8_doRoll_175 ?_
                refine s_iload_n K dX8_doRoll_178 rfl 5 rfl ?_
                refine s_iconst K dX8_doRoll_179 kic_m1 ?_
                refine s_iast (w' := (wM cI cC cB cQ kc mh q_depthOf q_kindOf q_sizeOf q_placeOf q_onOf q_sticksOf q_page q_savedDepth q_gameSize q_gamePlace q_gameSticks q_gameDepth q_keptDepth q_keptSize q_keptPlace q_keptOn q_keptSticks m_isLawn m_lawns m_wetness m_strength m_days m_balls m_asks m_books m_pageLength m_faultAt m_savedSize m_savedPlace m_savedSticks m_bestSize m_bestFirst m_seedNow m_isKept m_keptLawn m_keptBalls m_keptStrength m_keptDays m_h (upd m_depthOf (Int32.toNatClampNeg r_2) ((m_depthOf (Int32.toNatClampNeg r_2)) - ((r_31 + 1) / 2))) m_kindOf (upd (upd m_sizeOf (Int32.toNatClampNeg a1) ((m_sizeOf (Int32.toNatClampNeg a1)) + ((r_31 + 1) / 2))) (Int32.toNatClampNeg a1) 0) (upd (upd m_placeOf (Int32.toNatClampNeg a1) r_2) (Int32.toNatClampNeg a1) (-1)) m_onOf (upd m_sticksOf (Int32.toNatClampNeg a1) (a2 - a2 / 2 * 2)) m_page m_savedDepth m_gameSize m_gamePlace m_gameSticks m_gameDepth m_keptDepth m_keptSize m_keptPlace m_keptOn m_keptSticks)) K 4 0 rfl rfl (ok_in ho_1) rfl rfl dX8_doRoll_180 ?_
                exact s_vret K hret hlk rfl rfl dX8_doRoll_181
            · exact s_vret K hret hlk rfl rfl dX8_doRoll_181
          · refine s_iconst K dX8_doRoll_144 kic_m1 ?_
            refine s_iast (w' := (wM cI cC cB cQ kc mh q_depthOf q_kindOf q_sizeOf q_placeOf q_onOf q_sticksOf q_page q_savedDepth q_gameSize q_gamePlace q_gameSticks q_gameDepth q_keptDepth q_keptSize q_keptPlace q_keptOn q_keptSticks m_isLawn m_lawns m_wetness m_strength m_days m_balls m_asks m_books m_pageLength m_faultAt m_savedSize m_savedPlace m_savedSticks m_bestSize m_bestFirst m_seedNow m_isKept m_keptLawn m_keptBalls m_keptStrength m_keptDays m_h (upd m_depthOf (Int32.toNatClampNeg r_2) ((m_depthOf (Int32.toNatClampNeg r_2)) - ((r_31 + 1) / 2))) m_kindOf (upd m_sizeOf (Int32.toNatClampNeg a1) ((m_sizeOf (Int32.toNatClampNeg a1)) + ((r_31 + 1) / 2))) (upd m_placeOf (Int32.toNatClampNeg a1) r_2) m_onOf (upd m_sticksOf (Int32.toNatClampNeg a1) (-1)) m_page m_savedDepth m_gameSize m_gamePlace m_gameSticks m_gameDepth m_keptDepth m_keptSize m_keptPlace m_keptOn m_keptSticks)) K 6 0 rfl rfl (ok_in ho_1) rfl rfl dX8_doRoll_145 ?_
            refine s_aload_n K dX8_doRoll_146 rfl 4 rfl ?_
            refine s_get K 0 rfl rfl inT8 7 (Nat.le_of_ble_eq_true rfl) t_560 rfl rfl dX8_doRoll_147 ?_
            refine s_iload_n K dX8_doRoll_150 rfl 5 rfl ?_
            refine s_iald K 2 0 rfl rfl (ok_in ho_1) rfl dX8_doRoll_151 ?_
            refine s_iconst K dX8_doRoll_152 kic_2 ?_
            refine s_icmp_ne (tgt := 181) K dX8_doRoll_153 (by decide) (fun c_54 => ?_) (fun c_54 => ?_)
            · refine s_aload_n K dX8_doRoll_156 rfl 4 rfl ?_
              refine s_get K 0 rfl rfl inT8 8 (Nat.le_of_ble_eq_true rfl) t_561 rfl rfl dX8_doRoll_157 ?_
              refine s_iload_n K dX8_doRoll_160 rfl 5 rfl ?_
              refine s_iald K 3 0 rfl rfl (ok_in ho_1) rfl dX8_doRoll_161 ?_
              refine s_bipush K dX8_doRoll_162 kib_20 ?_
              refine s_icmp_le (tgt := 181) K dX8_doRoll_164 (by decide) (fun c_55 => ?_) (fun c_55 => ?_)
              · exact s_vret K hret hlk rfl rfl dX8_doRoll_181
              · refine s_aload_n K dX8_doRoll_167 rfl 4 rfl ?_
                refine s_get K 0 rfl rfl inT8 8 (Nat.le_of_ble_eq_true rfl) t_561 rfl rfl dX8_doRoll_168 ?_
                refine s_iload_n K dX8_doRoll_171 rfl 5 rfl ?_
                refine s_iconst K dX8_doRoll_172 kic_0 ?_
                refine s_iast (w' := (wM cI cC cB cQ kc mh q_depthOf q_kindOf q_sizeOf q_placeOf q_onOf q_sticksOf q_page q_savedDepth q_gameSize q_gamePlace q_gameSticks q_gameDepth q_keptDepth q_keptSize q_keptPlace q_keptOn q_keptSticks m_isLawn m_lawns m_wetness m_strength m_days m_balls m_asks m_books m_pageLength m_faultAt m_savedSize m_savedPlace m_savedSticks m_bestSize m_bestFirst m_seedNow m_isKept m_keptLawn m_keptBalls m_keptStrength m_keptDays m_h (upd m_depthOf (Int32.toNatClampNeg r_2) ((m_depthOf (Int32.toNatClampNeg r_2)) - ((r_31 + 1) / 2))) m_kindOf (upd (upd m_sizeOf (Int32.toNatClampNeg a1) ((m_sizeOf (Int32.toNatClampNeg a1)) + ((r_31 + 1) / 2))) (Int32.toNatClampNeg a1) 0) (upd m_placeOf (Int32.toNatClampNeg a1) r_2) m_onOf (upd m_sticksOf (Int32.toNatClampNeg a1) (-1)) m_page m_savedDepth m_gameSize m_gamePlace m_gameSticks m_gameDepth m_keptDepth m_keptSize m_keptPlace m_keptOn m_keptSticks)) K 3 0 rfl rfl (ok_in ho_1) rfl rfl dX8_doRoll_173 ?_
                refine s_aload_n K dX8_doRoll_174 rfl 4 rfl ?_
                refine s_get K 0 rfl rfl inT8 9 (Nat.le_of_ble_eq_true rfl) t_562 rfl rfl dX8_doRoll_175 ?_
                refine s_iload_n K dX8_doRoll_178 rfl 5 rfl ?_
                refine s_iconst K dX8_doRoll_179 kic_m1 ?_
                refine s_iast (w' := (wM cI cC cB cQ kc mh q_depthOf q_kindOf q_sizeOf q_placeOf q_onOf q_sticksOf q_page q_savedDepth q_gameSize q_gamePlace q_gameSticks q_gameDepth q_keptDepth q_keptSize q_keptPlace q_keptOn q_keptSticks m_isLawn m_lawns m_wetness m_strength m_days m_balls m_asks m_books m_pageLength m_faultAt m_savedSize m_savedPlace m_savedSticks m_bestSize m_bestFirst m_seedNow m_isKept m_keptLawn m_keptBalls m_keptStrength m_keptDays m_h (upd m_depthOf (Int32.toNatClampNeg r_2) ((m_depthOf (Int32.toNatClampNeg r_2)) - ((r_31 + 1) / 2))) m_kindOf (upd (upd m_sizeOf (Int32.toNatClampNeg a1) ((m_sizeOf (Int32.toNatClampNeg a1)) + ((r_31 + 1) / 2))) (Int32.toNatClampNeg a1) 0) (upd (upd m_placeOf (Int32.toNatClampNeg a1) r_2) (Int32.toNatClampNeg a1) (-1)) m_onOf (upd m_sticksOf (Int32.toNatClampNeg a1) (-1)) m_page m_savedDepth m_gameSize m_gamePlace m_gameSticks m_gameDepth m_keptDepth m_keptSize m_keptPlace m_keptOn m_keptSticks)) K 4 0 rfl rfl (ok_in ho_1) rfl rfl dX8_doRoll_180 ?_
                exact s_vret K hret hlk rfl rfl dX8_doRoll_181
            · exact s_vret K hret hlk rfl rfl dX8_doRoll_181
set_option maxHeartbeats 4000000 in
set_option maxRecDepth 100000 in
theorem c_X8_may {l : Launch} {D : va_G} {cI cC cB cQ : ClassId} {kc : Nat → Nat} {kt : Nat} (mh q_depthOf q_kindOf q_sizeOf q_placeOf q_onOf q_sticksOf q_page q_savedDepth q_gameSize q_gamePlace q_gameSticks q_gameDepth q_keptDepth q_keptSize q_keptPlace q_keptOn q_keptSticks : Nat) (m_isLawn m_lawns m_wetness m_strength m_days m_balls m_asks m_books m_pageLength m_faultAt m_savedSize m_savedPlace m_savedSticks m_bestSize m_bestFirst : Int32) (m_seedNow : Int64) (m_isKept m_keptLawn m_keptBalls m_keptStrength m_keptDays : Int32) (m_h : Int64) (m_depthOf m_kindOf m_sizeOf m_placeOf m_onOf m_sticksOf m_page m_savedDepth m_gameSize m_gamePlace m_gameSticks m_gameDepth m_keptDepth m_keptSize m_keptPlace m_keptOn m_keptSticks : Nat → Int32) (a1 a2 : Int32) {r : Int32} (hF : f_X8_may m_strength m_balls m_kindOf m_sizeOf m_placeOf m_onOf m_sticksOf a1 a2 = some r) : CT l D (tysOf cI cC cB cQ) kc kt yX8_may cX8_may 3 (some .int) ({ frames := 4, cells := 0, slots := 0, locals := 228 } : Room) [.ref mh, .int a1, .int a2] (wM cI cC cB cQ kc mh q_depthOf q_kindOf q_sizeOf q_placeOf q_onOf q_sticksOf q_page q_savedDepth q_gameSize q_gamePlace q_gameSticks q_gameDepth q_keptDepth q_keptSize q_keptPlace q_keptOn q_keptSticks m_isLawn m_lawns m_wetness m_strength m_days m_balls m_asks m_books m_pageLength m_faultAt m_savedSize m_savedPlace m_savedSticks m_bestSize m_bestFirst m_seedNow m_isKept m_keptLawn m_keptBalls m_keptStrength m_keptDays m_h m_depthOf m_kindOf m_sizeOf m_placeOf m_onOf m_sticksOf m_page m_savedDepth m_gameSize m_gamePlace m_gameSticks m_gameDepth m_keptDepth m_keptSize m_keptPlace m_keptOn m_keptSticks) ((fun (r : Int32) => (wM cI cC cB cQ kc mh q_depthOf q_kindOf q_sizeOf q_placeOf q_onOf q_sticksOf q_page q_savedDepth q_gameSize q_gamePlace q_gameSticks q_gameDepth q_keptDepth q_keptSize q_keptPlace q_keptOn q_keptSticks m_isLawn m_lawns m_wetness m_strength m_days m_balls m_asks m_books m_pageLength m_faultAt m_savedSize m_savedPlace m_savedSticks m_bestSize m_bestFirst m_seedNow m_isKept m_keptLawn m_keptBalls m_keptStrength m_keptDays m_h m_depthOf m_kindOf m_sizeOf m_placeOf m_onOf m_sticksOf m_page m_savedDepth m_gameSize m_gamePlace m_gameSticks m_gameDepth m_keptDepth m_keptSize m_keptPlace m_keptOn m_keptSticks)) r) ((fun (r : Int32) => some (.int r)) r) := by
  refine CT.of (ww := (fun (r : Int32) => (wM cI cC cB cQ kc mh q_depthOf q_kindOf q_sizeOf q_placeOf q_onOf q_sticksOf q_page q_savedDepth q_gameSize q_gamePlace q_gameSticks q_gameDepth q_keptDepth q_keptSize q_keptPlace q_keptOn q_keptSticks m_isLawn m_lawns m_wetness m_strength m_days m_balls m_asks m_books m_pageLength m_faultAt m_savedSize m_savedPlace m_savedSticks m_bestSize m_bestFirst m_seedNow m_isKept m_keptLawn m_keptBalls m_keptStrength m_keptDays m_h m_depthOf m_kindOf m_sizeOf m_placeOf m_onOf m_sticksOf m_page m_savedDepth m_gameSize m_gamePlace m_gameSticks m_gameDepth m_keptDepth m_keptSize m_keptPlace m_keptOn m_keptSticks))) (oo := (fun (r : Int32) => some (.int r))) hF RX8 rfl rfl (Nat.le_of_ble_eq_true rfl) ?_
  intro p e s m args below meth c A K hret hlk
  rewrite [f_X8_may]
  refine s_aload_n K dX8_may_0 rfl 0 rfl ?_
  refine s_iload_n K dX8_may_1 rfl 1 rfl ?_
  refine s_bind (fun q hq_2 => ?_)
  obtain ⟨r_1, rfl⟩ : ∃ z, z = q := ⟨_, rfl⟩
  refine s_callV (w' := (wM cI cC cB cQ kc mh q_depthOf q_kindOf q_sizeOf q_placeOf q_onOf q_sticksOf q_page q_savedDepth q_gameSize q_gamePlace q_gameSticks q_gameDepth q_keptDepth q_keptSize q_keptPlace q_keptOn q_keptSticks m_isLawn m_lawns m_wetness m_strength m_days m_balls m_asks m_books m_pageLength m_faultAt m_savedSize m_savedPlace m_savedSticks m_bestSize m_bestFirst m_seedNow m_isKept m_keptLawn m_keptBalls m_keptStrength m_keptDays m_h m_depthOf m_kindOf m_sizeOf m_placeOf m_onOf m_sticksOf m_page m_savedDepth m_gameSize m_gamePlace m_gameSticks m_gameDepth m_keptDepth m_keptSize m_keptPlace m_keptOn m_keptSticks)) (rest := []) (st1 := [.int r_1]) K (c_X8_isBall mh q_depthOf q_kindOf q_sizeOf q_placeOf q_onOf q_sticksOf q_page q_savedDepth q_gameSize q_gamePlace q_gameSticks q_gameDepth q_keptDepth q_keptSize q_keptPlace q_keptOn q_keptSticks m_isLawn m_lawns m_wetness m_strength m_days m_balls m_asks m_books m_pageLength m_faultAt m_savedSize m_savedPlace m_savedSticks m_bestSize m_bestFirst m_seedNow m_isKept m_keptLawn m_keptBalls m_keptStrength m_keptDays m_h m_depthOf m_kindOf m_sizeOf m_placeOf m_onOf m_sticksOf m_page m_savedDepth m_gameSize m_gamePlace m_gameSticks m_gameDepth m_keptDepth m_keptSize m_keptPlace m_keptOn m_keptSticks a1 hq_2) rfl hd_X8_isBall t_733 t_735 ts_13 t_10 t_736 ⟨(Nat.le_of_ble_eq_true rfl), (Nat.le_of_ble_eq_true rfl)⟩ ⟨rfl, rfl⟩ ⟨Nat.zero_le _, Nat.zero_le _⟩ (rv_o K 0 rfl rfl) [0, 1, 2, 3, 4, 5, 6, 7, 8, 9, 10, 11, 12, 13, 14, 15, 16, 17] [] [0, 1, 2, 3, 4, 5, 6, 7, 8, 9, 10, 11, 12, 13, 14, 15, 16, 17] rfl rfl rfl rfl (by decide) rfl rfl rfl rfl (Nat.le_of_ble_eq_true rfl) dX8_may_2 ?_
  refine s_if_ne (tgt := 11) K dX8_may_5 (by decide) (fun c_3 => ?_) (fun c_3 => ?_)
  · refine s_bipush K dX8_may_8 kib_m101 ?_
    exact s_iret K hret hlk rfl rfl dX8_may_10
  · refine s_iload_n K dX8_may_11 rfl 2 rfl ?_
    refine s_iconst K dX8_may_12 kic_0 ?_
    refine s_iconst K dX8_may_13 kic_3 ?_
    refine s_bind (fun q hq_5 => ?_)
    obtain ⟨r_4, rfl⟩ : ∃ z, z = q := ⟨_, rfl⟩
    refine s_callS0 (rest := []) (st1 := [.int r_4]) K (c_X8_within a2 0 3 hq_5) hd_X8_within t_676 t_677 t_10 t_678 ⟨(Nat.le_of_ble_eq_true rfl), (Nat.le_of_ble_eq_true rfl)⟩ ⟨rfl, rfl⟩ ⟨Nat.zero_le _, Nat.zero_le _⟩ rfl rfl (Nat.le_of_ble_eq_true rfl) dX8_may_14 ?_
    refine s_if_ne (tgt := 25) K dX8_may_17 (by decide) (fun c_6 => ?_) (fun c_6 => ?_)
    · refine s_bipush K dX8_may_20 kib_m102 ?_
      refine s_goto (tgt := 39) K dX8_may_22 (by decide) ?_
      exact s_iret K hret hlk rfl rfl dX8_may_39
    · refine s_aload_n K dX8_may_25 rfl 0 rfl ?_
      refine s_iload_n K dX8_may_26 rfl 1 rfl ?_
      refine s_iload_n K dX8_may_27 rfl 2 rfl ?_
      refine s_bind (fun q hq_8 => ?_)
      obtain ⟨r_7, rfl⟩ : ∃ z, z = q := ⟨_, rfl⟩
      refine s_callV (w' := (wM cI cC cB cQ kc mh q_depthOf q_kindOf q_sizeOf q_placeOf q_onOf q_sticksOf q_page q_savedDepth q_gameSize q_gamePlace q_gameSticks q_gameDepth q_keptDepth q_keptSize q_keptPlace q_keptOn q_keptSticks m_isLawn m_lawns m_wetness m_strength m_days m_balls m_asks m_books m_pageLength m_faultAt m_savedSize m_savedPlace m_savedSticks m_bestSize m_bestFirst m_seedNow m_isKept m_keptLawn m_keptBalls m_keptStrength m_keptDays m_h m_depthOf m_kindOf m_sizeOf m_placeOf m_onOf m_sticksOf m_page m_savedDepth m_gameSize m_gamePlace m_gameSticks m_gameDepth m_keptDepth m_keptSize m_keptPlace m_keptOn m_keptSticks)) (rest := []) (st1 := [.int r_7]) K (c_X8_mayRoll mh q_depthOf q_kindOf q_sizeOf q_placeOf q_onOf q_sticksOf q_page q_savedDepth q_gameSize q_gamePlace q_gameSticks q_gameDepth q_keptDepth q_keptSize q_keptPlace q_keptOn q_keptSticks m_isLawn m_lawns m_wetness m_strength m_days m_balls m_asks m_books m_pageLength m_faultAt m_savedSize m_savedPlace m_savedSticks m_bestSize m_bestFirst m_seedNow m_isKept m_keptLawn m_keptBalls m_keptStrength m_keptDays m_h m_depthOf m_kindOf m_sizeOf m_placeOf m_onOf m_sticksOf m_page m_savedDepth m_gameSize m_gamePlace m_gameSticks m_gameDepth m_keptDepth m_keptSize m_keptPlace m_keptOn m_keptSticks a1 a2 hq_8) rfl hd_X8_mayRoll t_757 t_759 ts_17 t_10 t_760 ⟨(Nat.le_of_ble_eq_true rfl), (Nat.le_of_ble_eq_true rfl)⟩ ⟨rfl, rfl⟩ ⟨Nat.zero_le _, Nat.zero_le _⟩ (rv_o K 0 rfl rfl) [0, 1, 2, 3, 4, 5, 6, 7, 8, 9, 10, 11, 12, 13, 14, 15, 16, 17] [] [0, 1, 2, 3, 4, 5, 6, 7, 8, 9, 10, 11, 12, 13, 14, 15, 16, 17] rfl rfl rfl rfl (by decide) rfl rfl rfl rfl (Nat.le_of_ble_eq_true rfl) dX8_may_28 ?_
      refine s_if_eq (tgt := 38) K dX8_may_31 (by decide) (fun c_9 => ?_) (fun c_9 => ?_)
      · refine s_iconst K dX8_may_38 kic_0 ?_
        exact s_iret K hret hlk rfl rfl dX8_may_39
      · refine s_iconst K dX8_may_34 kic_1 ?_
        refine s_goto (tgt := 39) K dX8_may_35 (by decide) ?_
        exact s_iret K hret hlk rfl rfl dX8_may_39
set_option maxHeartbeats 4000000 in
set_option maxRecDepth 100000 in
theorem c_X8_roll {l : Launch} {D : va_G} {cI cC cB cQ : ClassId} {kc : Nat → Nat} {kt : Nat} (mh q_depthOf q_kindOf q_sizeOf q_placeOf q_onOf q_sticksOf q_page q_savedDepth q_gameSize q_gamePlace q_gameSticks q_gameDepth q_keptDepth q_keptSize q_keptPlace q_keptOn q_keptSticks : Nat) (m_isLawn m_lawns m_wetness m_strength m_days m_balls m_asks m_books m_pageLength m_faultAt m_savedSize m_savedPlace m_savedSticks m_bestSize m_bestFirst : Int32) (m_seedNow : Int64) (m_isKept m_keptLawn m_keptBalls m_keptStrength m_keptDays : Int32) (m_h : Int64) (m_depthOf m_kindOf m_sizeOf m_placeOf m_onOf m_sticksOf m_page m_savedDepth m_gameSize m_gamePlace m_gameSticks m_gameDepth m_keptDepth m_keptSize m_keptPlace m_keptOn m_keptSticks : Nat → Int32) (a1 a2 : Int32) {r : Int32 × (Nat → Int32) × (Nat → Int32) × (Nat → Int32) × (Nat → Int32)} (hF : f_X8_roll m_wetness m_strength m_balls m_depthOf m_kindOf m_sizeOf m_placeOf m_onOf m_sticksOf a1 a2 = some r) : CT l D (tysOf cI cC cB cQ) kc kt yX8_roll cX8_roll 3 (some .int) ({ frames := 4, cells := 0, slots := 0, locals := 228 } : Room) [.ref mh, .int a1, .int a2] (wM cI cC cB cQ kc mh q_depthOf q_kindOf q_sizeOf q_placeOf q_onOf q_sticksOf q_page q_savedDepth q_gameSize q_gamePlace q_gameSticks q_gameDepth q_keptDepth q_keptSize q_keptPlace q_keptOn q_keptSticks m_isLawn m_lawns m_wetness m_strength m_days m_balls m_asks m_books m_pageLength m_faultAt m_savedSize m_savedPlace m_savedSticks m_bestSize m_bestFirst m_seedNow m_isKept m_keptLawn m_keptBalls m_keptStrength m_keptDays m_h m_depthOf m_kindOf m_sizeOf m_placeOf m_onOf m_sticksOf m_page m_savedDepth m_gameSize m_gamePlace m_gameSticks m_gameDepth m_keptDepth m_keptSize m_keptPlace m_keptOn m_keptSticks) ((fun (r : Int32 × (Nat → Int32) × (Nat → Int32) × (Nat → Int32) × (Nat → Int32)) => (wM cI cC cB cQ kc mh q_depthOf q_kindOf q_sizeOf q_placeOf q_onOf q_sticksOf q_page q_savedDepth q_gameSize q_gamePlace q_gameSticks q_gameDepth q_keptDepth q_keptSize q_keptPlace q_keptOn q_keptSticks m_isLawn m_lawns m_wetness m_strength m_days m_balls m_asks m_books m_pageLength m_faultAt m_savedSize m_savedPlace m_savedSticks m_bestSize m_bestFirst m_seedNow m_isKept m_keptLawn m_keptBalls m_keptStrength m_keptDays m_h (r.2.1) m_kindOf (r.2.2.1) (r.2.2.2.1) m_onOf (r.2.2.2.2) m_page m_savedDepth m_gameSize m_gamePlace m_gameSticks m_gameDepth m_keptDepth m_keptSize m_keptPlace m_keptOn m_keptSticks)) r) ((fun (r : Int32 × (Nat → Int32) × (Nat → Int32) × (Nat → Int32) × (Nat → Int32)) => some (.int (r.1))) r) := by
  refine CT.of (ww := (fun (r : Int32 × (Nat → Int32) × (Nat → Int32) × (Nat → Int32) × (Nat → Int32)) => (wM cI cC cB cQ kc mh q_depthOf q_kindOf q_sizeOf q_placeOf q_onOf q_sticksOf q_page q_savedDepth q_gameSize q_gamePlace q_gameSticks q_gameDepth q_keptDepth q_keptSize q_keptPlace q_keptOn q_keptSticks m_isLawn m_lawns m_wetness m_strength m_days m_balls m_asks m_books m_pageLength m_faultAt m_savedSize m_savedPlace m_savedSticks m_bestSize m_bestFirst m_seedNow m_isKept m_keptLawn m_keptBalls m_keptStrength m_keptDays m_h (r.2.1) m_kindOf (r.2.2.1) (r.2.2.2.1) m_onOf (r.2.2.2.2) m_page m_savedDepth m_gameSize m_gamePlace m_gameSticks m_gameDepth m_keptDepth m_keptSize m_keptPlace m_keptOn m_keptSticks))) (oo := (fun (r : Int32 × (Nat → Int32) × (Nat → Int32) × (Nat → Int32) × (Nat → Int32)) => some (.int (r.1)))) hF RX8 rfl rfl (Nat.le_of_ble_eq_true rfl) ?_
  intro p e s m args below meth c A K hret hlk
  rewrite [f_X8_roll]
  refine s_aload_n K dX8_roll_0 rfl 0 rfl ?_
  refine s_iload_n K dX8_roll_1 rfl 1 rfl ?_
  refine s_bind (fun q hq_2 => ?_)
  obtain ⟨r_1, rfl⟩ : ∃ z, z = q := ⟨_, rfl⟩
  refine s_callV (w' := (wM cI cC cB cQ kc mh q_depthOf q_kindOf q_sizeOf q_placeOf q_onOf q_sticksOf q_page q_savedDepth q_gameSize q_gamePlace q_gameSticks q_gameDepth q_keptDepth q_keptSize q_keptPlace q_keptOn q_keptSticks m_isLawn m_lawns m_wetness m_strength m_days m_balls m_asks m_books m_pageLength m_faultAt m_savedSize m_savedPlace m_savedSticks m_bestSize m_bestFirst m_seedNow m_isKept m_keptLawn m_keptBalls m_keptStrength m_keptDays m_h m_depthOf m_kindOf m_sizeOf m_placeOf m_onOf m_sticksOf m_page m_savedDepth m_gameSize m_gamePlace m_gameSticks m_gameDepth m_keptDepth m_keptSize m_keptPlace m_keptOn m_keptSticks)) (rest := []) (st1 := [.int r_1]) K (c_X8_isBall mh q_depthOf q_kindOf q_sizeOf q_placeOf q_onOf q_sticksOf q_page q_savedDepth q_gameSize q_gamePlace q_gameSticks q_gameDepth q_keptDepth q_keptSize q_keptPlace q_keptOn q_keptSticks m_isLawn m_lawns m_wetness m_strength m_days m_balls m_asks m_books m_pageLength m_faultAt m_savedSize m_savedPlace m_savedSticks m_bestSize m_bestFirst m_seedNow m_isKept m_keptLawn m_keptBalls m_keptStrength m_keptDays m_h m_depthOf m_kindOf m_sizeOf m_placeOf m_onOf m_sticksOf m_page m_savedDepth m_gameSize m_gamePlace m_gameSticks m_gameDepth m_keptDepth m_keptSize m_keptPlace m_keptOn m_keptSticks a1 hq_2) rfl hd_X8_isBall t_733 t_735 ts_13 t_10 t_736 ⟨(Nat.le_of_ble_eq_true rfl), (Nat.le_of_ble_eq_true rfl)⟩ ⟨rfl, rfl⟩ ⟨Nat.zero_le _, Nat.zero_le _⟩ (rv_o K 0 rfl rfl) [0, 1, 2, 3, 4, 5, 6, 7, 8, 9, 10, 11, 12, 13, 14, 15, 16, 17] [] [0, 1, 2, 3, 4, 5, 6, 7, 8, 9, 10, 11, 12, 13, 14, 15, 16, 17] rfl rfl rfl rfl (by decide) rfl rfl rfl rfl (Nat.le_of_ble_eq_true rfl) dX8_roll_2 ?_
  refine s_if_ne (tgt := 11) K dX8_roll_5 (by decide) (fun c_3 => ?_) (fun c_3 => ?_)
  · refine s_bipush K dX8_roll_8 kib_m101 ?_
    exact s_iret K hret hlk rfl rfl dX8_roll_10
  · refine s_iload_n K dX8_roll_11 rfl 2 rfl ?_
    refine s_iconst K dX8_roll_12 kic_0 ?_
    refine s_iconst K dX8_roll_13 kic_3 ?_
    refine s_bind (fun q hq_5 => ?_)
    obtain ⟨r_4, rfl⟩ : ∃ z, z = q := ⟨_, rfl⟩
    refine s_callS0 (rest := []) (st1 := [.int r_4]) K (c_X8_within a2 0 3 hq_5) hd_X8_within t_676 t_677 t_10 t_678 ⟨(Nat.le_of_ble_eq_true rfl), (Nat.le_of_ble_eq_true rfl)⟩ ⟨rfl, rfl⟩ ⟨Nat.zero_le _, Nat.zero_le _⟩ rfl rfl (Nat.le_of_ble_eq_true rfl) dX8_roll_14 ?_
    refine s_if_ne (tgt := 23) K dX8_roll_17 (by decide) (fun c_6 => ?_) (fun c_6 => ?_)
    · refine s_bipush K dX8_roll_20 kib_m102 ?_
      exact s_iret K hret hlk rfl rfl dX8_roll_22
    · refine s_aload_n K dX8_roll_23 rfl 0 rfl ?_
      refine s_iload_n K dX8_roll_24 rfl 1 rfl ?_
      refine s_iload_n K dX8_roll_25 rfl 2 rfl ?_
      refine s_bind (fun q hq_8 => ?_)
      obtain ⟨r_7, rfl⟩ : ∃ z, z = q := ⟨_, rfl⟩
      refine s_callV (w' := (wM cI cC cB cQ kc mh q_depthOf q_kindOf q_sizeOf q_placeOf q_onOf q_sticksOf q_page q_savedDepth q_gameSize q_gamePlace q_gameSticks q_gameDepth q_keptDepth q_keptSize q_keptPlace q_keptOn q_keptSticks m_isLawn m_lawns m_wetness m_strength m_days m_balls m_asks m_books m_pageLength m_faultAt m_savedSize m_savedPlace m_savedSticks m_bestSize m_bestFirst m_seedNow m_isKept m_keptLawn m_keptBalls m_keptStrength m_keptDays m_h m_depthOf m_kindOf m_sizeOf m_placeOf m_onOf m_sticksOf m_page m_savedDepth m_gameSize m_gamePlace m_gameSticks m_gameDepth m_keptDepth m_keptSize m_keptPlace m_keptOn m_keptSticks)) (rest := []) (st1 := [.int r_7]) K (c_X8_mayRoll mh q_depthOf q_kindOf q_sizeOf q_placeOf q_onOf q_sticksOf q_page q_savedDepth q_gameSize q_gamePlace q_gameSticks q_gameDepth q_keptDepth q_keptSize q_keptPlace q_keptOn q_keptSticks m_isLawn m_lawns m_wetness m_strength m_days m_balls m_asks m_books m_pageLength m_faultAt m_savedSize m_savedPlace m_savedSticks m_bestSize m_bestFirst m_seedNow m_isKept m_keptLawn m_keptBalls m_keptStrength m_keptDays m_h m_depthOf m_kindOf m_sizeOf m_placeOf m_onOf m_sticksOf m_page m_savedDepth m_gameSize m_gamePlace m_gameSticks m_gameDepth m_keptDepth m_keptSize m_keptPlace m_keptOn m_keptSticks a1 a2 hq_8) rfl hd_X8_mayRoll t_757 t_759 ts_17 t_10 t_760 ⟨(Nat.le_of_ble_eq_true rfl), (Nat.le_of_ble_eq_true rfl)⟩ ⟨rfl, rfl⟩ ⟨Nat.zero_le _, Nat.zero_le _⟩ (rv_o K 0 rfl rfl) [0, 1, 2, 3, 4, 5, 6, 7, 8, 9, 10, 11, 12, 13, 14, 15, 16, 17] [] [0, 1, 2, 3, 4, 5, 6, 7, 8, 9, 10, 11, 12, 13, 14, 15, 16, 17] rfl rfl rfl rfl (by decide) rfl rfl rfl rfl (Nat.le_of_ble_eq_true rfl) dX8_roll_26 ?_
      refine s_if_ne (tgt := 35) K dX8_roll_29 (by decide) (fun c_9 => ?_) (fun c_9 => ?_)
      · refine s_bipush K dX8_roll_32 kib_m103 ?_
        exact s_iret K hret hlk rfl rfl dX8_roll_34
      · refine s_aload_n K dX8_roll_35 rfl 0 rfl ?_
        refine s_iload_n K dX8_roll_36 rfl 1 rfl ?_
        refine s_iload_n K dX8_roll_37 rfl 2 rfl ?_
        refine s_bind (fun q hq_14 => ?_)
        obtain ⟨m_depthOf_10, m_sizeOf_11, m_placeOf_12, m_sticksOf_13⟩ := q
        refine s_callV (w' := (wM cI cC cB cQ kc mh q_depthOf q_kindOf q_sizeOf q_placeOf q_onOf q_sticksOf q_page q_savedDepth q_gameSize q_gamePlace q_gameSticks q_gameDepth q_keptDepth q_keptSize q_keptPlace q_keptOn q_keptSticks m_isLawn m_lawns m_wetness m_strength m_days m_balls m_asks m_books m_pageLength m_faultAt m_savedSize m_savedPlace m_savedSticks m_bestSize m_bestFirst m_seedNow m_isKept m_keptLawn m_keptBalls m_keptStrength m_keptDays m_h m_depthOf_10 m_kindOf m_sizeOf_11 m_placeOf_12 m_onOf m_sticksOf_13 m_page m_savedDepth m_gameSize m_gamePlace m_gameSticks m_gameDepth m_keptDepth m_keptSize m_keptPlace m_keptOn m_keptSticks)) (rest := []) (st1 := []) K (c_X8_doRoll mh q_depthOf q_kindOf q_sizeOf q_placeOf q_onOf q_sticksOf q_page q_savedDepth q_gameSize q_gamePlace q_gameSticks q_gameDepth q_keptDepth q_keptSize q_keptPlace q_keptOn q_keptSticks m_isLawn m_lawns m_wetness m_strength m_days m_balls m_asks m_books m_pageLength m_faultAt m_savedSize m_savedPlace m_savedSticks m_bestSize m_bestFirst m_seedNow m_isKept m_keptLawn m_keptBalls m_keptStrength m_keptDays m_h m_depthOf m_kindOf m_sizeOf m_placeOf m_onOf m_sticksOf m_page m_savedDepth m_gameSize m_gamePlace m_gameSticks m_gameDepth m_keptDepth m_keptSize m_keptPlace m_keptOn m_keptSticks a1 a2 hq_14) rfl hd_X8_doRoll t_776 t_778 ts_20 t_10 t_779 ⟨(Nat.le_of_ble_eq_true rfl), (Nat.le_of_ble_eq_true rfl)⟩ ⟨rfl, rfl⟩ ⟨Nat.zero_le _, Nat.zero_le _⟩ (rv_o K 0 rfl rfl) [0, 1, 2, 3, 4, 5, 6, 7, 8, 9, 10, 11, 12, 13, 14, 15, 16, 17] [] [0, 1, 2, 3, 4, 5, 6, 7, 8, 9, 10, 11, 12, 13, 14, 15, 16, 17] rfl rfl rfl rfl (by decide) rfl rfl rfl rfl (Nat.le_of_ble_eq_true rfl) dX8_roll_38 ?_
        refine s_aload_n K dX8_roll_41 rfl 0 rfl ?_
        refine s_get K 0 rfl rfl inT8 8 (Nat.le_of_ble_eq_true rfl) t_561 rfl rfl dX8_roll_42 ?_
        refine s_iload_n K dX8_roll_45 rfl 1 rfl ?_
        refine s_ck (fun ho_15 => ?_)
        refine s_iald K 3 0 rfl rfl (ok_in ho_15) rfl dX8_roll_46 ?_
        exact s_iret K hret hlk rfl rfl dX8_roll_47
set_option maxHeartbeats 4000000 in
set_option maxRecDepth 100000 in
theorem c_X8_areBeside {l : Launch} {D : va_G} {cI cC cB cQ : ClassId} {kc : Nat → Nat} {kt : Nat} (a0 a1 : Int32) {r : Int32} (hF : f_X8_areBeside a0 a1 = some r) : CT l D (tysOf cI cC cB cQ) kc kt yX8_areBeside cX8_areBeside 4 (some .boolean) ({ frames := 2, cells := 0, slots := 0, locals := 101 } : Room) [.int a0, .int a1] [] ((fun (r : Int32) => []) r) ((fun (r : Int32) => some (.int r)) r) := by
  refine CT.of (ww := (fun (r : Int32) => [])) (oo := (fun (r : Int32) => some (.int r))) hF RX8 rfl rfl (Nat.le_of_ble_eq_true rfl) ?_
  intro p e s m args below meth c A K hret hlk
  have L4 : ∀ (fu : Nat) (x2 x3 : Int32), Sw (ρ := Int32) p l e ({ frames := 2, cells := 0, slots := 0, locals := 101 } : Room) s m args below meth c 0 0 D A 4 (fun r => MQ below (CQ D ((fun (r : Int32) => []) r) ((fun (r : Int32) => some (.int r)) r) A) args s 0 0 A) (f_X8_areBeside_h4 a0 a1 fu x2 x3) [] [(0, .int a0), (1, .int a1), (2, .int x2), (3, .int x3)] 4 [] := by
    intro  fu
    induction fu with
    | zero =>
      intro x2 x3
      rewrite [f_X8_areBeside_h4]
      exact s_none
    | succ fu ih =>
      intro x2 x3
      rewrite [f_X8_areBeside_h4]
      refine s_iload_n K dX8_areBeside_4 rfl 3 rfl ?_
      refine s_iconst K dX8_areBeside_5 kic_4 ?_
      refine s_icmp_ge (tgt := 34) K dX8_areBeside_6 (by decide) (fun c_1 => ?_) (fun c_1 => ?_)
      · refine s_iload_n K dX8_areBeside_34 rfl 2 rfl ?_
        refine s_ck (fun hz_2 => ?_)
        exact s_zret K hret hlk (congrArg Value.int hz_2) rfl rfl dX8_areBeside_35
      · refine s_iload_n K dX8_areBeside_9 rfl 2 rfl ?_
        refine s_if_ne (tgt := 22) K dX8_areBeside_10 (by decide) (fun c_3 => ?_) (fun c_3 => ?_)
        · refine s_iload_n K dX8_areBeside_13 rfl 0 rfl ?_
          refine s_iload_n K dX8_areBeside_14 rfl 3 rfl ?_
          refine s_bind (fun q hq_5 => ?_)
          obtain ⟨r_4, rfl⟩ : ∃ z, z = q := ⟨_, rfl⟩
          refine s_callS0 (rest := []) (st1 := [.int r_4]) K (c_X8_beside a0 x3 hq_5) hd_X8_beside t_769 t_770 t_10 t_771 ⟨(Nat.le_of_ble_eq_true rfl), (Nat.le_of_ble_eq_true rfl)⟩ ⟨rfl, rfl⟩ ⟨Nat.zero_le _, Nat.zero_le _⟩ rfl rfl (Nat.le_of_ble_eq_true rfl) dX8_areBeside_15 ?_
          refine s_iload_n K dX8_areBeside_18 rfl 1 rfl ?_
          refine s_icmp_ne (tgt := 26) K dX8_areBeside_19 (by decide) (fun c_6 => ?_) (fun c_6 => ?_)
          · refine s_iconst K dX8_areBeside_22 kic_1 ?_
            refine s_goto (tgt := 27) K dX8_areBeside_23 (by decide) ?_
            refine s_istore_n (lv' := [(2, .int 1), (0, .int a0), (1, .int a1), (3, .int x3)]) K dX8_areBeside_27 rfl (Nat.le_of_ble_eq_true rfl) rfl ?_
            refine s_iinc (lv' := [(3, .int (x3 + 1)), (2, .int 1), (0, .int a0), (1, .int a1)]) K dX8_areBeside_28 3 rfl (kii_1 _) (Nat.le_of_ble_eq_true rfl) rfl ?_
            refine s_goto (tgt := 4) K dX8_areBeside_31 (by decide) ?_
            refine s_lv (lv' := [(0, .int a0), (1, .int a1), (2, .int 1), (3, .int (x3 + 1))]) [2, 3, 1, 0] rfl ?_
            exact ih 1 (x3 + 1)
          · refine s_iconst K dX8_areBeside_26 kic_0 ?_
            refine s_istore_n (lv' := [(2, .int 0), (0, .int a0), (1, .int a1), (3, .int x3)]) K dX8_areBeside_27 rfl (Nat.le_of_ble_eq_true rfl) rfl ?_
            refine s_iinc (lv' := [(3, .int (x3 + 1)), (2, .int 0), (0, .int a0), (1, .int a1)]) K dX8_areBeside_28 3 rfl (kii_1 _) (Nat.le_of_ble_eq_true rfl) rfl ?_
            refine s_goto (tgt := 4) K dX8_areBeside_31 (by decide) ?_
            refine s_lv (lv' := [(0, .int a0), (1, .int a1), (2, .int 0), (3, .int (x3 + 1))]) [2, 3, 1, 0] rfl ?_
            exact ih 0 (x3 + 1)
        · refine s_iconst K dX8_areBeside_22 kic_1 ?_
          refine s_goto (tgt := 27) K dX8_areBeside_23 (by decide) ?_
          refine s_istore_n (lv' := [(2, .int 1), (0, .int a0), (1, .int a1), (3, .int x3)]) K dX8_areBeside_27 rfl (Nat.le_of_ble_eq_true rfl) rfl ?_
          refine s_iinc (lv' := [(3, .int (x3 + 1)), (2, .int 1), (0, .int a0), (1, .int a1)]) K dX8_areBeside_28 3 rfl (kii_1 _) (Nat.le_of_ble_eq_true rfl) rfl ?_
          refine s_goto (tgt := 4) K dX8_areBeside_31 (by decide) ?_
          refine s_lv (lv' := [(0, .int a0), (1, .int a1), (2, .int 1), (3, .int (x3 + 1))]) [2, 3, 1, 0] rfl ?_
          exact ih 1 (x3 + 1)
  rewrite [f_X8_areBeside]
  refine s_iconst K dX8_areBeside_0 kic_0 ?_
  refine s_istore_n (lv' := [(2, .int 0), (0, .int a0), (1, .int a1)]) K dX8_areBeside_1 rfl (Nat.le_of_ble_eq_true rfl) rfl ?_
  refine s_iconst K dX8_areBeside_2 kic_0 ?_
  refine s_istore_n (lv' := [(3, .int 0), (2, .int 0), (0, .int a0), (1, .int a1)]) K dX8_areBeside_3 rfl (Nat.le_of_ble_eq_true rfl) rfl ?_
  refine s_lv (lv' := [(0, .int a0), (1, .int a1), (2, .int 0), (3, .int 0)]) [2, 3, 1, 0] rfl ?_
  exact L4 70 0 0
set_option maxHeartbeats 4000000 in
set_option maxRecDepth 100000 in
theorem c_X8_standMany {l : Launch} {D : va_G} {cI cC cB cQ : ClassId} {kc : Nat → Nat} {kt : Nat} (mh q_depthOf q_kindOf q_sizeOf q_placeOf q_onOf q_sticksOf q_page q_savedDepth q_gameSize q_gamePlace q_gameSticks q_gameDepth q_keptDepth q_keptSize q_keptPlace q_keptOn q_keptSticks : Nat) (m_isLawn m_lawns m_wetness m_strength m_days m_balls m_asks m_books m_pageLength m_faultAt m_savedSize m_savedPlace m_savedSticks m_bestSize m_bestFirst : Int32) (m_seedNow : Int64) (m_isKept m_keptLawn m_keptBalls m_keptStrength m_keptDays : Int32) (m_h : Int64) (m_depthOf m_kindOf m_sizeOf m_placeOf m_onOf m_sticksOf m_page m_savedDepth m_gameSize m_gamePlace m_gameSticks m_gameDepth m_keptDepth m_keptSize m_keptPlace m_keptOn m_keptSticks : Nat → Int32) (a1 : Int32) {r : Int32} (hF : f_X8_standMany m_balls m_placeOf a1 = some r) : CT l D (tysOf cI cC cB cQ) kc kt yX8_standMany cX8_standMany 4 (some .int) ({ frames := 1, cells := 0, slots := 0, locals := 40 } : Room) [.ref mh, .int a1] (wM cI cC cB cQ kc mh q_depthOf q_kindOf q_sizeOf q_placeOf q_onOf q_sticksOf q_page q_savedDepth q_gameSize q_gamePlace q_gameSticks q_gameDepth q_keptDepth q_keptSize q_keptPlace q_keptOn q_keptSticks m_isLawn m_lawns m_wetness m_strength m_days m_balls m_asks m_books m_pageLength m_faultAt m_savedSize m_savedPlace m_savedSticks m_bestSize m_bestFirst m_seedNow m_isKept m_keptLawn m_keptBalls m_keptStrength m_keptDays m_h m_depthOf m_kindOf m_sizeOf m_placeOf m_onOf m_sticksOf m_page m_savedDepth m_gameSize m_gamePlace m_gameSticks m_gameDepth m_keptDepth m_keptSize m_keptPlace m_keptOn m_keptSticks) ((fun (r : Int32) => (wM cI cC cB cQ kc mh q_depthOf q_kindOf q_sizeOf q_placeOf q_onOf q_sticksOf q_page q_savedDepth q_gameSize q_gamePlace q_gameSticks q_gameDepth q_keptDepth q_keptSize q_keptPlace q_keptOn q_keptSticks m_isLawn m_lawns m_wetness m_strength m_days m_balls m_asks m_books m_pageLength m_faultAt m_savedSize m_savedPlace m_savedSticks m_bestSize m_bestFirst m_seedNow m_isKept m_keptLawn m_keptBalls m_keptStrength m_keptDays m_h m_depthOf m_kindOf m_sizeOf m_placeOf m_onOf m_sticksOf m_page m_savedDepth m_gameSize m_gamePlace m_gameSticks m_gameDepth m_keptDepth m_keptSize m_keptPlace m_keptOn m_keptSticks)) r) ((fun (r : Int32) => some (.int r)) r) := by
  refine CT.of (ww := (fun (r : Int32) => (wM cI cC cB cQ kc mh q_depthOf q_kindOf q_sizeOf q_placeOf q_onOf q_sticksOf q_page q_savedDepth q_gameSize q_gamePlace q_gameSticks q_gameDepth q_keptDepth q_keptSize q_keptPlace q_keptOn q_keptSticks m_isLawn m_lawns m_wetness m_strength m_days m_balls m_asks m_books m_pageLength m_faultAt m_savedSize m_savedPlace m_savedSticks m_bestSize m_bestFirst m_seedNow m_isKept m_keptLawn m_keptBalls m_keptStrength m_keptDays m_h m_depthOf m_kindOf m_sizeOf m_placeOf m_onOf m_sticksOf m_page m_savedDepth m_gameSize m_gamePlace m_gameSticks m_gameDepth m_keptDepth m_keptSize m_keptPlace m_keptOn m_keptSticks))) (oo := (fun (r : Int32) => some (.int r))) hF RX8 rfl rfl (Nat.le_of_ble_eq_true rfl) ?_
  intro p e s m args below meth c A K hret hlk
  have L4 : ∀ (fu : Nat) (x2 x3 : Int32), Sw (ρ := Int32) p l e ({ frames := 1, cells := 0, slots := 0, locals := 40 } : Room) s m args below meth c 0 0 D A 4 (fun r => MQ below (CQ D ((fun (r : Int32) => (wM cI cC cB cQ kc mh q_depthOf q_kindOf q_sizeOf q_placeOf q_onOf q_sticksOf q_page q_savedDepth q_gameSize q_gamePlace q_gameSticks q_gameDepth q_keptDepth q_keptSize q_keptPlace q_keptOn q_keptSticks m_isLawn m_lawns m_wetness m_strength m_days m_balls m_asks m_books m_pageLength m_faultAt m_savedSize m_savedPlace m_savedSticks m_bestSize m_bestFirst m_seedNow m_isKept m_keptLawn m_keptBalls m_keptStrength m_keptDays m_h m_depthOf m_kindOf m_sizeOf m_placeOf m_onOf m_sticksOf m_page m_savedDepth m_gameSize m_gamePlace m_gameSticks m_gameDepth m_keptDepth m_keptSize m_keptPlace m_keptOn m_keptSticks)) r) ((fun (r : Int32) => some (.int r)) r) A) args s 0 0 A) (f_X8_standMany_h4 m_balls m_placeOf a1 fu x2 x3) (wM cI cC cB cQ kc mh q_depthOf q_kindOf q_sizeOf q_placeOf q_onOf q_sticksOf q_page q_savedDepth q_gameSize q_gamePlace q_gameSticks q_gameDepth q_keptDepth q_keptSize q_keptPlace q_keptOn q_keptSticks m_isLawn m_lawns m_wetness m_strength m_days m_balls m_asks m_books m_pageLength m_faultAt m_savedSize m_savedPlace m_savedSticks m_bestSize m_bestFirst m_seedNow m_isKept m_keptLawn m_keptBalls m_keptStrength m_keptDays m_h m_depthOf m_kindOf m_sizeOf m_placeOf m_onOf m_sticksOf m_page m_savedDepth m_gameSize m_gamePlace m_gameSticks m_gameDepth m_keptDepth m_keptSize m_keptPlace m_keptOn m_keptSticks) [(0, .ref mh), (1, .int a1), (2, .int x2), (3, .int x3)] 4 [] := by
    intro  fu
    induction fu with
    | zero =>
      intro x2 x3
      rewrite [f_X8_standMany_h4]
      exact s_none
    | succ fu ih =>
      intro x2 x3
      rewrite [f_X8_standMany_h4]
      refine s_iload_n K dX8_standMany_4 rfl 3 rfl ?_
      refine s_aload_n K dX8_standMany_5 rfl 0 rfl ?_
      refine s_get K 0 rfl rfl inT8 6 (Nat.le_of_ble_eq_true rfl) t_559 rfl rfl dX8_standMany_6 ?_
      refine s_icmp_ge (tgt := 36) K dX8_standMany_9 (by decide) (fun c_1 => ?_) (fun c_1 => ?_)
      · refine s_iload_n K dX8_standMany_36 rfl 2 rfl ?_
        exact s_iret K hret hlk rfl rfl dX8_standMany_37
      · refine s_iload_n K dX8_standMany_12 rfl 2 rfl ?_
        refine s_aload_n K dX8_standMany_13 rfl 0 rfl ?_
        refine s_get K 0 rfl rfl inT8 9 (Nat.le_of_ble_eq_true rfl) t_562 rfl rfl dX8_standMany_14 ?_
        refine s_iload_n K dX8_standMany_17 rfl 3 rfl ?_
        refine s_ck (fun ho_2 => ?_)
        refine s_iald K 4 0 rfl rfl (ok_in ho_2) rfl dX8_standMany_18 ?_
        refine s_iload_n K dX8_standMany_19 rfl 1 rfl ?_
        refine s_icmp_ne (tgt := 27) K dX8_standMany_20 (by decide) (fun c_3 => ?_) (fun c_3 => ?_)
        · refine s_iconst K dX8_standMany_23 kic_1 ?_
          refine s_goto (tgt := 28) K dX8_standMany_24 (by decide) ?_
          refine s_iadd K dX8_standMany_28 ?_
          refine s_istore_n (lv' := [(2, .int (x2 + 1)), (0, .ref mh), (1, .int a1), (3, .int x3)]) K dX8_standMany_29 rfl (Nat.le_of_ble_eq_true rfl) rfl ?_
          refine s_iinc (lv' := [(3, .int (x3 + 1)), (2, .int (x2 + 1)), (0, .ref mh), (1, .int a1)]) K dX8_standMany_30 3 rfl (kii_1 _) (Nat.le_of_ble_eq_true rfl) rfl ?_
          refine s_goto (tgt := 4) K dX8_standMany_33 (by decide) ?_
          refine s_lv (lv' := [(0, .ref mh), (1, .int a1), (2, .int (x2 + 1)), (3, .int (x3 + 1))]) [2, 3, 1, 0] rfl ?_
          exact ih (x2 + 1) (x3 + 1)
        · refine s_iconst K dX8_standMany_27 kic_0 ?_
          refine s_iadd K dX8_standMany_28 ?_
          refine s_istore_n (lv' := [(2, .int (x2 + 0)), (0, .ref mh), (1, .int a1), (3, .int x3)]) K dX8_standMany_29 rfl (Nat.le_of_ble_eq_true rfl) rfl ?_
          refine s_iinc (lv' := [(3, .int (x3 + 1)), (2, .int (x2 + 0)), (0, .ref mh), (1, .int a1)]) K dX8_standMany_30 3 rfl (kii_1 _) (Nat.le_of_ble_eq_true rfl) rfl ?_
          refine s_goto (tgt := 4) K dX8_standMany_33 (by decide) ?_
          refine s_lv (lv' := [(0, .ref mh), (1, .int a1), (2, .int (x2 + 0)), (3, .int (x3 + 1))]) [2, 3, 1, 0] rfl ?_
          exact ih (x2 + 0) (x3 + 1)
  rewrite [f_X8_standMany]
  refine s_iconst K dX8_standMany_0 kic_0 ?_
  refine s_istore_n (lv' := [(2, .int 0), (0, .ref mh), (1, .int a1)]) K dX8_standMany_1 rfl (Nat.le_of_ble_eq_true rfl) rfl ?_
  refine s_iconst K dX8_standMany_2 kic_0 ?_
  refine s_istore_n (lv' := [(3, .int 0), (2, .int 0), (0, .ref mh), (1, .int a1)]) K dX8_standMany_3 rfl (Nat.le_of_ble_eq_true rfl) rfl ?_
  refine s_lv (lv' := [(0, .ref mh), (1, .int a1), (2, .int 0), (3, .int 0)]) [2, 3, 1, 0] rfl ?_
  exact L4 70 0 0
set_option maxHeartbeats 4000000 in
set_option maxRecDepth 100000 in
theorem c_X8_mayLift {l : Launch} {D : va_G} {cI cC cB cQ : ClassId} {kc : Nat → Nat} {kt : Nat} (mh q_depthOf q_kindOf q_sizeOf q_placeOf q_onOf q_sticksOf q_page q_savedDepth q_gameSize q_gamePlace q_gameSticks q_gameDepth q_keptDepth q_keptSize q_keptPlace q_keptOn q_keptSticks : Nat) (m_isLawn m_lawns m_wetness m_strength m_days m_balls m_asks m_books m_pageLength m_faultAt m_savedSize m_savedPlace m_savedSticks m_bestSize m_bestFirst : Int32) (m_seedNow : Int64) (m_isKept m_keptLawn m_keptBalls m_keptStrength m_keptDays : Int32) (m_h : Int64) (m_depthOf m_kindOf m_sizeOf m_placeOf m_onOf m_sticksOf m_page m_savedDepth m_gameSize m_gamePlace m_gameSticks m_gameDepth m_keptDepth m_keptSize m_keptPlace m_keptOn m_keptSticks : Nat → Int32) (a1 a2 : Int32) {r : Int32} (hF : f_X8_mayLift m_strength m_balls m_kindOf m_sizeOf m_placeOf m_onOf a1 a2 = some r) : CT l D (tysOf cI cC cB cQ) kc kt yX8_mayLift cX8_mayLift 3 (some .boolean) ({ frames := 3, cells := 0, slots := 0, locals := 164 } : Room) [.ref mh, .int a1, .int a2] (wM cI cC cB cQ kc mh q_depthOf q_kindOf q_sizeOf q_placeOf q_onOf q_sticksOf q_page q_savedDepth q_gameSize q_gamePlace q_gameSticks q_gameDepth q_keptDepth q_keptSize q_keptPlace q_keptOn q_keptSticks m_isLawn m_lawns m_wetness m_strength m_days m_balls m_asks m_books m_pageLength m_faultAt m_savedSize m_savedPlace m_savedSticks m_bestSize m_bestFirst m_seedNow m_isKept m_keptLawn m_keptBalls m_keptStrength m_keptDays m_h m_depthOf m_kindOf m_sizeOf m_placeOf m_onOf m_sticksOf m_page m_savedDepth m_gameSize m_gamePlace m_gameSticks m_gameDepth m_keptDepth m_keptSize m_keptPlace m_keptOn m_keptSticks) ((fun (r : Int32) => (wM cI cC cB cQ kc mh q_depthOf q_kindOf q_sizeOf q_placeOf q_onOf q_sticksOf q_page q_savedDepth q_gameSize q_gamePlace q_gameSticks q_gameDepth q_keptDepth q_keptSize q_keptPlace q_keptOn q_keptSticks m_isLawn m_lawns m_wetness m_strength m_days m_balls m_asks m_books m_pageLength m_faultAt m_savedSize m_savedPlace m_savedSticks m_bestSize m_bestFirst m_seedNow m_isKept m_keptLawn m_keptBalls m_keptStrength m_keptDays m_h m_depthOf m_kindOf m_sizeOf m_placeOf m_onOf m_sticksOf m_page m_savedDepth m_gameSize m_gamePlace m_gameSticks m_gameDepth m_keptDepth m_keptSize m_keptPlace m_keptOn m_keptSticks)) r) ((fun (r : Int32) => some (.int r)) r) := by
  refine CT.of (ww := (fun (r : Int32) => (wM cI cC cB cQ kc mh q_depthOf q_kindOf q_sizeOf q_placeOf q_onOf q_sticksOf q_page q_savedDepth q_gameSize q_gamePlace q_gameSticks q_gameDepth q_keptDepth q_keptSize q_keptPlace q_keptOn q_keptSticks m_isLawn m_lawns m_wetness m_strength m_days m_balls m_asks m_books m_pageLength m_faultAt m_savedSize m_savedPlace m_savedSticks m_bestSize m_bestFirst m_seedNow m_isKept m_keptLawn m_keptBalls m_keptStrength m_keptDays m_h m_depthOf m_kindOf m_sizeOf m_placeOf m_onOf m_sticksOf m_page m_savedDepth m_gameSize m_gamePlace m_gameSticks m_gameDepth m_keptDepth m_keptSize m_keptPlace m_keptOn m_keptSticks))) (oo := (fun (r : Int32) => some (.int r))) hF RX8 rfl rfl (Nat.le_of_ble_eq_true rfl) ?_
  intro p e s m args below meth c A K hret hlk
  rewrite [f_X8_mayLift]
  refine s_aload_n K dX8_mayLift_0 rfl 0 rfl ?_
  refine s_iload_n K dX8_mayLift_1 rfl 1 rfl ?_
  refine s_bind (fun q hq_2 => ?_)
  obtain ⟨r_1, rfl⟩ : ∃ z, z = q := ⟨_, rfl⟩
  refine s_callV (w' := (wM cI cC cB cQ kc mh q_depthOf q_kindOf q_sizeOf q_placeOf q_onOf q_sticksOf q_page q_savedDepth q_gameSize q_gamePlace q_gameSticks q_gameDepth q_keptDepth q_keptSize q_keptPlace q_keptOn q_keptSticks m_isLawn m_lawns m_wetness m_strength m_days m_balls m_asks m_books m_pageLength m_faultAt m_savedSize m_savedPlace m_savedSticks m_bestSize m_bestFirst m_seedNow m_isKept m_keptLawn m_keptBalls m_keptStrength m_keptDays m_h m_depthOf m_kindOf m_sizeOf m_placeOf m_onOf m_sticksOf m_page m_savedDepth m_gameSize m_gamePlace m_gameSticks m_gameDepth m_keptDepth m_keptSize m_keptPlace m_keptOn m_keptSticks)) (rest := []) (st1 := [.int r_1]) K (c_X8_isFree mh q_depthOf q_kindOf q_sizeOf q_placeOf q_onOf q_sticksOf q_page q_savedDepth q_gameSize q_gamePlace q_gameSticks q_gameDepth q_keptDepth q_keptSize q_keptPlace q_keptOn q_keptSticks m_isLawn m_lawns m_wetness m_strength m_days m_balls m_asks m_books m_pageLength m_faultAt m_savedSize m_savedPlace m_savedSticks m_bestSize m_bestFirst m_seedNow m_isKept m_keptLawn m_keptBalls m_keptStrength m_keptDays m_h m_depthOf m_kindOf m_sizeOf m_placeOf m_onOf m_sticksOf m_page m_savedDepth m_gameSize m_gamePlace m_gameSticks m_gameDepth m_keptDepth m_keptSize m_keptPlace m_keptOn m_keptSticks a1 hq_2) rfl hd_X8_isFree t_761 t_763 ts_18 t_10 t_764 ⟨(Nat.le_of_ble_eq_true rfl), (Nat.le_of_ble_eq_true rfl)⟩ ⟨rfl, rfl⟩ ⟨Nat.zero_le _, Nat.zero_le _⟩ (rv_o K 0 rfl rfl) [0, 1, 2, 3, 4, 5, 6, 7, 8, 9, 10, 11, 12, 13, 14, 15, 16, 17] [] [0, 1, 2, 3, 4, 5, 6, 7, 8, 9, 10, 11, 12, 13, 14, 15, 16, 17] rfl rfl rfl rfl (by decide) rfl rfl rfl rfl (Nat.le_of_ble_eq_true rfl) dX8_mayLift_2 ?_
  refine s_if_eq (tgt := 41) K dX8_mayLift_5 (by decide) (fun c_3 => ?_) (fun c_3 => ?_)
  · refine s_iconst K dX8_mayLift_41 kic_0 ?_
    exact s_zret K hret hlk rfl rfl rfl dX8_mayLift_42
  · refine s_aload_n K dX8_mayLift_8 rfl 0 rfl ?_
    refine s_get K 0 rfl rfl inT8 9 (Nat.le_of_ble_eq_true rfl) t_562 rfl rfl dX8_mayLift_9 ?_
    refine s_iload_n K dX8_mayLift_12 rfl 2 rfl ?_
    refine s_ck (fun ho_4 => ?_)
    refine s_iald K 4 0 rfl rfl (ok_in ho_4) rfl dX8_mayLift_13 ?_
    refine s_iconst K dX8_mayLift_14 kic_m1 ?_
    refine s_icmp_eq (tgt := 41) K dX8_mayLift_15 (by decide) (fun c_5 => ?_) (fun c_5 => ?_)
    · refine s_iconst K dX8_mayLift_41 kic_0 ?_
      exact s_zret K hret hlk rfl rfl rfl dX8_mayLift_42
    · refine s_aload_n K dX8_mayLift_18 rfl 0 rfl ?_
      refine s_iload_n K dX8_mayLift_19 rfl 2 rfl ?_
      refine s_bind (fun q hq_7 => ?_)
      obtain ⟨r_6, rfl⟩ : ∃ z, z = q := ⟨_, rfl⟩
      refine s_callV (w' := (wM cI cC cB cQ kc mh q_depthOf q_kindOf q_sizeOf q_placeOf q_onOf q_sticksOf q_page q_savedDepth q_gameSize q_gamePlace q_gameSticks q_gameDepth q_keptDepth q_keptSize q_keptPlace q_keptOn q_keptSticks m_isLawn m_lawns m_wetness m_strength m_days m_balls m_asks m_books m_pageLength m_faultAt m_savedSize m_savedPlace m_savedSticks m_bestSize m_bestFirst m_seedNow m_isKept m_keptLawn m_keptBalls m_keptStrength m_keptDays m_h m_depthOf m_kindOf m_sizeOf m_placeOf m_onOf m_sticksOf m_page m_savedDepth m_gameSize m_gamePlace m_gameSticks m_gameDepth m_keptDepth m_keptSize m_keptPlace m_keptOn m_keptSticks)) (rest := []) (st1 := [.int r_6]) K (c_X8_above mh q_depthOf q_kindOf q_sizeOf q_placeOf q_onOf q_sticksOf q_page q_savedDepth q_gameSize q_gamePlace q_gameSticks q_gameDepth q_keptDepth q_keptSize q_keptPlace q_keptOn q_keptSticks m_isLawn m_lawns m_wetness m_strength m_days m_balls m_asks m_books m_pageLength m_faultAt m_savedSize m_savedPlace m_savedSticks m_bestSize m_bestFirst m_seedNow m_isKept m_keptLawn m_keptBalls m_keptStrength m_keptDays m_h m_depthOf m_kindOf m_sizeOf m_placeOf m_onOf m_sticksOf m_page m_savedDepth m_gameSize m_gamePlace m_gameSticks m_gameDepth m_keptDepth m_keptSize m_keptPlace m_keptOn m_keptSticks a2 hq_7) rfl hd_X8_above t_765 t_767 ts_19 t_10 t_768 ⟨(Nat.le_of_ble_eq_true rfl), (Nat.le_of_ble_eq_true rfl)⟩ ⟨rfl, rfl⟩ ⟨Nat.zero_le _, Nat.zero_le _⟩ (rv_o K 0 rfl rfl) [0, 1, 2, 3, 4, 5, 6, 7, 8, 9, 10, 11, 12, 13, 14, 15, 16, 17] [] [0, 1, 2, 3, 4, 5, 6, 7, 8, 9, 10, 11, 12, 13, 14, 15, 16, 17] rfl rfl rfl rfl (by decide) rfl rfl rfl rfl (Nat.le_of_ble_eq_true rfl) dX8_mayLift_20 ?_
      refine s_iconst K dX8_mayLift_23 kic_m1 ?_
      refine s_icmp_ne (tgt := 41) K dX8_mayLift_24 (by decide) (fun c_8 => ?_) (fun c_8 => ?_)
      · refine s_iconst K dX8_mayLift_27 kic_2 ?_
        refine s_aload_n K dX8_mayLift_28 rfl 0 rfl ?_
        refine s_iload_n K dX8_mayLift_29 rfl 1 rfl ?_
        refine s_bind (fun q hq_10 => ?_)
        obtain ⟨r_9, rfl⟩ : ∃ z, z = q := ⟨_, rfl⟩
        refine s_callV (w' := (wM cI cC cB cQ kc mh q_depthOf q_kindOf q_sizeOf q_placeOf q_onOf q_sticksOf q_page q_savedDepth q_gameSize q_gamePlace q_gameSticks q_gameDepth q_keptDepth q_keptSize q_keptPlace q_keptOn q_keptSticks m_isLawn m_lawns m_wetness m_strength m_days m_balls m_asks m_books m_pageLength m_faultAt m_savedSize m_savedPlace m_savedSticks m_bestSize m_bestFirst m_seedNow m_isKept m_keptLawn m_keptBalls m_keptStrength m_keptDays m_h m_depthOf m_kindOf m_sizeOf m_placeOf m_onOf m_sticksOf m_page m_savedDepth m_gameSize m_gamePlace m_gameSticks m_gameDepth m_keptDepth m_keptSize m_keptPlace m_keptOn m_keptSticks)) (rest := [.int 2]) (st1 := [.int r_9, .int 2]) K (c_X8_weighs mh q_depthOf q_kindOf q_sizeOf q_placeOf q_onOf q_sticksOf q_page q_savedDepth q_gameSize q_gamePlace q_gameSticks q_gameDepth q_keptDepth q_keptSize q_keptPlace q_keptOn q_keptSticks m_isLawn m_lawns m_wetness m_strength m_days m_balls m_asks m_books m_pageLength m_faultAt m_savedSize m_savedPlace m_savedSticks m_bestSize m_bestFirst m_seedNow m_isKept m_keptLawn m_keptBalls m_keptStrength m_keptDays m_h m_depthOf m_kindOf m_sizeOf m_placeOf m_onOf m_sticksOf m_page m_savedDepth m_gameSize m_gamePlace m_gameSticks m_gameDepth m_keptDepth m_keptSize m_keptPlace m_keptOn m_keptSticks a1 hq_10) rfl hd_X8_weighs t_741 t_743 ts_15 t_10 t_744 ⟨(Nat.le_of_ble_eq_true rfl), (Nat.le_of_ble_eq_true rfl)⟩ ⟨rfl, rfl⟩ ⟨Nat.zero_le _, Nat.zero_le _⟩ (rv_o K 0 rfl rfl) [0, 1, 2, 3, 4, 5, 6, 7, 8, 9, 10, 11, 12, 13, 14, 15, 16, 17] [] [0, 1, 2, 3, 4, 5, 6, 7, 8, 9, 10, 11, 12, 13, 14, 15, 16, 17] rfl rfl rfl rfl (by decide) rfl rfl rfl rfl (Nat.le_of_ble_eq_true rfl) dX8_mayLift_30 ?_
        refine s_imul K dX8_mayLift_33 ?_
        refine s_aload_n K dX8_mayLift_34 rfl 0 rfl ?_
        refine s_get K 0 rfl rfl inT8 4 (Nat.le_of_ble_eq_true rfl) t_557 rfl rfl dX8_mayLift_35 ?_
        refine s_icmp_le (tgt := 43) K dX8_mayLift_38 (by decide) (fun c_11 => ?_) (fun c_11 => ?_)
        · refine s_aload_n K dX8_mayLift_43 rfl 0 rfl ?_
          refine s_get K 0 rfl rfl inT8 9 (Nat.le_of_ble_eq_true rfl) t_562 rfl rfl dX8_mayLift_44 ?_
          refine s_iload_n K dX8_mayLift_47 rfl 1 rfl ?_
          refine s_ck (fun ho_12 => ?_)
          refine s_iald K 4 0 rfl rfl (ok_in ho_12) rfl dX8_mayLift_48 ?_
          refine s_aload_n K dX8_mayLift_49 rfl 0 rfl ?_
          refine s_get K 0 rfl rfl inT8 9 (Nat.le_of_ble_eq_true rfl) t_562 rfl rfl dX8_mayLift_50 ?_
          refine s_iload_n K dX8_mayLift_53 rfl 2 rfl ?_
          refine s_iald K 4 0 rfl rfl (ok_in ho_4) rfl dX8_mayLift_54 ?_
          refine s_bind (fun q hq_14 => ?_)
          obtain ⟨r_13, rfl⟩ : ∃ z, z = q := ⟨_, rfl⟩
          refine s_callS0 (rest := []) (st1 := [.int r_13]) K (c_X8_areBeside (m_placeOf (Int32.toNatClampNeg a1)) (m_placeOf (Int32.toNatClampNeg a2)) hq_14) hd_X8_areBeside t_788 t_789 t_10 t_790 ⟨(Nat.le_of_ble_eq_true rfl), (Nat.le_of_ble_eq_true rfl)⟩ ⟨rfl, rfl⟩ ⟨Nat.zero_le _, Nat.zero_le _⟩ rfl rfl (Nat.le_of_ble_eq_true rfl) dX8_mayLift_55 ?_
          refine s_if_eq (tgt := 94) K dX8_mayLift_58 (by decide) (fun c_15 => ?_) (fun c_15 => ?_)
          · refine s_iconst K dX8_mayLift_94 kic_0 ?_
            exact s_zret K hret hlk rfl rfl rfl dX8_mayLift_95
          · refine s_aload_n K dX8_mayLift_61 rfl 0 rfl ?_
            refine s_get K 0 rfl rfl inT8 8 (Nat.le_of_ble_eq_true rfl) t_561 rfl rfl dX8_mayLift_62 ?_
            refine s_iload_n K dX8_mayLift_65 rfl 2 rfl ?_
            refine s_iald K 3 0 rfl rfl (ok_in ho_4) rfl dX8_mayLift_66 ?_
            refine s_aload_n K dX8_mayLift_67 rfl 0 rfl ?_
            refine s_get K 0 rfl rfl inT8 8 (Nat.le_of_ble_eq_true rfl) t_561 rfl rfl dX8_mayLift_68 ?_
            refine s_iload_n K dX8_mayLift_71 rfl 1 rfl ?_
            refine s_iald K 3 0 rfl rfl (ok_in ho_12) rfl dX8_mayLift_72 ?_
            refine s_icmp_le (tgt := 94) K dX8_mayLift_73 (by decide) (fun c_16 => ?_) (fun c_16 => ?_)
            · refine s_iconst K dX8_mayLift_94 kic_0 ?_
              exact s_zret K hret hlk rfl rfl rfl dX8_mayLift_95
            · refine s_aload_n K dX8_mayLift_76 rfl 0 rfl ?_
              refine s_aload_n K dX8_mayLift_77 rfl 0 rfl ?_
              refine s_get K 0 rfl rfl inT8 9 (Nat.le_of_ble_eq_true rfl) t_562 rfl rfl dX8_mayLift_78 ?_
              refine s_iload_n K dX8_mayLift_81 rfl 2 rfl ?_
              refine s_iald K 4 0 rfl rfl (ok_in ho_4) rfl dX8_mayLift_82 ?_
              refine s_bind (fun q hq_18 => ?_)
              obtain ⟨r_17, rfl⟩ : ∃ z, z = q := ⟨_, rfl⟩
              refine s_callV (w' := (wM cI cC cB cQ kc mh q_depthOf q_kindOf q_sizeOf q_placeOf q_onOf q_sticksOf q_page q_savedDepth q_gameSize q_gamePlace q_gameSticks q_gameDepth q_keptDepth q_keptSize q_keptPlace q_keptOn q_keptSticks m_isLawn m_lawns m_wetness m_strength m_days m_balls m_asks m_books m_pageLength m_faultAt m_savedSize m_savedPlace m_savedSticks m_bestSize m_bestFirst m_seedNow m_isKept m_keptLawn m_keptBalls m_keptStrength m_keptDays m_h m_depthOf m_kindOf m_sizeOf m_placeOf m_onOf m_sticksOf m_page m_savedDepth m_gameSize m_gamePlace m_gameSticks m_gameDepth m_keptDepth m_keptSize m_keptPlace m_keptOn m_keptSticks)) (rest := []) (st1 := [.int r_17]) K (c_X8_standMany mh q_depthOf q_kindOf q_sizeOf q_placeOf q_onOf q_sticksOf q_page q_savedDepth q_gameSize q_gamePlace q_gameSticks q_gameDepth q_keptDepth q_keptSize q_keptPlace q_keptOn q_keptSticks m_isLawn m_lawns m_wetness m_strength m_days m_balls m_asks m_books m_pageLength m_faultAt m_savedSize m_savedPlace m_savedSticks m_bestSize m_bestFirst m_seedNow m_isKept m_keptLawn m_keptBalls m_keptStrength m_keptDays m_h m_depthOf m_kindOf m_sizeOf m_placeOf m_onOf m_sticksOf m_page m_savedDepth m_gameSize m_gamePlace m_gameSticks m_gameDepth m_keptDepth m_keptSize m_keptPlace m_keptOn m_keptSticks (m_placeOf (Int32.toNatClampNeg a2)) hq_18) rfl hd_X8_standMany t_791 t_793 ts_22 t_10 t_794 ⟨(Nat.le_of_ble_eq_true rfl), (Nat.le_of_ble_eq_true rfl)⟩ ⟨rfl, rfl⟩ ⟨Nat.zero_le _, Nat.zero_le _⟩ (rv_o K 0 rfl rfl) [0, 1, 2, 3, 4, 5, 6, 7, 8, 9, 10, 11, 12, 13, 14, 15, 16, 17] [] [0, 1, 2, 3, 4, 5, 6, 7, 8, 9, 10, 11, 12, 13, 14, 15, 16, 17] rfl rfl rfl rfl (by decide) rfl rfl rfl rfl (Nat.le_of_ble_eq_true rfl) dX8_mayLift_83 ?_
              refine s_iconst K dX8_mayLift_86 kic_3 ?_
              refine s_icmp_ge (tgt := 94) K dX8_mayLift_87 (by decide) (fun c_19 => ?_) (fun c_19 => ?_)
              · refine s_iconst K dX8_mayLift_94 kic_0 ?_
                exact s_zret K hret hlk rfl rfl rfl dX8_mayLift_95
              · refine s_iconst K dX8_mayLift_90 kic_1 ?_
                refine s_goto (tgt := 95) K dX8_mayLift_91 (by decide) ?_
                exact s_zret K hret hlk rfl rfl rfl dX8_mayLift_95
        · refine s_iconst K dX8_mayLift_41 kic_0 ?_
          exact s_zret K hret hlk rfl rfl rfl dX8_mayLift_42
      · refine s_iconst K dX8_mayLift_41 kic_0 ?_
        exact s_zret K hret hlk rfl rfl rfl dX8_mayLift_42
set_option maxHeartbeats 4000000 in
set_option maxRecDepth 100000 in
theorem c_X8_lift {l : Launch} {D : va_G} {cI cC cB cQ : ClassId} {kc : Nat → Nat} {kt : Nat} (mh q_depthOf q_kindOf q_sizeOf q_placeOf q_onOf q_sticksOf q_page q_savedDepth q_gameSize q_gamePlace q_gameSticks q_gameDepth q_keptDepth q_keptSize q_keptPlace q_keptOn q_keptSticks : Nat) (m_isLawn m_lawns m_wetness m_strength m_days m_balls m_asks m_books m_pageLength m_faultAt m_savedSize m_savedPlace m_savedSticks m_bestSize m_bestFirst : Int32) (m_seedNow : Int64) (m_isKept m_keptLawn m_keptBalls m_keptStrength m_keptDays : Int32) (m_h : Int64) (m_depthOf m_kindOf m_sizeOf m_placeOf m_onOf m_sticksOf m_page m_savedDepth m_gameSize m_gamePlace m_gameSticks m_gameDepth m_keptDepth m_keptSize m_keptPlace m_keptOn m_keptSticks : Nat → Int32) (a1 a2 : Int32) {r : Int32 × (Nat → Int32) × (Nat → Int32)} (hF : f_X8_lift m_strength m_balls m_kindOf m_sizeOf m_placeOf m_onOf a1 a2 = some r) : CT l D (tysOf cI cC cB cQ) kc kt yX8_lift cX8_lift 3 (some .int) ({ frames := 4, cells := 0, slots := 0, locals := 226 } : Room) [.ref mh, .int a1, .int a2] (wM cI cC cB cQ kc mh q_depthOf q_kindOf q_sizeOf q_placeOf q_onOf q_sticksOf q_page q_savedDepth q_gameSize q_gamePlace q_gameSticks q_gameDepth q_keptDepth q_keptSize q_keptPlace q_keptOn q_keptSticks m_isLawn m_lawns m_wetness m_strength m_days m_balls m_asks m_books m_pageLength m_faultAt m_savedSize m_savedPlace m_savedSticks m_bestSize m_bestFirst m_seedNow m_isKept m_keptLawn m_keptBalls m_keptStrength m_keptDays m_h m_depthOf m_kindOf m_sizeOf m_placeOf m_onOf m_sticksOf m_page m_savedDepth m_gameSize m_gamePlace m_gameSticks m_gameDepth m_keptDepth m_keptSize m_keptPlace m_keptOn m_keptSticks) ((fun (r : Int32 × (Nat → Int32) × (Nat → Int32)) => (wM cI cC cB cQ kc mh q_depthOf q_kindOf q_sizeOf q_placeOf q_onOf q_sticksOf q_page q_savedDepth q_gameSize q_gamePlace q_gameSticks q_gameDepth q_keptDepth q_keptSize q_keptPlace q_keptOn q_keptSticks m_isLawn m_lawns m_wetness m_strength m_days m_balls m_asks m_books m_pageLength m_faultAt m_savedSize m_savedPlace m_savedSticks m_bestSize m_bestFirst m_seedNow m_isKept m_keptLawn m_keptBalls m_keptStrength m_keptDays m_h m_depthOf m_kindOf m_sizeOf (r.2.1) (r.2.2) m_sticksOf m_page m_savedDepth m_gameSize m_gamePlace m_gameSticks m_gameDepth m_keptDepth m_keptSize m_keptPlace m_keptOn m_keptSticks)) r) ((fun (r : Int32 × (Nat → Int32) × (Nat → Int32)) => some (.int (r.1))) r) := by
  refine CT.of (ww := (fun (r : Int32 × (Nat → Int32) × (Nat → Int32)) => (wM cI cC cB cQ kc mh q_depthOf q_kindOf q_sizeOf q_placeOf q_onOf q_sticksOf q_page q_savedDepth q_gameSize q_gamePlace q_gameSticks q_gameDepth q_keptDepth q_keptSize q_keptPlace q_keptOn q_keptSticks m_isLawn m_lawns m_wetness m_strength m_days m_balls m_asks m_books m_pageLength m_faultAt m_savedSize m_savedPlace m_savedSticks m_bestSize m_bestFirst m_seedNow m_isKept m_keptLawn m_keptBalls m_keptStrength m_keptDays m_h m_depthOf m_kindOf m_sizeOf (r.2.1) (r.2.2) m_sticksOf m_page m_savedDepth m_gameSize m_gamePlace m_gameSticks m_gameDepth m_keptDepth m_keptSize m_keptPlace m_keptOn m_keptSticks))) (oo := (fun (r : Int32 × (Nat → Int32) × (Nat → Int32)) => some (.int (r.1)))) hF RX8 rfl rfl (Nat.le_of_ble_eq_true rfl) ?_
  intro p e s m args below meth c A K hret hlk
  rewrite [f_X8_lift]
  refine s_aload_n K dX8_lift_0 rfl 0 rfl ?_
  refine s_iload_n K dX8_lift_1 rfl 1 rfl ?_
  refine s_bind (fun q hq_2 => ?_)
  obtain ⟨r_1, rfl⟩ : ∃ z, z = q := ⟨_, rfl⟩
  refine s_callV (w' := (wM cI cC cB cQ kc mh q_depthOf q_kindOf q_sizeOf q_placeOf q_onOf q_sticksOf q_page q_savedDepth q_gameSize q_gamePlace q_gameSticks q_gameDepth q_keptDepth q_keptSize q_keptPlace q_keptOn q_keptSticks m_isLawn m_lawns m_wetness m_strength m_days m_balls m_asks m_books m_pageLength m_faultAt m_savedSize m_savedPlace m_savedSticks m_bestSize m_bestFirst m_seedNow m_isKept m_keptLawn m_keptBalls m_keptStrength m_keptDays m_h m_depthOf m_kindOf m_sizeOf m_placeOf m_onOf m_sticksOf m_page m_savedDepth m_gameSize m_gamePlace m_gameSticks m_gameDepth m_keptDepth m_keptSize m_keptPlace m_keptOn m_keptSticks)) (rest := []) (st1 := [.int r_1]) K (c_X8_isBall mh q_depthOf q_kindOf q_sizeOf q_placeOf q_onOf q_sticksOf q_page q_savedDepth q_gameSize q_gamePlace q_gameSticks q_gameDepth q_keptDepth q_keptSize q_keptPlace q_keptOn q_keptSticks m_isLawn m_lawns m_wetness m_strength m_days m_balls m_asks m_books m_pageLength m_faultAt m_savedSize m_savedPlace m_savedSticks m_bestSize m_bestFirst m_seedNow m_isKept m_keptLawn m_keptBalls m_keptStrength m_keptDays m_h m_depthOf m_kindOf m_sizeOf m_placeOf m_onOf m_sticksOf m_page m_savedDepth m_gameSize m_gamePlace m_gameSticks m_gameDepth m_keptDepth m_keptSize m_keptPlace m_keptOn m_keptSticks a1 hq_2) rfl hd_X8_isBall t_733 t_735 ts_13 t_10 t_736 ⟨(Nat.le_of_ble_eq_true rfl), (Nat.le_of_ble_eq_true rfl)⟩ ⟨rfl, rfl⟩ ⟨Nat.zero_le _, Nat.zero_le _⟩ (rv_o K 0 rfl rfl) [0, 1, 2, 3, 4, 5, 6, 7, 8, 9, 10, 11, 12, 13, 14, 15, 16, 17] [] [0, 1, 2, 3, 4, 5, 6, 7, 8, 9, 10, 11, 12, 13, 14, 15, 16, 17] rfl rfl rfl rfl (by decide) rfl rfl rfl rfl (Nat.le_of_ble_eq_true rfl) dX8_lift_2 ?_
  refine s_if_eq (tgt := 21) K dX8_lift_5 (by decide) (fun c_3 => ?_) (fun c_3 => ?_)
  · refine s_bipush K dX8_lift_21 kib_m101 ?_
    exact s_iret K hret hlk rfl rfl dX8_lift_23
  · refine s_aload_n K dX8_lift_8 rfl 0 rfl ?_
    refine s_iload_n K dX8_lift_9 rfl 2 rfl ?_
    refine s_bind (fun q hq_5 => ?_)
    obtain ⟨r_4, rfl⟩ : ∃ z, z = q := ⟨_, rfl⟩
    refine s_callV (w' := (wM cI cC cB cQ kc mh q_depthOf q_kindOf q_sizeOf q_placeOf q_onOf q_sticksOf q_page q_savedDepth q_gameSize q_gamePlace q_gameSticks q_gameDepth q_keptDepth q_keptSize q_keptPlace q_keptOn q_keptSticks m_isLawn m_lawns m_wetness m_strength m_days m_balls m_asks m_books m_pageLength m_faultAt m_savedSize m_savedPlace m_savedSticks m_bestSize m_bestFirst m_seedNow m_isKept m_keptLawn m_keptBalls m_keptStrength m_keptDays m_h m_depthOf m_kindOf m_sizeOf m_placeOf m_onOf m_sticksOf m_page m_savedDepth m_gameSize m_gamePlace m_gameSticks m_gameDepth m_keptDepth m_keptSize m_keptPlace m_keptOn m_keptSticks)) (rest := []) (st1 := [.int r_4]) K (c_X8_isBall mh q_depthOf q_kindOf q_sizeOf q_placeOf q_onOf q_sticksOf q_page q_savedDepth q_gameSize q_gamePlace q_gameSticks q_gameDepth q_keptDepth q_keptSize q_keptPlace q_keptOn q_keptSticks m_isLawn m_lawns m_wetness m_strength m_days m_balls m_asks m_books m_pageLength m_faultAt m_savedSize m_savedPlace m_savedSticks m_bestSize m_bestFirst m_seedNow m_isKept m_keptLawn m_keptBalls m_keptStrength m_keptDays m_h m_depthOf m_kindOf m_sizeOf m_placeOf m_onOf m_sticksOf m_page m_savedDepth m_gameSize m_gamePlace m_gameSticks m_gameDepth m_keptDepth m_keptSize m_keptPlace m_keptOn m_keptSticks a2 hq_5) rfl hd_X8_isBall t_733 t_735 ts_13 t_10 t_736 ⟨(Nat.le_of_ble_eq_true rfl), (Nat.le_of_ble_eq_true rfl)⟩ ⟨rfl, rfl⟩ ⟨Nat.zero_le _, Nat.zero_le _⟩ (rv_o K 0 rfl rfl) [0, 1, 2, 3, 4, 5, 6, 7, 8, 9, 10, 11, 12, 13, 14, 15, 16, 17] [] [0, 1, 2, 3, 4, 5, 6, 7, 8, 9, 10, 11, 12, 13, 14, 15, 16, 17] rfl rfl rfl rfl (by decide) rfl rfl rfl rfl (Nat.le_of_ble_eq_true rfl) dX8_lift_10 ?_
    refine s_if_eq (tgt := 21) K dX8_lift_13 (by decide) (fun c_6 => ?_) (fun c_6 => ?_)
    · refine s_bipush K dX8_lift_21 kib_m101 ?_
      exact s_iret K hret hlk rfl rfl dX8_lift_23
    · refine s_iload_n K dX8_lift_16 rfl 1 rfl ?_
      refine s_iload_n K dX8_lift_17 rfl 2 rfl ?_
      refine s_icmp_ne (tgt := 24) K dX8_lift_18 (by decide) (fun c_7 => ?_) (fun c_7 => ?_)
      · refine s_bipush K dX8_lift_21 kib_m101 ?_
        exact s_iret K hret hlk rfl rfl dX8_lift_23
      · refine s_aload_n K dX8_lift_24 rfl 0 rfl ?_
        refine s_iload_n K dX8_lift_25 rfl 1 rfl ?_
        refine s_iload_n K dX8_lift_26 rfl 2 rfl ?_
        refine s_bind (fun q hq_9 => ?_)
        obtain ⟨r_8, rfl⟩ : ∃ z, z = q := ⟨_, rfl⟩
        refine s_callV (w' := (wM cI cC cB cQ kc mh q_depthOf q_kindOf q_sizeOf q_placeOf q_onOf q_sticksOf q_page q_savedDepth q_gameSize q_gamePlace q_gameSticks q_gameDepth q_keptDepth q_keptSize q_keptPlace q_keptOn q_keptSticks m_isLawn m_lawns m_wetness m_strength m_days m_balls m_asks m_books m_pageLength m_faultAt m_savedSize m_savedPlace m_savedSticks m_bestSize m_bestFirst m_seedNow m_isKept m_keptLawn m_keptBalls m_keptStrength m_keptDays m_h m_depthOf m_kindOf m_sizeOf m_placeOf m_onOf m_sticksOf m_page m_savedDepth m_gameSize m_gamePlace m_gameSticks m_gameDepth m_keptDepth m_keptSize m_keptPlace m_keptOn m_keptSticks)) (rest := []) (st1 := [.int r_8]) K (c_X8_mayLift mh q_depthOf q_kindOf q_sizeOf q_placeOf q_onOf q_sticksOf q_page q_savedDepth q_gameSize q_gamePlace q_gameSticks q_gameDepth q_keptDepth q_keptSize q_keptPlace q_keptOn q_keptSticks m_isLawn m_lawns m_wetness m_strength m_days m_balls m_asks m_books m_pageLength m_faultAt m_savedSize m_savedPlace m_savedSticks m_bestSize m_bestFirst m_seedNow m_isKept m_keptLawn m_keptBalls m_keptStrength m_keptDays m_h m_depthOf m_kindOf m_sizeOf m_placeOf m_onOf m_sticksOf m_page m_savedDepth m_gameSize m_gamePlace m_gameSticks m_gameDepth m_keptDepth m_keptSize m_keptPlace m_keptOn m_keptSticks a1 a2 hq_9) rfl hd_X8_mayLift t_784 t_786 ts_21 t_10 t_787 ⟨(Nat.le_of_ble_eq_true rfl), (Nat.le_of_ble_eq_true rfl)⟩ ⟨rfl, rfl⟩ ⟨Nat.zero_le _, Nat.zero_le _⟩ (rv_o K 0 rfl rfl) [0, 1, 2, 3, 4, 5, 6, 7, 8, 9, 10, 11, 12, 13, 14, 15, 16, 17] [] [0, 1, 2, 3, 4, 5, 6, 7, 8, 9, 10, 11, 12, 13, 14, 15, 16, 17] rfl rfl rfl rfl (by decide) rfl rfl rfl rfl (Nat.le_of_ble_eq_true rfl) dX8_lift_27 ?_
        refine s_if_ne (tgt := 36) K dX8_lift_30 (by decide) (fun c_10 => ?_) (fun c_10 => ?_)
        · refine s_bipush K dX8_lift_33 kib_m103 ?_
          exact s_iret K hret hlk rfl rfl dX8_lift_35
        · refine s_aload_n K dX8_lift_36 rfl 0 rfl ?_
          refine s_get K 0 rfl rfl inT8 9 (Nat.le_of_ble_eq_true rfl) t_562 rfl rfl dX8_lift_37 ?_
          refine s_iload_n K dX8_lift_40 rfl 1 rfl ?_
          refine s_aload_n K dX8_lift_41 rfl 0 rfl ?_
          refine s_get K 0 rfl rfl inT8 9 (Nat.le_of_ble_eq_true rfl) t_562 rfl rfl dX8_lift_42 ?_
          refine s_iload_n K dX8_lift_45 rfl 2 rfl ?_
          refine s_ck (fun ho_11 => ?_)
          refine s_iald K 4 0 rfl rfl (ok_in ho_11) rfl dX8_lift_46 ?_
          refine s_ck (fun ho_12 => ?_)
          refine s_iast (w' := (wM cI cC cB cQ kc mh q_depthOf q_kindOf q_sizeOf q_placeOf q_onOf q_sticksOf q_page q_savedDepth q_gameSize q_gamePlace q_gameSticks q_gameDepth q_keptDepth q_keptSize q_keptPlace q_keptOn q_keptSticks m_isLawn m_lawns m_wetness m_strength m_days m_balls m_asks m_books m_pageLength m_faultAt m_savedSize m_savedPlace m_savedSticks m_bestSize m_bestFirst m_seedNow m_isKept m_keptLawn m_keptBalls m_keptStrength m_keptDays m_h m_depthOf m_kindOf m_sizeOf (upd m_placeOf (Int32.toNatClampNeg a1) (m_placeOf (Int32.toNatClampNeg a2))) m_onOf m_sticksOf m_page m_savedDepth m_gameSize m_gamePlace m_gameSticks m_gameDepth m_keptDepth m_keptSize m_keptPlace m_keptOn m_keptSticks)) K 4 0 rfl rfl (ok_in ho_12) rfl rfl dX8_lift_47 ?_
          refine s_aload_n K dX8_lift_48 rfl 0 rfl ?_
          refine s_get K 0 rfl rfl inT8 10 (Nat.le_of_ble_eq_true rfl) t_563 rfl rfl dX8_lift_49 ?_
          refine s_iload_n K dX8_lift_52 rfl 1 rfl ?_
          refine s_iload_n K dX8_lift_53 rfl 2 rfl ?_
          refine s_iast (w' := (wM cI cC cB cQ kc mh q_depthOf q_kindOf q_sizeOf q_placeOf q_onOf q_sticksOf q_page q_savedDepth q_gameSize q_gamePlace q_gameSticks q_gameDepth q_keptDepth q_keptSize q_keptPlace q_keptOn q_keptSticks m_isLawn m_lawns m_wetness m_strength m_days m_balls m_asks m_books m_pageLength m_faultAt m_savedSize m_savedPlace m_savedSticks m_bestSize m_bestFirst m_seedNow m_isKept m_keptLawn m_keptBalls m_keptStrength m_keptDays m_h m_depthOf m_kindOf m_sizeOf (upd m_placeOf (Int32.toNatClampNeg a1) (m_placeOf (Int32.toNatClampNeg a2))) (upd m_onOf (Int32.toNatClampNeg a1) a2) m_sticksOf m_page m_savedDepth m_gameSize m_gamePlace m_gameSticks m_gameDepth m_keptDepth m_keptSize m_keptPlace m_keptOn m_keptSticks)) K 5 0 rfl rfl (ok_in ho_12) rfl rfl dX8_lift_54 ?_
          refine s_aload_n K dX8_lift_55 rfl 0 rfl ?_
          refine s_aload_n K dX8_lift_56 rfl 0 rfl ?_
          refine s_get K 0 rfl rfl inT8 9 (Nat.le_of_ble_eq_true rfl) t_562 rfl rfl dX8_lift_57 ?_
          refine s_iload_n K dX8_lift_60 rfl 2 rfl ?_
          refine s_iald K 4 0 rfl rfl (ok_in ho_11) rfl dX8_lift_61 ?_
          refine s_bind (fun q hq_14 => ?_)
          obtain ⟨r_13, rfl⟩ : ∃ z, z = q := ⟨_, rfl⟩
          refine s_callV (w' := (wM cI cC cB cQ kc mh q_depthOf q_kindOf q_sizeOf q_placeOf q_onOf q_sticksOf q_page q_savedDepth q_gameSize q_gamePlace q_gameSticks q_gameDepth q_keptDepth q_keptSize q_keptPlace q_keptOn q_keptSticks m_isLawn m_lawns m_wetness m_strength m_days m_balls m_asks m_books m_pageLength m_faultAt m_savedSize m_savedPlace m_savedSticks m_bestSize m_bestFirst m_seedNow m_isKept m_keptLawn m_keptBalls m_keptStrength m_keptDays m_h m_depthOf m_kindOf m_sizeOf (upd m_placeOf (Int32.toNatClampNeg a1) (m_placeOf (Int32.toNatClampNeg a2))) (upd m_onOf (Int32.toNatClampNeg a1) a2) m_sticksOf m_page m_savedDepth m_gameSize m_gamePlace m_gameSticks m_gameDepth m_keptDepth m_keptSize m_keptPlace m_keptOn m_keptSticks)) (rest := []) (st1 := [.int r_13]) K (c_X8_heightOf mh q_depthOf q_kindOf q_sizeOf q_placeOf q_onOf q_sticksOf q_page q_savedDepth q_gameSize q_gamePlace q_gameSticks q_gameDepth q_keptDepth q_keptSize q_keptPlace q_keptOn q_keptSticks m_isLawn m_lawns m_wetness m_strength m_days m_balls m_asks m_books m_pageLength m_faultAt m_savedSize m_savedPlace m_savedSticks m_bestSize m_bestFirst m_seedNow m_isKept m_keptLawn m_keptBalls m_keptStrength m_keptDays m_h m_depthOf m_kindOf m_sizeOf (upd m_placeOf (Int32.toNatClampNeg a1) (m_placeOf (Int32.toNatClampNeg a2))) (upd m_onOf (Int32.toNatClampNeg a1) a2) m_sticksOf m_page m_savedDepth m_gameSize m_gamePlace m_gameSticks m_gameDepth m_keptDepth m_keptSize m_keptPlace m_keptOn m_keptSticks ((upd m_placeOf (Int32.toNatClampNeg a1) (m_placeOf (Int32.toNatClampNeg a2))) (Int32.toNatClampNeg a2)) hq_14) rfl hd_X8_heightOf t_710 t_712 ts_11 t_10 t_713 ⟨(Nat.le_of_ble_eq_true rfl), (Nat.le_of_ble_eq_true rfl)⟩ ⟨rfl, rfl⟩ ⟨Nat.zero_le _, Nat.zero_le _⟩ (rv_o K 0 rfl rfl) [0, 1, 2, 3, 4, 5, 6, 7, 8, 9, 10, 11, 12, 13, 14, 15, 16, 17] [] [0, 1, 2, 3, 4, 5, 6, 7, 8, 9, 10, 11, 12, 13, 14, 15, 16, 17] rfl rfl rfl rfl (by decide) rfl rfl rfl rfl (Nat.le_of_ble_eq_true rfl) dX8_lift_62 ?_
          exact s_iret K hret hlk rfl rfl dX8_lift_65
set_option maxHeartbeats 4000000 in
set_option maxRecDepth 100000 in
theorem c_X8_loss {l : Launch} {D : va_G} {cI cC cB cQ : ClassId} {kc : Nat → Nat} {kt : Nat} (a0 a1 : Int32) {r : Int32} (hF : f_X8_loss a0 a1 = some r) : CT l D (tysOf cI cC cB cQ) kc kt yX8_loss cX8_loss 2 (some .int) ({ frames := 1, cells := 0, slots := 0, locals := 40 } : Room) [.int a0, .int a1] [] ((fun (r : Int32) => []) r) ((fun (r : Int32) => some (.int r)) r) := by
  refine CT.of (ww := (fun (r : Int32) => [])) (oo := (fun (r : Int32) => some (.int r))) hF RX8 rfl rfl (Nat.le_of_ble_eq_true rfl) ?_
  intro p e s m args below meth c A K hret hlk
  rewrite [f_X8_loss]
  refine s_iload_n K dX8_loss_0 rfl 0 rfl ?_
  refine s_iconst K dX8_loss_1 kic_4 ?_
  refine s_icmp_ne (tgt := 11) K dX8_loss_2 (by decide) (fun c_1 => ?_) (fun c_1 => ?_)
  · refine s_iconst K dX8_loss_5 kic_2 ?_
    refine s_iload_n K dX8_loss_6 rfl 1 rfl ?_
    refine s_imul K dX8_loss_7 ?_
    refine s_goto (tgt := 23) K dX8_loss_8 (by decide) ?_
    exact s_iret K hret hlk rfl rfl dX8_loss_23
  · refine s_iload_n K dX8_loss_11 rfl 0 rfl ?_
    refine s_iconst K dX8_loss_12 kic_1 ?_
    refine s_icmp_ne (tgt := 22) K dX8_loss_13 (by decide) (fun c_2 => ?_) (fun c_2 => ?_)
    · refine s_iload_n K dX8_loss_16 rfl 1 rfl ?_
      refine s_iconst K dX8_loss_17 kic_1 ?_
      refine s_iadd K dX8_loss_18 ?_
      refine s_goto (tgt := 23) K dX8_loss_19 (by decide) ?_
      exact s_iret K hret hlk rfl rfl dX8_loss_23
    · refine s_iload_n K dX8_loss_22 rfl 1 rfl ?_
      exact s_iret K hret hlk rfl rfl dX8_loss_23
set_option maxHeartbeats 4000000 in
set_option maxRecDepth 100000 in
theorem c_X8_goAway {l : Launch} {D : va_G} {cI cC cB cQ : ClassId} {kc : Nat → Nat} {kt : Nat} (mh q_depthOf q_kindOf q_sizeOf q_placeOf q_onOf q_sticksOf q_page q_savedDepth q_gameSize q_gamePlace q_gameSticks q_gameDepth q_keptDepth q_keptSize q_keptPlace q_keptOn q_keptSticks : Nat) (m_isLawn m_lawns m_wetness m_strength m_days m_balls m_asks m_books m_pageLength m_faultAt m_savedSize m_savedPlace m_savedSticks m_bestSize m_bestFirst : Int32) (m_seedNow : Int64) (m_isKept m_keptLawn m_keptBalls m_keptStrength m_keptDays : Int32) (m_h : Int64) (m_depthOf m_kindOf m_sizeOf m_placeOf m_onOf m_sticksOf m_page m_savedDepth m_gameSize m_gamePlace m_gameSticks m_gameDepth m_keptDepth m_keptSize m_keptPlace m_keptOn m_keptSticks : Nat → Int32) (a1 : Int32) {r : (Nat → Int32) × (Nat → Int32)} (hF : f_X8_goAway m_balls m_placeOf m_onOf a1 = some r) : CT l D (tysOf cI cC cB cQ) kc kt yX8_goAway cX8_goAway 4 none ({ frames := 1, cells := 0, slots := 0, locals := 40 } : Room) [.ref mh, .int a1] (wM cI cC cB cQ kc mh q_depthOf q_kindOf q_sizeOf q_placeOf q_onOf q_sticksOf q_page q_savedDepth q_gameSize q_gamePlace q_gameSticks q_gameDepth q_keptDepth q_keptSize q_keptPlace q_keptOn q_keptSticks m_isLawn m_lawns m_wetness m_strength m_days m_balls m_asks m_books m_pageLength m_faultAt m_savedSize m_savedPlace m_savedSticks m_bestSize m_bestFirst m_seedNow m_isKept m_keptLawn m_keptBalls m_keptStrength m_keptDays m_h m_depthOf m_kindOf m_sizeOf m_placeOf m_onOf m_sticksOf m_page m_savedDepth m_gameSize m_gamePlace m_gameSticks m_gameDepth m_keptDepth m_keptSize m_keptPlace m_keptOn m_keptSticks) ((fun (r : (Nat → Int32) × (Nat → Int32)) => (wM cI cC cB cQ kc mh q_depthOf q_kindOf q_sizeOf q_placeOf q_onOf q_sticksOf q_page q_savedDepth q_gameSize q_gamePlace q_gameSticks q_gameDepth q_keptDepth q_keptSize q_keptPlace q_keptOn q_keptSticks m_isLawn m_lawns m_wetness m_strength m_days m_balls m_asks m_books m_pageLength m_faultAt m_savedSize m_savedPlace m_savedSticks m_bestSize m_bestFirst m_seedNow m_isKept m_keptLawn m_keptBalls m_keptStrength m_keptDays m_h m_depthOf m_kindOf m_sizeOf (r.1) (r.2) m_sticksOf m_page m_savedDepth m_gameSize m_gamePlace m_gameSticks m_gameDepth m_keptDepth m_keptSize m_keptPlace m_keptOn m_keptSticks)) r) ((fun (r : (Nat → Int32) × (Nat → Int32)) => none) r) := by
  refine CT.of (ww := (fun (r : (Nat → Int32) × (Nat → Int32)) => (wM cI cC cB cQ kc mh q_depthOf q_kindOf q_sizeOf q_placeOf q_onOf q_sticksOf q_page q_savedDepth q_gameSize q_gamePlace q_gameSticks q_gameDepth q_keptDepth q_keptSize q_keptPlace q_keptOn q_keptSticks m_isLawn m_lawns m_wetness m_strength m_days m_balls m_asks m_books m_pageLength m_faultAt m_savedSize m_savedPlace m_savedSticks m_bestSize m_bestFirst m_seedNow m_isKept m_keptLawn m_keptBalls m_keptStrength m_keptDays m_h m_depthOf m_kindOf m_sizeOf (r.1) (r.2) m_sticksOf m_page m_savedDepth m_gameSize m_gamePlace m_gameSticks m_gameDepth m_keptDepth m_keptSize m_keptPlace m_keptOn m_keptSticks))) (oo := (fun (r : (Nat → Int32) × (Nat → Int32)) => none)) hF RX8 rfl rfl (Nat.le_of_ble_eq_true rfl) ?_
  intro p e s m args below meth c A K hret hlk
  have L23 : ∀ (fu : Nat) (m_placeOf m_onOf : Nat → Int32) (x2 x3 : Int32), Sw (ρ := (Nat → Int32) × (Nat → Int32)) p l e ({ frames := 1, cells := 0, slots := 0, locals := 40 } : Room) s m args below meth c 0 0 D A 4 (fun r => MQ below (CQ D ((fun (r : (Nat → Int32) × (Nat → Int32)) => (wM cI cC cB cQ kc mh q_depthOf q_kindOf q_sizeOf q_placeOf q_onOf q_sticksOf q_page q_savedDepth q_gameSize q_gamePlace q_gameSticks q_gameDepth q_keptDepth q_keptSize q_keptPlace q_keptOn q_keptSticks m_isLawn m_lawns m_wetness m_strength m_days m_balls m_asks m_books m_pageLength m_faultAt m_savedSize m_savedPlace m_savedSticks m_bestSize m_bestFirst m_seedNow m_isKept m_keptLawn m_keptBalls m_keptStrength m_keptDays m_h m_depthOf m_kindOf m_sizeOf (r.1) (r.2) m_sticksOf m_page m_savedDepth m_gameSize m_gamePlace m_gameSticks m_gameDepth m_keptDepth m_keptSize m_keptPlace m_keptOn m_keptSticks)) r) ((fun (r : (Nat → Int32) × (Nat → Int32)) => none) r) A) args s 0 0 A) (f_X8_goAway_h23 m_balls a1 fu m_placeOf m_onOf x2 x3) (wM cI cC cB cQ kc mh q_depthOf q_kindOf q_sizeOf q_placeOf q_onOf q_sticksOf q_page q_savedDepth q_gameSize q_gamePlace q_gameSticks q_gameDepth q_keptDepth q_keptSize q_keptPlace q_keptOn q_keptSticks m_isLawn m_lawns m_wetness m_strength m_days m_balls m_asks m_books m_pageLength m_faultAt m_savedSize m_savedPlace m_savedSticks m_bestSize m_bestFirst m_seedNow m_isKept m_keptLawn m_keptBalls m_keptStrength m_keptDays m_h m_depthOf m_kindOf m_sizeOf m_placeOf m_onOf m_sticksOf m_page m_savedDepth m_gameSize m_gamePlace m_gameSticks m_gameDepth m_keptDepth m_keptSize m_keptPlace m_keptOn m_keptSticks) [(0, .ref mh), (1, .int a1), (2, .int x2), (3, .int x3)] 23 [] := by
    intro  fu
    induction fu with
    | zero =>
      intro m_placeOf m_onOf x2 x3
      rewrite [f_X8_goAway_h23]
      exact s_none
    | succ fu ih =>
      intro m_placeOf m_onOf x2 x3
      rewrite [f_X8_goAway_h23]
      refine s_iload_n K dX8_goAway_23 rfl 3 rfl ?_
      refine s_aload_n K dX8_goAway_24 rfl 0 rfl ?_
      refine s_get K 0 rfl rfl inT8 6 (Nat.le_of_ble_eq_true rfl) t_559 rfl rfl dX8_goAway_25 ?_
      refine s_icmp_ge (tgt := 63) K dX8_goAway_28 (by decide) (fun c_2 => ?_) (fun c_2 => ?_)
      · exact s_vret K hret hlk rfl rfl dX8_goAway_63
      · refine s_aload_n K dX8_goAway_31 rfl 0 rfl ?_
        refine s_get K 0 rfl rfl inT8 10 (Nat.le_of_ble_eq_true rfl) t_563 rfl rfl dX8_goAway_32 ?_
        refine s_iload_n K dX8_goAway_35 rfl 3 rfl ?_
        refine s_aload_n K dX8_goAway_36 rfl 0 rfl ?_
        refine s_get K 0 rfl rfl inT8 10 (Nat.le_of_ble_eq_true rfl) t_563 rfl rfl dX8_goAway_37 ?_
        refine s_iload_n K dX8_goAway_40 rfl 3 rfl ?_
        refine s_ck (fun ho_3 => ?_)
        refine s_iald K 5 0 rfl rfl (ok_in ho_3) rfl dX8_goAway_41 ?_
        refine s_iload_n K dX8_goAway_42 rfl 1 rfl ?_
        refine s_icmp_ne (tgt := 50) K dX8_goAway_43 (by decide) (fun c_4 => ?_) (fun c_4 => ?_)
        · refine s_iload_n K dX8_goAway_46 rfl 2 rfl ?_
          refine s_goto (tgt := 56) K dX8_goAway_47 (by decide) ?_
          refine s_iast (w' := (wM cI cC cB cQ kc mh q_depthOf q_kindOf q_sizeOf q_placeOf q_onOf q_sticksOf q_page q_savedDepth q_gameSize q_gamePlace q_gameSticks q_gameDepth q_keptDepth q_keptSize q_keptPlace q_keptOn q_keptSticks m_isLawn m_lawns m_wetness m_strength m_days m_balls m_asks m_books m_pageLength m_faultAt m_savedSize m_savedPlace m_savedSticks m_bestSize m_bestFirst m_seedNow m_isKept m_keptLawn m_keptBalls m_keptStrength m_keptDays m_h m_depthOf m_kindOf m_sizeOf m_placeOf (upd m_onOf (Int32.toNatClampNeg x3) x2) m_sticksOf m_page m_savedDepth m_gameSize m_gamePlace m_gameSticks m_gameDepth m_keptDepth m_keptSize m_keptPlace m_keptOn m_keptSticks)) K 5 0 rfl rfl (ok_in ho_3) rfl rfl dX8_goAway_56 ?_
          refine s_iinc (lv' := [(3, .int (x3 + 1)), (0, .ref mh), (1, .int a1), (2, .int x2)]) K dX8_goAway_57 3 rfl (kii_1 _) (Nat.le_of_ble_eq_true rfl) rfl ?_
          refine s_goto (tgt := 23) K dX8_goAway_60 (by decide) ?_
          refine s_lv (lv' := [(0, .ref mh), (1, .int a1), (2, .int x2), (3, .int (x3 + 1))]) [1, 2, 3, 0] rfl ?_
          exact ih m_placeOf (upd m_onOf (Int32.toNatClampNeg x3) x2) x2 (x3 + 1)
        · refine s_aload_n K dX8_goAway_50 rfl 0 rfl ?_
          refine s_get K 0 rfl rfl inT8 10 (Nat.le_of_ble_eq_true rfl) t_563 rfl rfl dX8_goAway_51 ?_
          refine s_iload_n K dX8_goAway_54 rfl 3 rfl ?_
          refine s_iald K 5 0 rfl rfl (ok_in ho_3) rfl dX8_goAway_55 ?_
          refine s_iast (w' := (wM cI cC cB cQ kc mh q_depthOf q_kindOf q_sizeOf q_placeOf q_onOf q_sticksOf q_page q_savedDepth q_gameSize q_gamePlace q_gameSticks q_gameDepth q_keptDepth q_keptSize q_keptPlace q_keptOn q_keptSticks m_isLawn m_lawns m_wetness m_strength m_days m_balls m_asks m_books m_pageLength m_faultAt m_savedSize m_savedPlace m_savedSticks m_bestSize m_bestFirst m_seedNow m_isKept m_keptLawn m_keptBalls m_keptStrength m_keptDays m_h m_depthOf m_kindOf m_sizeOf m_placeOf (upd m_onOf (Int32.toNatClampNeg x3) (m_onOf (Int32.toNatClampNeg x3))) m_sticksOf m_page m_savedDepth m_gameSize m_gamePlace m_gameSticks m_gameDepth m_keptDepth m_keptSize m_keptPlace m_keptOn m_keptSticks)) K 5 0 rfl rfl (ok_in ho_3) rfl rfl dX8_goAway_56 ?_
          refine s_iinc (lv' := [(3, .int (x3 + 1)), (0, .ref mh), (1, .int a1), (2, .int x2)]) K dX8_goAway_57 3 rfl (kii_1 _) (Nat.le_of_ble_eq_true rfl) rfl ?_
          refine s_goto (tgt := 23) K dX8_goAway_60 (by decide) ?_
          refine s_lv (lv' := [(0, .ref mh), (1, .int a1), (2, .int x2), (3, .int (x3 + 1))]) [1, 2, 3, 0] rfl ?_
          exact ih m_placeOf (upd m_onOf (Int32.toNatClampNeg x3) (m_onOf (Int32.toNatClampNeg x3))) x2 (x3 + 1)
  rewrite [f_X8_goAway]
  refine s_aload_n K dX8_goAway_0 rfl 0 rfl ?_
  refine s_get K 0 rfl rfl inT8 10 (Nat.le_of_ble_eq_true rfl) t_563 rfl rfl dX8_goAway_1 ?_
  refine s_iload_n K dX8_goAway_4 rfl 1 rfl ?_
  refine s_ck (fun ho_1 => ?_)
  refine s_iald K 5 0 rfl rfl (ok_in ho_1) rfl dX8_goAway_5 ?_
  refine s_istore_n (lv' := [(2, .int (m_onOf (Int32.toNatClampNeg a1))), (0, .ref mh), (1, .int a1)]) K dX8_goAway_6 rfl (Nat.le_of_ble_eq_true rfl) rfl ?_
  refine s_aload_n K dX8_goAway_7 rfl 1 rfl ?_
  refine s_get K 0 rfl rfl inT8 9 (Nat.le_of_ble_eq_true rfl) t_562 rfl rfl dX8_goAway_8 ?_
  refine s_iload_n K dX8_goAway_11 rfl 2 rfl ?_
  refine s_iconst K dX8_goAway_12 kic_m1 ?_
  refine s_iast (w' := (wM cI cC cB cQ kc mh q_depthOf q_kindOf q_sizeOf q_placeOf q_onOf q_sticksOf q_page q_savedDepth q_gameSize q_gamePlace q_gameSticks q_gameDepth q_keptDepth q_keptSize q_keptPlace q_keptOn q_keptSticks m_isLawn m_lawns m_wetness m_strength m_days m_balls m_asks m_books m_pageLength m_faultAt m_savedSize m_savedPlace m_savedSticks m_bestSize m_bestFirst m_seedNow m_isKept m_keptLawn m_keptBalls m_keptStrength m_keptDays m_h m_depthOf m_kindOf m_sizeOf (upd m_placeOf (Int32.toNatClampNeg a1) (-1)) m_onOf m_sticksOf m_page m_savedDepth m_gameSize m_gamePlace m_gameSticks m_gameDepth m_keptDepth m_keptSize m_keptPlace m_keptOn m_keptSticks)) K 4 0 rfl rfl (ok_in ho_1) rfl rfl dX8_goAway_13 ?_
  refine s_aload_n K dX8_goAway_14 rfl 1 rfl ?_
  refine s_get K 0 rfl rfl inT8 10 (Nat.le_of_ble_eq_true rfl) t_563 rfl rfl dX8_goAway_15 ?_
  refine s_iload_n K dX8_goAway_18 rfl 2 rfl ?_
  refine s_iconst K dX8_goAway_19 kic_m1 ?_
  refine s_iast (w' := (wM cI cC cB cQ kc mh q_depthOf q_kindOf q_sizeOf q_placeOf q_onOf q_sticksOf q_page q_savedDepth q_gameSize q_gamePlace q_gameSticks q_gameDepth q_keptDepth q_keptSize q_keptPlace q_keptOn q_keptSticks m_isLawn m_lawns m_wetness m_strength m_days m_balls m_asks m_books m_pageLength m_faultAt m_savedSize m_savedPlace m_savedSticks m_bestSize m_bestFirst m_seedNow m_isKept m_keptLawn m_keptBalls m_keptStrength m_keptDays m_h m_depthOf m_kindOf m_sizeOf (upd m_placeOf (Int32.toNatClampNeg a1) (-1)) (upd m_onOf (Int32.toNatClampNeg a1) (-1)) m_sticksOf m_page m_savedDepth m_gameSize m_gamePlace m_gameSticks m_gameDepth m_keptDepth m_keptSize m_keptPlace m_keptOn m_keptSticks)) K 5 0 rfl rfl (ok_in ho_1) rfl rfl dX8_goAway_20 ?_
  refine s_iconst K dX8_goAway_21 kic_0 ?_
  refine s_istore_n (lv' := [(3, .int 0), (2, .int (m_onOf (Int32.toNatClampNeg a1))), (0, .ref mh), (1, .int a1)]) K dX8_goAway_22 rfl (Nat.le_of_ble_eq_true rfl) rfl ?_
  refine s_lv (lv' := [(0, .ref mh), (1, .int a1), (2, .int (m_onOf (Int32.toNatClampNeg a1))), (3, .int 0)]) [2, 3, 1, 0] rfl ?_
  exact L23 70 (upd m_placeOf (Int32.toNatClampNeg a1) (-1)) (upd m_onOf (Int32.toNatClampNeg a1) (-1)) (m_onOf (Int32.toNatClampNeg a1)) 0
set_option maxHeartbeats 4000000 in
set_option maxRecDepth 100000 in
theorem c_X8_day {l : Launch} {D : va_G} {cI cC cB cQ : ClassId} {kc : Nat → Nat} {kt : Nat} (mh q_depthOf q_kindOf q_sizeOf q_placeOf q_onOf q_sticksOf q_page q_savedDepth q_gameSize q_gamePlace q_gameSticks q_gameDepth q_keptDepth q_keptSize q_keptPlace q_keptOn q_keptSticks : Nat) (m_isLawn m_lawns m_wetness m_strength m_days m_balls m_asks m_books m_pageLength m_faultAt m_savedSize m_savedPlace m_savedSticks m_bestSize m_bestFirst : Int32) (m_seedNow : Int64) (m_isKept m_keptLawn m_keptBalls m_keptStrength m_keptDays : Int32) (m_h : Int64) (m_depthOf m_kindOf m_sizeOf m_placeOf m_onOf m_sticksOf m_page m_savedDepth m_gameSize m_gamePlace m_gameSticks m_gameDepth m_keptDepth m_keptSize m_keptPlace m_keptOn m_keptSticks : Nat → Int32) (a1 : Int32) {r : Int32 × Int32 × (Nat → Int32) × (Nat → Int32) × (Nat → Int32)} (hF : f_X8_day m_isLawn m_days m_balls m_kindOf m_sizeOf m_placeOf m_onOf a1 = some r) : CT l D (tysOf cI cC cB cQ) kc kt yX8_day cX8_day 5 (some .int) ({ frames := 2, cells := 0, slots := 0, locals := 103 } : Room) [.ref mh, .int a1] (wM cI cC cB cQ kc mh q_depthOf q_kindOf q_sizeOf q_placeOf q_onOf q_sticksOf q_page q_savedDepth q_gameSize q_gamePlace q_gameSticks q_gameDepth q_keptDepth q_keptSize q_keptPlace q_keptOn q_keptSticks m_isLawn m_lawns m_wetness m_strength m_days m_balls m_asks m_books m_pageLength m_faultAt m_savedSize m_savedPlace m_savedSticks m_bestSize m_bestFirst m_seedNow m_isKept m_keptLawn m_keptBalls m_keptStrength m_keptDays m_h m_depthOf m_kindOf m_sizeOf m_placeOf m_onOf m_sticksOf m_page m_savedDepth m_gameSize m_gamePlace m_gameSticks m_gameDepth m_keptDepth m_keptSize m_keptPlace m_keptOn m_keptSticks) ((fun (r : Int32 × Int32 × (Nat → Int32) × (Nat → Int32) × (Nat → Int32)) => (wM cI cC cB cQ kc mh q_depthOf q_kindOf q_sizeOf q_placeOf q_onOf q_sticksOf q_page q_savedDepth q_gameSize q_gamePlace q_gameSticks q_gameDepth q_keptDepth q_keptSize q_keptPlace q_keptOn q_keptSticks m_isLawn m_lawns m_wetness m_strength (r.2.1) m_balls m_asks m_books m_pageLength m_faultAt m_savedSize m_savedPlace m_savedSticks m_bestSize m_bestFirst m_seedNow m_isKept m_keptLawn m_keptBalls m_keptStrength m_keptDays m_h m_depthOf m_kindOf (r.2.2.1) (r.2.2.2.1) (r.2.2.2.2) m_sticksOf m_page m_savedDepth m_gameSize m_gamePlace m_gameSticks m_gameDepth m_keptDepth m_keptSize m_keptPlace m_keptOn m_keptSticks)) r) ((fun (r : Int32 × Int32 × (Nat → Int32) × (Nat → Int32) × (Nat → Int32)) => some (.int (r.1))) r) := by
  refine CT.of (ww := (fun (r : Int32 × Int32 × (Nat → Int32) × (Nat → Int32) × (Nat → Int32)) => (wM cI cC cB cQ kc mh q_depthOf q_kindOf q_sizeOf q_placeOf q_onOf q_sticksOf q_page q_savedDepth q_gameSize q_gamePlace q_gameSticks q_gameDepth q_keptDepth q_keptSize q_keptPlace q_keptOn q_keptSticks m_isLawn m_lawns m_wetness m_strength (r.2.1) m_balls m_asks m_books m_pageLength m_faultAt m_savedSize m_savedPlace m_savedSticks m_bestSize m_bestFirst m_seedNow m_isKept m_keptLawn m_keptBalls m_keptStrength m_keptDays m_h m_depthOf m_kindOf (r.2.2.1) (r.2.2.2.1) (r.2.2.2.2) m_sticksOf m_page m_savedDepth m_gameSize m_gamePlace m_gameSticks m_gameDepth m_keptDepth m_keptSize m_keptPlace m_keptOn m_keptSticks))) (oo := (fun (r : Int32 × Int32 × (Nat → Int32) × (Nat → Int32) × (Nat → Int32)) => some (.int (r.1)))) hF RX8 rfl rfl (Nat.le_of_ble_eq_true rfl) ?_
  intro p e s m args below meth c A K hret hlk
  have L89 : ∀ (fu : Nat) (m_sizeOf m_placeOf m_onOf : Nat → Int32) (x2 x3 : Int32), Sw (ρ := Int32 × Int32 × (Nat → Int32) × (Nat → Int32) × (Nat → Int32)) p l e ({ frames := 2, cells := 0, slots := 0, locals := 103 } : Room) s m args below meth c 0 0 D A 5 (fun r => MQ below (CQ D ((fun (r : Int32 × Int32 × (Nat → Int32) × (Nat → Int32) × (Nat → Int32)) => (wM cI cC cB cQ kc mh q_depthOf q_kindOf q_sizeOf q_placeOf q_onOf q_sticksOf q_page q_savedDepth q_gameSize q_gamePlace q_gameSticks q_gameDepth q_keptDepth q_keptSize q_keptPlace q_keptOn q_keptSticks m_isLawn m_lawns m_wetness m_strength (r.2.1) m_balls m_asks m_books m_pageLength m_faultAt m_savedSize m_savedPlace m_savedSticks m_bestSize m_bestFirst m_seedNow m_isKept m_keptLawn m_keptBalls m_keptStrength m_keptDays m_h m_depthOf m_kindOf (r.2.2.1) (r.2.2.2.1) (r.2.2.2.2) m_sticksOf m_page m_savedDepth m_gameSize m_gamePlace m_gameSticks m_gameDepth m_keptDepth m_keptSize m_keptPlace m_keptOn m_keptSticks)) r) ((fun (r : Int32 × Int32 × (Nat → Int32) × (Nat → Int32) × (Nat → Int32)) => some (.int (r.1))) r) A) args s 0 0 A) (f_X8_day_h89 m_days m_balls fu m_sizeOf m_placeOf m_onOf x2 x3) (wM cI cC cB cQ kc mh q_depthOf q_kindOf q_sizeOf q_placeOf q_onOf q_sticksOf q_page q_savedDepth q_gameSize q_gamePlace q_gameSticks q_gameDepth q_keptDepth q_keptSize q_keptPlace q_keptOn q_keptSticks m_isLawn m_lawns m_wetness m_strength m_days m_balls m_asks m_books m_pageLength m_faultAt m_savedSize m_savedPlace m_savedSticks m_bestSize m_bestFirst m_seedNow m_isKept m_keptLawn m_keptBalls m_keptStrength m_keptDays m_h m_depthOf m_kindOf m_sizeOf m_placeOf m_onOf m_sticksOf m_page m_savedDepth m_gameSize m_gamePlace m_gameSticks m_gameDepth m_keptDepth m_keptSize m_keptPlace m_keptOn m_keptSticks) [(0, .ref mh), (2, .int x2), (3, .int x3)] 89 [] := by
    intro  fu
    induction fu with
    | zero =>
      intro m_sizeOf m_placeOf m_onOf x2 x3
      rewrite [f_X8_day_h89]
      exact s_none
    | succ fu ih =>
      intro m_sizeOf m_placeOf m_onOf x2 x3
      rewrite [f_X8_day_h89]
      refine s_iload_n K dX8_day_89 rfl 2 rfl ?_
      refine s_aload_n K dX8_day_90 rfl 0 rfl ?_
      refine s_get K 0 rfl rfl inT8 6 (Nat.le_of_ble_eq_true rfl) t_559 rfl rfl dX8_day_91 ?_
      refine s_icmp_ge (tgt := 130) K dX8_day_94 (by decide) (fun c_11 => ?_) (fun c_11 => ?_)
      · refine s_aload_n K dX8_day_130 rfl 0 rfl ?_
        refine s_dup K dX8_day_131 rfl ?_
        refine s_get K 0 rfl rfl inT8 5 (Nat.le_of_ble_eq_true rfl) t_558 rfl rfl dX8_day_132 ?_
        refine s_iconst K dX8_day_135 kic_1 ?_
        refine s_iadd K dX8_day_136 ?_
        refine s_put (w' := (wM cI cC cB cQ kc mh q_depthOf q_kindOf q_sizeOf q_placeOf q_onOf q_sticksOf q_page q_savedDepth q_gameSize q_gamePlace q_gameSticks q_gameDepth q_keptDepth q_keptSize q_keptPlace q_keptOn q_keptSticks m_isLawn m_lawns m_wetness m_strength (m_days + 1) m_balls m_asks m_books m_pageLength m_faultAt m_savedSize m_savedPlace m_savedSticks m_bestSize m_bestFirst m_seedNow m_isKept m_keptLawn m_keptBalls m_keptStrength m_keptDays m_h m_depthOf m_kindOf m_sizeOf m_placeOf m_onOf m_sticksOf m_page m_savedDepth m_gameSize m_gamePlace m_gameSticks m_gameDepth m_keptDepth m_keptSize m_keptPlace m_keptOn m_keptSticks)) K 0 rfl rfl inT8 tyX8_ok nmX8 5 (Nat.le_of_ble_eq_true rfl) t_558 rfl rfl rfl rfl (Nat.le_of_ble_eq_true rfl) rfl dX8_day_137 ?_
        refine s_iload_n K dX8_day_140 rfl 1 rfl ?_
        exact s_iret K hret hlk rfl rfl dX8_day_141
      · refine s_aload_n K dX8_day_97 rfl 0 rfl ?_
        refine s_get K 0 rfl rfl inT8 9 (Nat.le_of_ble_eq_true rfl) t_562 rfl rfl dX8_day_98 ?_
        refine s_iload_n K dX8_day_101 rfl 2 rfl ?_
        refine s_ck (fun ho_12 => ?_)
        refine s_iald K 4 0 rfl rfl (ok_in ho_12) rfl dX8_day_102 ?_
        refine s_iconst K dX8_day_103 kic_m1 ?_
        refine s_icmp_eq (tgt := 124) K dX8_day_104 (by decide) (fun c_13 => ?_) (fun c_13 => ?_)
        · refine s_iinc (lv' := [(3, .int (x3 + 1)), (0, .ref mh), (2, .int x2)]) K dX8_day_124 2 rfl (kii_1 _) (Nat.le_of_ble_eq_true rfl) rfl ?_
          refine s_goto (tgt := 89) K dX8_day_127 (by decide) ?_
          refine s_lv (lv' := [(0, .ref mh), (2, .int x2), (3, .int (x3 + 1))]) [1, 2, 0] rfl ?_
          exact ih m_sizeOf m_placeOf m_onOf x2 (x3 + 1)
        · refine s_aload_n K dX8_day_107 rfl 0 rfl ?_
          refine s_get K 0 rfl rfl inT8 8 (Nat.le_of_ble_eq_true rfl) t_561 rfl rfl dX8_day_108 ?_
          refine s_iload_n K dX8_day_111 rfl 2 rfl ?_
          refine s_iald K 3 0 rfl rfl (ok_in ho_12) rfl dX8_day_112 ?_
          refine s_if_ne (tgt := 124) K dX8_day_113 (by decide) (fun c_14 => ?_) (fun c_14 => ?_)
          · refine s_aload_n K dX8_day_116 rfl 0 rfl ?_
            refine s_iload_n K dX8_day_117 rfl 2 rfl ?_
            refine s_bind (fun q hq_17 => ?_)
            obtain ⟨m_placeOf_15, m_onOf_16⟩ := q
            refine s_callV (w' := (wM cI cC cB cQ kc mh q_depthOf q_kindOf q_sizeOf q_placeOf q_onOf q_sticksOf q_page q_savedDepth q_gameSize q_gamePlace q_gameSticks q_gameDepth q_keptDepth q_keptSize q_keptPlace q_keptOn q_keptSticks m_isLawn m_lawns m_wetness m_strength m_days m_balls m_asks m_books m_pageLength m_faultAt m_savedSize m_savedPlace m_savedSticks m_bestSize m_bestFirst m_seedNow m_isKept m_keptLawn m_keptBalls m_keptStrength m_keptDays m_h m_depthOf m_kindOf m_sizeOf m_placeOf_15 m_onOf_16 m_sticksOf m_page m_savedDepth m_gameSize m_gamePlace m_gameSticks m_gameDepth m_keptDepth m_keptSize m_keptPlace m_keptOn m_keptSticks)) (rest := []) (st1 := []) K (c_X8_goAway mh q_depthOf q_kindOf q_sizeOf q_placeOf q_onOf q_sticksOf q_page q_savedDepth q_gameSize q_gamePlace q_gameSticks q_gameDepth q_keptDepth q_keptSize q_keptPlace q_keptOn q_keptSticks m_isLawn m_lawns m_wetness m_strength m_days m_balls m_asks m_books m_pageLength m_faultAt m_savedSize m_savedPlace m_savedSticks m_bestSize m_bestFirst m_seedNow m_isKept m_keptLawn m_keptBalls m_keptStrength m_keptDays m_h m_depthOf m_kindOf m_sizeOf m_placeOf m_onOf m_sticksOf m_page m_savedDepth m_gameSize m_gamePlace m_gameSticks m_gameDepth m_keptDepth m_keptSize m_keptPlace m_keptOn m_keptSticks x3 hq_17) rfl hd_X8_goAway t_802 t_804 ts_23 t_10 t_805 ⟨(Nat.le_of_ble_eq_true rfl), (Nat.le_of_ble_eq_true rfl)⟩ ⟨rfl, rfl⟩ ⟨Nat.zero_le _, Nat.zero_le _⟩ (rv_o K 0 rfl rfl) [0, 1, 2, 3, 4, 5, 6, 7, 8, 9, 10, 11, 12, 13, 14, 15, 16, 17] [] [0, 1, 2, 3, 4, 5, 6, 7, 8, 9, 10, 11, 12, 13, 14, 15, 16, 17] rfl rfl rfl rfl (by decide) rfl rfl rfl rfl (Nat.le_of_ble_eq_true rfl) dX8_day_118 ?_
            refine s_iinc (lv' := [(2, .int (x2 + 1)), (0, .ref mh), (3, .int x3)]) K dX8_day_121 1 rfl (kii_1 _) (Nat.le_of_ble_eq_true rfl) rfl ?_
            refine s_iinc (lv' := [(3, .int (x3 + 1)), (2, .int (x2 + 1)), (0, .ref mh)]) K dX8_day_124 2 rfl (kii_1 _) (Nat.le_of_ble_eq_true rfl) rfl ?_
            refine s_goto (tgt := 89) K dX8_day_127 (by decide) ?_
            refine s_lv (lv' := [(0, .ref mh), (2, .int (x2 + 1)), (3, .int (x3 + 1))]) [2, 1, 0] rfl ?_
            exact ih m_sizeOf m_placeOf_15 m_onOf_16 (x2 + 1) (x3 + 1)
          · refine s_iinc (lv' := [(3, .int (x3 + 1)), (0, .ref mh), (2, .int x2)]) K dX8_day_124 2 rfl (kii_1 _) (Nat.le_of_ble_eq_true rfl) rfl ?_
            refine s_goto (tgt := 89) K dX8_day_127 (by decide) ?_
            refine s_lv (lv' := [(0, .ref mh), (2, .int x2), (3, .int (x3 + 1))]) [1, 2, 0] rfl ?_
            exact ih m_sizeOf m_placeOf m_onOf x2 (x3 + 1)
  have L27 : ∀ (fu : Nat) (m_sizeOf : Nat → Int32) (x2 x3 : Int32), Sw (ρ := Int32 × Int32 × (Nat → Int32) × (Nat → Int32) × (Nat → Int32)) p l e ({ frames := 2, cells := 0, slots := 0, locals := 103 } : Room) s m args below meth c 0 0 D A 5 (fun r => MQ below (CQ D ((fun (r : Int32 × Int32 × (Nat → Int32) × (Nat → Int32) × (Nat → Int32)) => (wM cI cC cB cQ kc mh q_depthOf q_kindOf q_sizeOf q_placeOf q_onOf q_sticksOf q_page q_savedDepth q_gameSize q_gamePlace q_gameSticks q_gameDepth q_keptDepth q_keptSize q_keptPlace q_keptOn q_keptSticks m_isLawn m_lawns m_wetness m_strength (r.2.1) m_balls m_asks m_books m_pageLength m_faultAt m_savedSize m_savedPlace m_savedSticks m_bestSize m_bestFirst m_seedNow m_isKept m_keptLawn m_keptBalls m_keptStrength m_keptDays m_h m_depthOf m_kindOf (r.2.2.1) (r.2.2.2.1) (r.2.2.2.2) m_sticksOf m_page m_savedDepth m_gameSize m_gamePlace m_gameSticks m_gameDepth m_keptDepth m_keptSize m_keptPlace m_keptOn m_keptSticks)) r) ((fun (r : Int32 × Int32 × (Nat → Int32) × (Nat → Int32) × (Nat → Int32)) => some (.int (r.1))) r) A) args s 0 0 A) (f_X8_day_h27 m_days m_balls m_kindOf m_placeOf m_onOf a1 fu m_sizeOf x2 x3) (wM cI cC cB cQ kc mh q_depthOf q_kindOf q_sizeOf q_placeOf q_onOf q_sticksOf q_page q_savedDepth q_gameSize q_gamePlace q_gameSticks q_gameDepth q_keptDepth q_keptSize q_keptPlace q_keptOn q_keptSticks m_isLawn m_lawns m_wetness m_strength m_days m_balls m_asks m_books m_pageLength m_faultAt m_savedSize m_savedPlace m_savedSticks m_bestSize m_bestFirst m_seedNow m_isKept m_keptLawn m_keptBalls m_keptStrength m_keptDays m_h m_depthOf m_kindOf m_sizeOf m_placeOf m_onOf m_sticksOf m_page m_savedDepth m_gameSize m_gamePlace m_gameSticks m_gameDepth m_keptDepth m_keptSize m_keptPlace m_keptOn m_keptSticks) [(0, .ref mh), (1, .int a1), (2, .int x2), (3, .int x3)] 27 [] := by
    intro  fu
    induction fu with
    | zero =>
      intro m_sizeOf x2 x3
      rewrite [f_X8_day_h27]
      exact s_none
    | succ fu ih =>
      intro m_sizeOf x2 x3
      rewrite [f_X8_day_h27]
      refine s_iload_n K dX8_day_27 rfl 3 rfl ?_
      refine s_aload_n K dX8_day_28 rfl 0 rfl ?_
      refine s_get K 0 rfl rfl inT8 6 (Nat.le_of_ble_eq_true rfl) t_559 rfl rfl dX8_day_29 ?_
      refine s_icmp_ge (tgt := 87) K dX8_day_32 (by decide) (fun c_5 => ?_) (fun c_5 => ?_)
      · refine s_iconst K dX8_day_87 kic_0 ?_
        refine s_istore_n (lv' := [(3, .int 0), (0, .ref mh), (1, .int a1), (2, .int x2)]) K dX8_day_88 rfl (Nat.le_of_ble_eq_true rfl) rfl ?_
        refine s_lv (lv' := [(0, .ref mh), (2, .int x2), (3, .int 0)]) [1, 3, 0] rfl ?_
        exact L89 70 m_sizeOf m_placeOf m_onOf x2 0
      · refine s_aload_n K dX8_day_35 rfl 0 rfl ?_
        refine s_get K 0 rfl rfl inT8 9 (Nat.le_of_ble_eq_true rfl) t_562 rfl rfl dX8_day_36 ?_
        refine s_iload_n K dX8_day_39 rfl 3 rfl ?_
        refine s_ck (fun ho_6 => ?_)
        refine s_iald K 4 0 rfl rfl (ok_in ho_6) rfl dX8_day_40 ?_
        refine s_iconst K dX8_day_41 kic_m1 ?_
        refine s_icmp_eq (tgt := 81) K dX8_day_42 (by decide) (fun c_7 => ?_) (fun c_7 => ?_)
        · refine s_iinc (lv' := [(3, .int (x3 + 1)), (0, .ref mh), (1, .int a1), (2, .int x2)]) K dX8_day_81 3 rfl (kii_1 _) (Nat.le_of_ble_eq_true rfl) rfl ?_
          refine s_goto (tgt := 27) K dX8_day_84 (by decide) ?_
          refine s_lv (lv' := [(0, .ref mh), (1, .int a1), (2, .int x2), (3, .int (x3 + 1))]) [1, 2, 3, 0] rfl ?_
          exact ih m_sizeOf x2 (x3 + 1)
        · refine s_aload_n K dX8_day_45 rfl 0 rfl ?_
          refine s_get K 0 rfl rfl inT8 8 (Nat.le_of_ble_eq_true rfl) t_561 rfl rfl dX8_day_46 ?_
          refine s_iload_n K dX8_day_49 rfl 3 rfl ?_
          refine s_iald K 3 0 rfl rfl (ok_in ho_6) rfl dX8_day_50 ?_
          refine s_aload_n K dX8_day_51 rfl 0 rfl ?_
          refine s_get K 0 rfl rfl inT8 7 (Nat.le_of_ble_eq_true rfl) t_560 rfl rfl dX8_day_52 ?_
          refine s_iload_n K dX8_day_55 rfl 3 rfl ?_
          refine s_iald K 2 0 rfl rfl (ok_in ho_6) rfl dX8_day_56 ?_
          refine s_iload_n K dX8_day_57 rfl 1 rfl ?_
          refine s_bind (fun q hq_9 => ?_)
          obtain ⟨r_8, rfl⟩ : ∃ z, z = q := ⟨_, rfl⟩
          refine s_callS0 (rest := [.int (m_sizeOf (Int32.toNatClampNeg x3))]) (st1 := [.int r_8, .int (m_sizeOf (Int32.toNatClampNeg x3))]) K (c_X8_loss (m_kindOf (Int32.toNatClampNeg x3)) a1 hq_9) hd_X8_loss t_799 t_800 t_10 t_801 ⟨(Nat.le_of_ble_eq_true rfl), (Nat.le_of_ble_eq_true rfl)⟩ ⟨rfl, rfl⟩ ⟨Nat.zero_le _, Nat.zero_le _⟩ rfl rfl (Nat.le_of_ble_eq_true rfl) dX8_day_58 ?_
          refine s_isub K dX8_day_61 ?_
          refine s_istore (lv' := [(4, .int ((m_sizeOf (Int32.toNatClampNeg x3)) - r_8)), (0, .ref mh), (1, .int a1), (2, .int x2), (3, .int x3)]) K dX8_day_62 (Nat.le_of_ble_eq_true rfl) rfl ?_
          refine s_aload_n K dX8_day_64 rfl 1 rfl ?_
          refine s_get K 0 rfl rfl inT8 8 (Nat.le_of_ble_eq_true rfl) t_561 rfl rfl dX8_day_65 ?_
          refine s_iload_n K dX8_day_68 rfl 4 rfl ?_
          refine s_iload K dX8_day_69 0 rfl ?_
          refine s_if_ge (tgt := 78) K dX8_day_71 (by decide) (fun c_10 => ?_) (fun c_10 => ?_)
          · refine s_iload K dX8_day_78 0 rfl ?_
            refine s_iast (w' := (wM cI cC cB cQ kc mh q_depthOf q_kindOf q_sizeOf q_placeOf q_onOf q_sticksOf q_page q_savedDepth q_gameSize q_gamePlace q_gameSticks q_gameDepth q_keptDepth q_keptSize q_keptPlace q_keptOn q_keptSticks m_isLawn m_lawns m_wetness m_strength m_days m_balls m_asks m_books m_pageLength m_faultAt m_savedSize m_savedPlace m_savedSticks m_bestSize m_bestFirst m_seedNow m_isKept m_keptLawn m_keptBalls m_keptStrength m_keptDays m_h m_depthOf m_kindOf (upd m_sizeOf (Int32.toNatClampNeg x3) ((m_sizeOf (Int32.toNatClampNeg x3)) - r_8)) m_placeOf m_onOf m_sticksOf m_page m_savedDepth m_gameSize m_gamePlace m_gameSticks m_gameDepth m_keptDepth m_keptSize m_keptPlace m_keptOn m_keptSticks)) K 3 0 rfl rfl (ok_in ho_6) rfl rfl dX8_day_80 ?_
            refine s_iinc (lv' := [(3, .int (x3 + 1)), (4, .int ((m_sizeOf (Int32.toNatClampNeg x3)) - r_8)), (0, .ref mh), (1, .int a1), (2, .int x2)]) K dX8_day_81 4 rfl (kii_1 _) (Nat.le_of_ble_eq_true rfl) rfl ?_
            refine s_goto (tgt := 27) K dX8_day_84 (by decide) ?_
            refine s_lv (lv' := [(0, .ref mh), (1, .int a1), (2, .int x2), (3, .int (x3 + 1))]) [2, 3, 4, 0] rfl ?_
            exact ih (upd m_sizeOf (Int32.toNatClampNeg x3) ((m_sizeOf (Int32.toNatClampNeg x3)) - r_8)) x2 (x3 + 1)
          · refine s_iconst K dX8_day_74 kic_0 ?_
            refine s_goto (tgt := 80) K dX8_day_75 (by decide) ?_
            refine s_iast (w' := (wM cI cC cB cQ kc mh q_depthOf q_kindOf q_sizeOf q_placeOf q_onOf q_sticksOf q_page q_savedDepth q_gameSize q_gamePlace q_gameSticks q_gameDepth q_keptDepth q_keptSize q_keptPlace q_keptOn q_keptSticks m_isLawn m_lawns m_wetness m_strength m_days m_balls m_asks m_books m_pageLength m_faultAt m_savedSize m_savedPlace m_savedSticks m_bestSize m_bestFirst m_seedNow m_isKept m_keptLawn m_keptBalls m_keptStrength m_keptDays m_h m_depthOf m_kindOf (upd m_sizeOf (Int32.toNatClampNeg x3) 0) m_placeOf m_onOf m_sticksOf m_page m_savedDepth m_gameSize m_gamePlace m_gameSticks m_gameDepth m_keptDepth m_keptSize m_keptPlace m_keptOn m_keptSticks)) K 3 0 rfl rfl (ok_in ho_6) rfl rfl dX8_day_80 ?_
            refine s_iinc (lv' := [(3, .int (x3 + 1)), (4, .int ((m_sizeOf (Int32.toNatClampNeg x3)) - r_8)), (0, .ref mh), (1, .int a1), (2, .int x2)]) K dX8_day_81 4 rfl (kii_1 _) (Nat.le_of_ble_eq_true rfl) rfl ?_
            refine s_goto (tgt := 27) K dX8_day_84 (by decide) ?_
            refine s_lv (lv' := [(0, .ref mh), (1, .int a1), (2, .int x2), (3, .int (x3 + 1))]) [2, 3, 4, 0] rfl ?_
            exact ih (upd m_sizeOf (Int32.toNatClampNeg x3) 0) x2 (x3 + 1)
  rewrite [f_X8_day]
  refine s_iload_n K dX8_day_0 rfl 1 rfl ?_
  refine s_iconst K dX8_day_1 kic_0 ?_
  refine s_bipush K dX8_day_2 kib_9 ?_
  refine s_bind (fun q hq_2 => ?_)
  obtain ⟨r_1, rfl⟩ : ∃ z, z = q := ⟨_, rfl⟩
  refine s_callS0 (rest := []) (st1 := [.int r_1]) K (c_X8_within a1 0 9 hq_2) hd_X8_within t_676 t_677 t_10 t_678 ⟨(Nat.le_of_ble_eq_true rfl), (Nat.le_of_ble_eq_true rfl)⟩ ⟨rfl, rfl⟩ ⟨Nat.zero_le _, Nat.zero_le _⟩ rfl rfl (Nat.le_of_ble_eq_true rfl) dX8_day_4 ?_
  refine s_if_ne (tgt := 13) K dX8_day_7 (by decide) (fun c_3 => ?_) (fun c_3 => ?_)
  · refine s_bipush K dX8_day_10 kib_m102 ?_
    exact s_iret K hret hlk rfl rfl dX8_day_12
  · refine s_aload_n K dX8_day_13 rfl 0 rfl ?_
    refine s_get K 0 rfl rfl inT8 0 (Nat.le_of_ble_eq_true rfl) t_553 rfl rfl dX8_day_14 ?_
    refine s_if_ne (tgt := 23) K dX8_day_17 (by decide) (fun c_4 => ?_) (fun c_4 => ?_)
    · refine s_bipush K dX8_day_20 kib_m103 ?_
      exact s_iret K hret hlk rfl rfl dX8_day_22
    · refine s_iconst K dX8_day_23 kic_0 ?_
      refine s_istore_n (lv' := [(2, .int 0), (0, .ref mh), (1, .int a1)]) K dX8_day_24 rfl (Nat.le_of_ble_eq_true rfl) rfl ?_
      refine s_iconst K dX8_day_25 kic_0 ?_
      refine s_istore_n (lv' := [(3, .int 0), (2, .int 0), (0, .ref mh), (1, .int a1)]) K dX8_day_26 rfl (Nat.le_of_ble_eq_true rfl) rfl ?_
      refine s_lv (lv' := [(0, .ref mh), (1, .int a1), (2, .int 0), (3, .int 0)]) [2, 3, 1, 0] rfl ?_
      exact L27 70 m_sizeOf 0 0
set_option maxHeartbeats 4000000 in
set_option maxRecDepth 100000 in
theorem c_X8_save {l : Launch} {D : va_G} {cI cC cB cQ : ClassId} {kc : Nat → Nat} {kt : Nat} (mh q_depthOf q_kindOf q_sizeOf q_placeOf q_onOf q_sticksOf q_page q_savedDepth q_gameSize q_gamePlace q_gameSticks q_gameDepth q_keptDepth q_keptSize q_keptPlace q_keptOn q_keptSticks : Nat) (m_isLawn m_lawns m_wetness m_strength m_days m_balls m_asks m_books m_pageLength m_faultAt m_savedSize m_savedPlace m_savedSticks m_bestSize m_bestFirst : Int32) (m_seedNow : Int64) (m_isKept m_keptLawn m_keptBalls m_keptStrength m_keptDays : Int32) (m_h : Int64) (m_depthOf m_kindOf m_sizeOf m_placeOf m_onOf m_sticksOf m_page m_savedDepth m_gameSize m_gamePlace m_gameSticks m_gameDepth m_keptDepth m_keptSize m_keptPlace m_keptOn m_keptSticks : Nat → Int32) (a1 : Int32) {r : Int32 × Int32 × Int32 × (Nat → Int32)} (hF : f_X8_save m_depthOf m_sizeOf m_placeOf m_sticksOf m_savedDepth a1 = some r) : CT l D (tysOf cI cC cB cQ) kc kt yX8_save cX8_save 3 none ({ frames := 1, cells := 0, slots := 0, locals := 40 } : Room) [.ref mh, .int a1] (wM cI cC cB cQ kc mh q_depthOf q_kindOf q_sizeOf q_placeOf q_onOf q_sticksOf q_page q_savedDepth q_gameSize q_gamePlace q_gameSticks q_gameDepth q_keptDepth q_keptSize q_keptPlace q_keptOn q_keptSticks m_isLawn m_lawns m_wetness m_strength m_days m_balls m_asks m_books m_pageLength m_faultAt m_savedSize m_savedPlace m_savedSticks m_bestSize m_bestFirst m_seedNow m_isKept m_keptLawn m_keptBalls m_keptStrength m_keptDays m_h m_depthOf m_kindOf m_sizeOf m_placeOf m_onOf m_sticksOf m_page m_savedDepth m_gameSize m_gamePlace m_gameSticks m_gameDepth m_keptDepth m_keptSize m_keptPlace m_keptOn m_keptSticks) ((fun (r : Int32 × Int32 × Int32 × (Nat → Int32)) => (wM cI cC cB cQ kc mh q_depthOf q_kindOf q_sizeOf q_placeOf q_onOf q_sticksOf q_page q_savedDepth q_gameSize q_gamePlace q_gameSticks q_gameDepth q_keptDepth q_keptSize q_keptPlace q_keptOn q_keptSticks m_isLawn m_lawns m_wetness m_strength m_days m_balls m_asks m_books m_pageLength m_faultAt (r.1) (r.2.1) (r.2.2.1) m_bestSize m_bestFirst m_seedNow m_isKept m_keptLawn m_keptBalls m_keptStrength m_keptDays m_h m_depthOf m_kindOf m_sizeOf m_placeOf m_onOf m_sticksOf m_page (r.2.2.2) m_gameSize m_gamePlace m_gameSticks m_gameDepth m_keptDepth m_keptSize m_keptPlace m_keptOn m_keptSticks)) r) ((fun (r : Int32 × Int32 × Int32 × (Nat → Int32)) => none) r) := by
  refine CT.of (ww := (fun (r : Int32 × Int32 × Int32 × (Nat → Int32)) => (wM cI cC cB cQ kc mh q_depthOf q_kindOf q_sizeOf q_placeOf q_onOf q_sticksOf q_page q_savedDepth q_gameSize q_gamePlace q_gameSticks q_gameDepth q_keptDepth q_keptSize q_keptPlace q_keptOn q_keptSticks m_isLawn m_lawns m_wetness m_strength m_days m_balls m_asks m_books m_pageLength m_faultAt (r.1) (r.2.1) (r.2.2.1) m_bestSize m_bestFirst m_seedNow m_isKept m_keptLawn m_keptBalls m_keptStrength m_keptDays m_h m_depthOf m_kindOf m_sizeOf m_placeOf m_onOf m_sticksOf m_page (r.2.2.2) m_gameSize m_gamePlace m_gameSticks m_gameDepth m_keptDepth m_keptSize m_keptPlace m_keptOn m_keptSticks))) (oo := (fun (r : Int32 × Int32 × Int32 × (Nat → Int32)) => none)) hF RX8 rfl rfl (Nat.le_of_ble_eq_true rfl) ?_
  intro p e s m args below meth c A K hret hlk
  have L2 : ∀ (fu : Nat) (m_savedDepth : Nat → Int32) (x2 : Int32), Sw (ρ := Int32 × Int32 × Int32 × (Nat → Int32)) p l e ({ frames := 1, cells := 0, slots := 0, locals := 40 } : Room) s m args below meth c 0 0 D A 3 (fun r => MQ below (CQ D ((fun (r : Int32 × Int32 × Int32 × (Nat → Int32)) => (wM cI cC cB cQ kc mh q_depthOf q_kindOf q_sizeOf q_placeOf q_onOf q_sticksOf q_page q_savedDepth q_gameSize q_gamePlace q_gameSticks q_gameDepth q_keptDepth q_keptSize q_keptPlace q_keptOn q_keptSticks m_isLawn m_lawns m_wetness m_strength m_days m_balls m_asks m_books m_pageLength m_faultAt (r.1) (r.2.1) (r.2.2.1) m_bestSize m_bestFirst m_seedNow m_isKept m_keptLawn m_keptBalls m_keptStrength m_keptDays m_h m_depthOf m_kindOf m_sizeOf m_placeOf m_onOf m_sticksOf m_page (r.2.2.2) m_gameSize m_gamePlace m_gameSticks m_gameDepth m_keptDepth m_keptSize m_keptPlace m_keptOn m_keptSticks)) r) ((fun (r : Int32 × Int32 × Int32 × (Nat → Int32)) => none) r) A) args s 0 0 A) (f_X8_save_h2 m_depthOf m_sizeOf m_placeOf m_sticksOf a1 fu m_savedDepth x2) (wM cI cC cB cQ kc mh q_depthOf q_kindOf q_sizeOf q_placeOf q_onOf q_sticksOf q_page q_savedDepth q_gameSize q_gamePlace q_gameSticks q_gameDepth q_keptDepth q_keptSize q_keptPlace q_keptOn q_keptSticks m_isLawn m_lawns m_wetness m_strength m_days m_balls m_asks m_books m_pageLength m_faultAt m_savedSize m_savedPlace m_savedSticks m_bestSize m_bestFirst m_seedNow m_isKept m_keptLawn m_keptBalls m_keptStrength m_keptDays m_h m_depthOf m_kindOf m_sizeOf m_placeOf m_onOf m_sticksOf m_page m_savedDepth m_gameSize m_gamePlace m_gameSticks m_gameDepth m_keptDepth m_keptSize m_keptPlace m_keptOn m_keptSticks) [(0, .ref mh), (1, .int a1), (2, .int x2)] 2 [] := by
    intro  fu
    induction fu with
    | zero =>
      intro m_savedDepth x2
      rewrite [f_X8_save_h2]
      exact s_none
    | succ fu ih =>
      intro m_savedDepth x2
      rewrite [f_X8_save_h2]
      refine s_iload_n K dX8_save_2 rfl 2 rfl ?_
      refine s_bipush K dX8_save_3 kib_20 ?_
      refine s_icmp_ge (tgt := 26) K dX8_save_5 (by decide) (fun c_1 => ?_) (fun c_1 => ?_)
      · refine s_aload_n K dX8_save_26 rfl 0 rfl ?_
        refine s_aload_n K dX8_save_27 rfl 0 rfl ?_
        refine s_get K 0 rfl rfl inT8 8 (Nat.le_of_ble_eq_true rfl) t_561 rfl rfl dX8_save_28 ?_
        refine s_iload_n K dX8_save_31 rfl 1 rfl ?_
        refine s_ck (fun ho_2 => ?_)
        refine s_iald K 3 0 rfl rfl (ok_in ho_2) rfl dX8_save_32 ?_
        refine s_put (w' := (wM cI cC cB cQ kc mh q_depthOf q_kindOf q_sizeOf q_placeOf q_onOf q_sticksOf q_page q_savedDepth q_gameSize q_gamePlace q_gameSticks q_gameDepth q_keptDepth q_keptSize q_keptPlace q_keptOn q_keptSticks m_isLawn m_lawns m_wetness m_strength m_days m_balls m_asks m_books m_pageLength m_faultAt (m_sizeOf (Int32.toNatClampNeg a1)) m_savedPlace m_savedSticks m_bestSize m_bestFirst m_seedNow m_isKept m_keptLawn m_keptBalls m_keptStrength m_keptDays m_h m_depthOf m_kindOf m_sizeOf m_placeOf m_onOf m_sticksOf m_page m_savedDepth m_gameSize m_gamePlace m_gameSticks m_gameDepth m_keptDepth m_keptSize m_keptPlace m_keptOn m_keptSticks)) K 0 rfl rfl inT8 tyX8_ok nmX8 18 (Nat.le_of_ble_eq_true rfl) t_571 rfl rfl rfl rfl (Nat.le_of_ble_eq_true rfl) rfl dX8_save_33 ?_
        refine s_aload_n K dX8_save_36 rfl 0 rfl ?_
        refine s_aload_n K dX8_save_37 rfl 0 rfl ?_
        refine s_get K 0 rfl rfl inT8 9 (Nat.le_of_ble_eq_true rfl) t_562 rfl rfl dX8_save_38 ?_
        refine s_iload_n K dX8_save_41 rfl 1 rfl ?_
        refine s_iald K 4 0 rfl rfl (ok_in ho_2) rfl dX8_save_42 ?_
        refine s_put (w' := (wM cI cC cB cQ kc mh q_depthOf q_kindOf q_sizeOf q_placeOf q_onOf q_sticksOf q_page q_savedDepth q_gameSize q_gamePlace q_gameSticks q_gameDepth q_keptDepth q_keptSize q_keptPlace q_keptOn q_keptSticks m_isLawn m_lawns m_wetness m_strength m_days m_balls m_asks m_books m_pageLength m_faultAt (m_sizeOf (Int32.toNatClampNeg a1)) (m_placeOf (Int32.toNatClampNeg a1)) m_savedSticks m_bestSize m_bestFirst m_seedNow m_isKept m_keptLawn m_keptBalls m_keptStrength m_keptDays m_h m_depthOf m_kindOf m_sizeOf m_placeOf m_onOf m_sticksOf m_page m_savedDepth m_gameSize m_gamePlace m_gameSticks m_gameDepth m_keptDepth m_keptSize m_keptPlace m_keptOn m_keptSticks)) K 0 rfl rfl inT8 tyX8_ok nmX8 19 (Nat.le_of_ble_eq_true rfl) t_572 rfl rfl rfl rfl (Nat.le_of_ble_eq_true rfl) rfl dX8_save_43 ?_
        refine s_aload_n K dX8_save_46 rfl 0 rfl ?_
        refine s_aload_n K dX8_save_47 rfl 0 rfl ?_
        refine s_get K 0 rfl rfl inT8 11 (Nat.le_of_ble_eq_true rfl) t_564 rfl rfl dX8_save_48 ?_
        refine s_iload_n K dX8_save_51 rfl 1 rfl ?_
        refine s_iald K 6 0 rfl rfl (ok_in ho_2) rfl dX8_save_52 ?_
        refine s_put (w' := (wM cI cC cB cQ kc mh q_depthOf q_kindOf q_sizeOf q_placeOf q_onOf q_sticksOf q_page q_savedDepth q_gameSize q_gamePlace q_gameSticks q_gameDepth q_keptDepth q_keptSize q_keptPlace q_keptOn q_keptSticks m_isLawn m_lawns m_wetness m_strength m_days m_balls m_asks m_books m_pageLength m_faultAt (m_sizeOf (Int32.toNatClampNeg a1)) (m_placeOf (Int32.toNatClampNeg a1)) (m_sticksOf (Int32.toNatClampNeg a1)) m_bestSize m_bestFirst m_seedNow m_isKept m_keptLawn m_keptBalls m_keptStrength m_keptDays m_h m_depthOf m_kindOf m_sizeOf m_placeOf m_onOf m_sticksOf m_page m_savedDepth m_gameSize m_gamePlace m_gameSticks m_gameDepth m_keptDepth m_keptSize m_keptPlace m_keptOn m_keptSticks)) K 0 rfl rfl inT8 tyX8_ok nmX8 20 (Nat.le_of_ble_eq_true rfl) t_573 rfl rfl rfl rfl (Nat.le_of_ble_eq_true rfl) rfl dX8_save_53 ?_
        exact s_vret K hret hlk rfl rfl dX8_save_56
      · refine s_aload_n K dX8_save_8 rfl 0 rfl ?_
        refine s_get K 0 rfl rfl inT8 17 (Nat.le_of_ble_eq_true rfl) t_570 rfl rfl dX8_save_9 ?_
        refine s_iload_n K dX8_save_12 rfl 2 rfl ?_
        refine s_aload_n K dX8_save_13 rfl 0 rfl ?_
        refine s_get K 0 rfl rfl inT8 2 (Nat.le_of_ble_eq_true rfl) t_555 rfl rfl dX8_save_14 ?_
        refine s_iload_n K dX8_save_17 rfl 2 rfl ?_
        refine s_ck (fun ho_3 => ?_)
        refine s_iald K 1 0 rfl rfl (ok_in ho_3) rfl dX8_save_18 ?_
        refine s_iast (w' := (wM cI cC cB cQ kc mh q_depthOf q_kindOf q_sizeOf q_placeOf q_onOf q_sticksOf q_page q_savedDepth q_gameSize q_gamePlace q_gameSticks q_gameDepth q_keptDepth q_keptSize q_keptPlace q_keptOn q_keptSticks m_isLawn m_lawns m_wetness m_strength m_days m_balls m_asks m_books m_pageLength m_faultAt m_savedSize m_savedPlace m_savedSticks m_bestSize m_bestFirst m_seedNow m_isKept m_keptLawn m_keptBalls m_keptStrength m_keptDays m_h m_depthOf m_kindOf m_sizeOf m_placeOf m_onOf m_sticksOf m_page (upd m_savedDepth (Int32.toNatClampNeg x2) (m_depthOf (Int32.toNatClampNeg x2))) m_gameSize m_gamePlace m_gameSticks m_gameDepth m_keptDepth m_keptSize m_keptPlace m_keptOn m_keptSticks)) K 8 0 rfl rfl (ok_in ho_3) rfl rfl dX8_save_19 ?_
        refine s_iinc (lv' := [(2, .int (x2 + 1)), (0, .ref mh), (1, .int a1)]) K dX8_save_20 2 rfl (kii_1 _) (Nat.le_of_ble_eq_true rfl) rfl ?_
        refine s_goto (tgt := 2) K dX8_save_23 (by decide) ?_
        refine s_lv (lv' := [(0, .ref mh), (1, .int a1), (2, .int (x2 + 1))]) [1, 2, 0] rfl ?_
        exact ih (upd m_savedDepth (Int32.toNatClampNeg x2) (m_depthOf (Int32.toNatClampNeg x2))) (x2 + 1)
  rewrite [f_X8_save]
  refine s_iconst K dX8_save_0 kic_0 ?_
  refine s_istore_n (lv' := [(2, .int 0), (0, .ref mh), (1, .int a1)]) K dX8_save_1 rfl (Nat.le_of_ble_eq_true rfl) rfl ?_
  refine s_lv (lv' := [(0, .ref mh), (1, .int a1), (2, .int 0)]) [1, 2, 0] rfl ?_
  exact L2 70 m_savedDepth 0
set_option maxHeartbeats 4000000 in
set_option maxRecDepth 100000 in
theorem c_X8_back {l : Launch} {D : va_G} {cI cC cB cQ : ClassId} {kc : Nat → Nat} {kt : Nat} (mh q_depthOf q_kindOf q_sizeOf q_placeOf q_onOf q_sticksOf q_page q_savedDepth q_gameSize q_gamePlace q_gameSticks q_gameDepth q_keptDepth q_keptSize q_keptPlace q_keptOn q_keptSticks : Nat) (m_isLawn m_lawns m_wetness m_strength m_days m_balls m_asks m_books m_pageLength m_faultAt m_savedSize m_savedPlace m_savedSticks m_bestSize m_bestFirst : Int32) (m_seedNow : Int64) (m_isKept m_keptLawn m_keptBalls m_keptStrength m_keptDays : Int32) (m_h : Int64) (m_depthOf m_kindOf m_sizeOf m_placeOf m_onOf m_sticksOf m_page m_savedDepth m_gameSize m_gamePlace m_gameSticks m_gameDepth m_keptDepth m_keptSize m_keptPlace m_keptOn m_keptSticks : Nat → Int32) (a1 : Int32) {r : (Nat → Int32) × (Nat → Int32) × (Nat → Int32) × (Nat → Int32)} (hF : f_X8_back m_savedSize m_savedPlace m_savedSticks m_depthOf m_sizeOf m_placeOf m_sticksOf m_savedDepth a1 = some r) : CT l D (tysOf cI cC cB cQ) kc kt yX8_back cX8_back 3 none ({ frames := 1, cells := 0, slots := 0, locals := 40 } : Room) [.ref mh, .int a1] (wM cI cC cB cQ kc mh q_depthOf q_kindOf q_sizeOf q_placeOf q_onOf q_sticksOf q_page q_savedDepth q_gameSize q_gamePlace q_gameSticks q_gameDepth q_keptDepth q_keptSize q_keptPlace q_keptOn q_keptSticks m_isLawn m_lawns m_wetness m_strength m_days m_balls m_asks m_books m_pageLength m_faultAt m_savedSize m_savedPlace m_savedSticks m_bestSize m_bestFirst m_seedNow m_isKept m_keptLawn m_keptBalls m_keptStrength m_keptDays m_h m_depthOf m_kindOf m_sizeOf m_placeOf m_onOf m_sticksOf m_page m_savedDepth m_gameSize m_gamePlace m_gameSticks m_gameDepth m_keptDepth m_keptSize m_keptPlace m_keptOn m_keptSticks) ((fun (r : (Nat → Int32) × (Nat → Int32) × (Nat → Int32) × (Nat → Int32)) => (wM cI cC cB cQ kc mh q_depthOf q_kindOf q_sizeOf q_placeOf q_onOf q_sticksOf q_page q_savedDepth q_gameSize q_gamePlace q_gameSticks q_gameDepth q_keptDepth q_keptSize q_keptPlace q_keptOn q_keptSticks m_isLawn m_lawns m_wetness m_strength m_days m_balls m_asks m_books m_pageLength m_faultAt m_savedSize m_savedPlace m_savedSticks m_bestSize m_bestFirst m_seedNow m_isKept m_keptLawn m_keptBalls m_keptStrength m_keptDays m_h (r.1) m_kindOf (r.2.1) (r.2.2.1) m_onOf (r.2.2.2) m_page m_savedDepth m_gameSize m_gamePlace m_gameSticks m_gameDepth m_keptDepth m_keptSize m_keptPlace m_keptOn m_keptSticks)) r) ((fun (r : (Nat → Int32) × (Nat → Int32) × (Nat → Int32) × (Nat → Int32)) => none) r) := by
  refine CT.of (ww := (fun (r : (Nat → Int32) × (Nat → Int32) × (Nat → Int32) × (Nat → Int32)) => (wM cI cC cB cQ kc mh q_depthOf q_kindOf q_sizeOf q_placeOf q_onOf q_sticksOf q_page q_savedDepth q_gameSize q_gamePlace q_gameSticks q_gameDepth q_keptDepth q_keptSize q_keptPlace q_keptOn q_keptSticks m_isLawn m_lawns m_wetness m_strength m_days m_balls m_asks m_books m_pageLength m_faultAt m_savedSize m_savedPlace m_savedSticks m_bestSize m_bestFirst m_seedNow m_isKept m_keptLawn m_keptBalls m_keptStrength m_keptDays m_h (r.1) m_kindOf (r.2.1) (r.2.2.1) m_onOf (r.2.2.2) m_page m_savedDepth m_gameSize m_gamePlace m_gameSticks m_gameDepth m_keptDepth m_keptSize m_keptPlace m_keptOn m_keptSticks))) (oo := (fun (r : (Nat → Int32) × (Nat → Int32) × (Nat → Int32) × (Nat → Int32)) => none)) hF RX8 rfl rfl (Nat.le_of_ble_eq_true rfl) ?_
  intro p e s m args below meth c A K hret hlk
  have L2 : ∀ (fu : Nat) (m_depthOf : Nat → Int32) (x2 : Int32), Sw (ρ := (Nat → Int32) × (Nat → Int32) × (Nat → Int32) × (Nat → Int32)) p l e ({ frames := 1, cells := 0, slots := 0, locals := 40 } : Room) s m args below meth c 0 0 D A 3 (fun r => MQ below (CQ D ((fun (r : (Nat → Int32) × (Nat → Int32) × (Nat → Int32) × (Nat → Int32)) => (wM cI cC cB cQ kc mh q_depthOf q_kindOf q_sizeOf q_placeOf q_onOf q_sticksOf q_page q_savedDepth q_gameSize q_gamePlace q_gameSticks q_gameDepth q_keptDepth q_keptSize q_keptPlace q_keptOn q_keptSticks m_isLawn m_lawns m_wetness m_strength m_days m_balls m_asks m_books m_pageLength m_faultAt m_savedSize m_savedPlace m_savedSticks m_bestSize m_bestFirst m_seedNow m_isKept m_keptLawn m_keptBalls m_keptStrength m_keptDays m_h (r.1) m_kindOf (r.2.1) (r.2.2.1) m_onOf (r.2.2.2) m_page m_savedDepth m_gameSize m_gamePlace m_gameSticks m_gameDepth m_keptDepth m_keptSize m_keptPlace m_keptOn m_keptSticks)) r) ((fun (r : (Nat → Int32) × (Nat → Int32) × (Nat → Int32) × (Nat → Int32)) => none) r) A) args s 0 0 A) (f_X8_back_h2 m_savedSize m_savedPlace m_savedSticks m_sizeOf m_placeOf m_sticksOf m_savedDepth a1 fu m_depthOf x2) (wM cI cC cB cQ kc mh q_depthOf q_kindOf q_sizeOf q_placeOf q_onOf q_sticksOf q_page q_savedDepth q_gameSize q_gamePlace q_gameSticks q_gameDepth q_keptDepth q_keptSize q_keptPlace q_keptOn q_keptSticks m_isLawn m_lawns m_wetness m_strength m_days m_balls m_asks m_books m_pageLength m_faultAt m_savedSize m_savedPlace m_savedSticks m_bestSize m_bestFirst m_seedNow m_isKept m_keptLawn m_keptBalls m_keptStrength m_keptDays m_h m_depthOf m_kindOf m_sizeOf m_placeOf m_onOf m_sticksOf m_page m_savedDepth m_gameSize m_gamePlace m_gameSticks m_gameDepth m_keptDepth m_keptSize m_keptPlace m_keptOn m_keptSticks) [(0, .ref mh), (1, .int a1), (2, .int x2)] 2 [] := by
    intro  fu
    induction fu with
    | zero =>
      intro m_depthOf x2
      rewrite [f_X8_back_h2]
      exact s_none
    | succ fu ih =>
      intro m_depthOf x2
      rewrite [f_X8_back_h2]
      refine s_iload_n K dX8_back_2 rfl 2 rfl ?_
      refine s_bipush K dX8_back_3 kib_20 ?_
      refine s_icmp_ge (tgt := 26) K dX8_back_5 (by decide) (fun c_1 => ?_) (fun c_1 => ?_)
      · refine s_aload_n K dX8_back_26 rfl 0 rfl ?_
        refine s_get K 0 rfl rfl inT8 8 (Nat.le_of_ble_eq_true rfl) t_561 rfl rfl dX8_back_27 ?_
        refine s_iload_n K dX8_back_30 rfl 1 rfl ?_
        refine s_aload_n K dX8_back_31 rfl 0 rfl ?_
        refine s_get K 0 rfl rfl inT8 18 (Nat.le_of_ble_eq_true rfl) t_571 rfl rfl dX8_back_32 ?_
        refine s_ck (fun ho_2 => ?_)
        refine s_iast (w' := (wM cI cC cB cQ kc mh q_depthOf q_kindOf q_sizeOf q_placeOf q_onOf q_sticksOf q_page q_savedDepth q_gameSize q_gamePlace q_gameSticks q_gameDepth q_keptDepth q_keptSize q_keptPlace q_keptOn q_keptSticks m_isLawn m_lawns m_wetness m_strength m_days m_balls m_asks m_books m_pageLength m_faultAt m_savedSize m_savedPlace m_savedSticks m_bestSize m_bestFirst m_seedNow m_isKept m_keptLawn m_keptBalls m_keptStrength m_keptDays m_h m_depthOf m_kindOf (upd m_sizeOf (Int32.toNatClampNeg a1) m_savedSize) m_placeOf m_onOf m_sticksOf m_page m_savedDepth m_gameSize m_gamePlace m_gameSticks m_gameDepth m_keptDepth m_keptSize m_keptPlace m_keptOn m_keptSticks)) K 3 0 rfl rfl (ok_in ho_2) rfl rfl dX8_back_35 ?_
        refine s_aload_n K dX8_back_36 rfl 0 rfl ?_
        refine s_get K 0 rfl rfl inT8 9 (Nat.le_of_ble_eq_true rfl) t_562 rfl rfl dX8_back_37 ?_
        refine s_iload_n K dX8_back_40 rfl 1 rfl ?_
        refine s_aload_n K dX8_back_41 rfl 0 rfl ?_
        refine s_get K 0 rfl rfl inT8 19 (Nat.le_of_ble_eq_true rfl) t_572 rfl rfl dX8_back_42 ?_
        refine s_iast (w' := (wM cI cC cB cQ kc mh q_depthOf q_kindOf q_sizeOf q_placeOf q_onOf q_sticksOf q_page q_savedDepth q_gameSize q_gamePlace q_gameSticks q_gameDepth q_keptDepth q_keptSize q_keptPlace q_keptOn q_keptSticks m_isLawn m_lawns m_wetness m_strength m_days m_balls m_asks m_books m_pageLength m_faultAt m_savedSize m_savedPlace m_savedSticks m_bestSize m_bestFirst m_seedNow m_isKept m_keptLawn m_keptBalls m_keptStrength m_keptDays m_h m_depthOf m_kindOf (upd m_sizeOf (Int32.toNatClampNeg a1) m_savedSize) (upd m_placeOf (Int32.toNatClampNeg a1) m_savedPlace) m_onOf m_sticksOf m_page m_savedDepth m_gameSize m_gamePlace m_gameSticks m_gameDepth m_keptDepth m_keptSize m_keptPlace m_keptOn m_keptSticks)) K 4 0 rfl rfl (ok_in ho_2) rfl rfl dX8_back_45 ?_
        refine s_aload_n K dX8_back_46 rfl 0 rfl ?_
        refine s_get K 0 rfl rfl inT8 11 (Nat.le_of_ble_eq_true rfl) t_564 rfl rfl dX8_back_47 ?_
        refine s_iload_n K dX8_back_50 rfl 1 rfl ?_
        refine s_aload_n K dX8_back_51 rfl 0 rfl ?_
        refine s_get K 0 rfl rfl inT8 20 (Nat.le_of_ble_eq_true rfl) t_573 rfl rfl dX8_back_52 ?_
        refine s_iast (w' := (wM cI cC cB cQ kc mh q_depthOf q_kindOf q_sizeOf q_placeOf q_onOf q_sticksOf q_page q_savedDepth q_gameSize q_gamePlace q_gameSticks q_gameDepth q_keptDepth q_keptSize q_keptPlace q_keptOn q_keptSticks m_isLawn m_lawns m_wetness m_strength m_days m_balls m_asks m_books m_pageLength m_faultAt m_savedSize m_savedPlace m_savedSticks m_bestSize m_bestFirst m_seedNow m_isKept m_keptLawn m_keptBalls m_keptStrength m_keptDays m_h m_depthOf m_kindOf (upd m_sizeOf (Int32.toNatClampNeg a1) m_savedSize) (upd m_placeOf (Int32.toNatClampNeg a1) m_savedPlace) m_onOf (upd m_sticksOf (Int32.toNatClampNeg a1) m_savedSticks) m_page m_savedDepth m_gameSize m_gamePlace m_gameSticks m_gameDepth m_keptDepth m_keptSize m_keptPlace m_keptOn m_keptSticks)) K 6 0 rfl rfl (ok_in ho_2) rfl rfl dX8_back_55 ?_
        exact s_vret K hret hlk rfl rfl dX8_back_56
      · refine s_aload_n K dX8_back_8 rfl 0 rfl ?_
        refine s_get K 0 rfl rfl inT8 2 (Nat.le_of_ble_eq_true rfl) t_555 rfl rfl dX8_back_9 ?_
        refine s_iload_n K dX8_back_12 rfl 2 rfl ?_
        refine s_aload_n K dX8_back_13 rfl 0 rfl ?_
        refine s_get K 0 rfl rfl inT8 17 (Nat.le_of_ble_eq_true rfl) t_570 rfl rfl dX8_back_14 ?_
        refine s_iload_n K dX8_back_17 rfl 2 rfl ?_
        refine s_ck (fun ho_3 => ?_)
        refine s_iald K 8 0 rfl rfl (ok_in ho_3) rfl dX8_back_18 ?_
        refine s_iast (w' := (wM cI cC cB cQ kc mh q_depthOf q_kindOf q_sizeOf q_placeOf q_onOf q_sticksOf q_page q_savedDepth q_gameSize q_gamePlace q_gameSticks q_gameDepth q_keptDepth q_keptSize q_keptPlace q_keptOn q_keptSticks m_isLawn m_lawns m_wetness m_strength m_days m_balls m_asks m_books m_pageLength m_faultAt m_savedSize m_savedPlace m_savedSticks m_bestSize m_bestFirst m_seedNow m_isKept m_keptLawn m_keptBalls m_keptStrength m_keptDays m_h (upd m_depthOf (Int32.toNatClampNeg x2) (m_savedDepth (Int32.toNatClampNeg x2))) m_kindOf m_sizeOf m_placeOf m_onOf m_sticksOf m_page m_savedDepth m_gameSize m_gamePlace m_gameSticks m_gameDepth m_keptDepth m_keptSize m_keptPlace m_keptOn m_keptSticks)) K 1 0 rfl rfl (ok_in ho_3) rfl rfl dX8_back_19 ?_
        refine s_iinc (lv' := [(2, .int (x2 + 1)), (0, .ref mh), (1, .int a1)]) K dX8_back_20 2 rfl (kii_1 _) (Nat.le_of_ble_eq_true rfl) rfl ?_
        refine s_goto (tgt := 2) K dX8_back_23 (by decide) ?_
        refine s_lv (lv' := [(0, .ref mh), (1, .int a1), (2, .int (x2 + 1))]) [1, 2, 0] rfl ?_
        exact ih (upd m_depthOf (Int32.toNatClampNeg x2) (m_savedDepth (Int32.toNatClampNeg x2))) (x2 + 1)
  rewrite [f_X8_back]
  refine s_iconst K dX8_back_0 kic_0 ?_
  refine s_istore_n (lv' := [(2, .int 0), (0, .ref mh), (1, .int a1)]) K dX8_back_1 rfl (Nat.le_of_ble_eq_true rfl) rfl ?_
  refine s_lv (lv' := [(0, .ref mh), (1, .int a1), (2, .int 0)]) [1, 2, 0] rfl ?_
  exact L2 70 m_depthOf 0
set_option maxHeartbeats 4000000 in
set_option maxRecDepth 100000 in
theorem c_X8_power {l : Launch} {D : va_G} {cI cC cB cQ : ClassId} {kc : Nat → Nat} {kt : Nat} (a0 : Int32) {r : Int32} (hF : f_X8_power a0 = some r) : CT l D (tysOf cI cC cB cQ) kc kt yX8_power cX8_power 3 (some .int) ({ frames := 1, cells := 0, slots := 0, locals := 40 } : Room) [.int a0] [] ((fun (r : Int32) => []) r) ((fun (r : Int32) => some (.int r)) r) := by
  refine CT.of (ww := (fun (r : Int32) => [])) (oo := (fun (r : Int32) => some (.int r))) hF RX8 rfl rfl (Nat.le_of_ble_eq_true rfl) ?_
  intro p e s m args below meth c A K hret hlk
  have L4 : ∀ (fu : Nat) (x1 x2 : Int32), Sw (ρ := Int32) p l e ({ frames := 1, cells := 0, slots := 0, locals := 40 } : Room) s m args below meth c 0 0 D A 3 (fun r => MQ below (CQ D ((fun (r : Int32) => []) r) ((fun (r : Int32) => some (.int r)) r) A) args s 0 0 A) (f_X8_power_h4 a0 fu x1 x2) [] [(0, .int a0), (1, .int x1), (2, .int x2)] 4 [] := by
    intro  fu
    induction fu with
    | zero =>
      intro x1 x2
      rewrite [f_X8_power_h4]
      exact s_none
    | succ fu ih =>
      intro x1 x2
      rewrite [f_X8_power_h4]
      refine s_iload_n K dX8_power_4 rfl 2 rfl ?_
      refine s_iload_n K dX8_power_5 rfl 0 rfl ?_
      refine s_icmp_ge (tgt := 19) K dX8_power_6 (by decide) (fun c_1 => ?_) (fun c_1 => ?_)
      · refine s_iload_n K dX8_power_19 rfl 1 rfl ?_
        exact s_iret K hret hlk rfl rfl dX8_power_20
      · refine s_iload_n K dX8_power_9 rfl 1 rfl ?_
        refine s_iconst K dX8_power_10 kic_4 ?_
        refine s_imul K dX8_power_11 ?_
        refine s_istore_n (lv' := [(1, .int (x1 * 4)), (0, .int a0), (2, .int x2)]) K dX8_power_12 rfl (Nat.le_of_ble_eq_true rfl) rfl ?_
        refine s_iinc (lv' := [(2, .int (x2 + 1)), (1, .int (x1 * 4)), (0, .int a0)]) K dX8_power_13 2 rfl (kii_1 _) (Nat.le_of_ble_eq_true rfl) rfl ?_
        refine s_goto (tgt := 4) K dX8_power_16 (by decide) ?_
        refine s_lv (lv' := [(0, .int a0), (1, .int (x1 * 4)), (2, .int (x2 + 1))]) [2, 1, 0] rfl ?_
        exact ih (x1 * 4) (x2 + 1)
  rewrite [f_X8_power]
  refine s_iconst K dX8_power_0 kic_1 ?_
  refine s_istore_n (lv' := [(1, .int 1), (0, .int a0)]) K dX8_power_1 rfl (Nat.le_of_ble_eq_true rfl) rfl ?_
  refine s_iconst K dX8_power_2 kic_0 ?_
  refine s_istore_n (lv' := [(2, .int 0), (1, .int 1), (0, .int a0)]) K dX8_power_3 rfl (Nat.le_of_ble_eq_true rfl) rfl ?_
  refine s_lv (lv' := [(0, .int a0), (1, .int 1), (2, .int 0)]) [2, 1, 0] rfl ?_
  exact L4 70 1 0
set_option maxHeartbeats 4000000 in
set_option maxRecDepth 100000 in
theorem c_X8_rollsBy {l : Launch} {D : va_G} {cI cC cB cQ : ClassId} {kc : Nat → Nat} {kt : Nat} (mh q_depthOf q_kindOf q_sizeOf q_placeOf q_onOf q_sticksOf q_page q_savedDepth q_gameSize q_gamePlace q_gameSticks q_gameDepth q_keptDepth q_keptSize q_keptPlace q_keptOn q_keptSticks : Nat) (m_isLawn m_lawns m_wetness m_strength m_days m_balls m_asks m_books m_pageLength m_faultAt m_savedSize m_savedPlace m_savedSticks m_bestSize m_bestFirst : Int32) (m_seedNow : Int64) (m_isKept m_keptLawn m_keptBalls m_keptStrength m_keptDays : Int32) (m_h : Int64) (m_depthOf m_kindOf m_sizeOf m_placeOf m_onOf m_sticksOf m_page m_savedDepth m_gameSize m_gamePlace m_gameSticks m_gameDepth m_keptDepth m_keptSize m_keptPlace m_keptOn m_keptSticks : Nat → Int32) (a1 a2 a3 : Int32) {r : Int32 × (Nat → Int32) × (Nat → Int32) × (Nat → Int32) × (Nat → Int32)} (hF : f_X8_rollsBy m_wetness m_strength m_balls m_depthOf m_kindOf m_sizeOf m_placeOf m_onOf m_sticksOf a1 a2 a3 = some r) : CT l D (tysOf cI cC cB cQ) kc kt yX8_rollsBy cX8_rollsBy 8 (some .boolean) ({ frames := 4, cells := 0, slots := 0, locals := 228 } : Room) [.ref mh, .int a1, .int a2, .int a3] (wM cI cC cB cQ kc mh q_depthOf q_kindOf q_sizeOf q_placeOf q_onOf q_sticksOf q_page q_savedDepth q_gameSize q_gamePlace q_gameSticks q_gameDepth q_keptDepth q_keptSize q_keptPlace q_keptOn q_keptSticks m_isLawn m_lawns m_wetness m_strength m_days m_balls m_asks m_books m_pageLength m_faultAt m_savedSize m_savedPlace m_savedSticks m_bestSize m_bestFirst m_seedNow m_isKept m_keptLawn m_keptBalls m_keptStrength m_keptDays m_h m_depthOf m_kindOf m_sizeOf m_placeOf m_onOf m_sticksOf m_page m_savedDepth m_gameSize m_gamePlace m_gameSticks m_gameDepth m_keptDepth m_keptSize m_keptPlace m_keptOn m_keptSticks) ((fun (r : Int32 × (Nat → Int32) × (Nat → Int32) × (Nat → Int32) × (Nat → Int32)) => (wM cI cC cB cQ kc mh q_depthOf q_kindOf q_sizeOf q_placeOf q_onOf q_sticksOf q_page q_savedDepth q_gameSize q_gamePlace q_gameSticks q_gameDepth q_keptDepth q_keptSize q_keptPlace q_keptOn q_keptSticks m_isLawn m_lawns m_wetness m_strength m_days m_balls m_asks m_books m_pageLength m_faultAt m_savedSize m_savedPlace m_savedSticks m_bestSize m_bestFirst m_seedNow m_isKept m_keptLawn m_keptBalls m_keptStrength m_keptDays m_h (r.2.1) m_kindOf (r.2.2.1) (r.2.2.2.1) m_onOf (r.2.2.2.2) m_page m_savedDepth m_gameSize m_gamePlace m_gameSticks m_gameDepth m_keptDepth m_keptSize m_keptPlace m_keptOn m_keptSticks)) r) ((fun (r : Int32 × (Nat → Int32) × (Nat → Int32) × (Nat → Int32) × (Nat → Int32)) => some (.int (r.1))) r) := by
  refine CT.of (ww := (fun (r : Int32 × (Nat → Int32) × (Nat → Int32) × (Nat → Int32) × (Nat → Int32)) => (wM cI cC cB cQ kc mh q_depthOf q_kindOf q_sizeOf q_placeOf q_onOf q_sticksOf q_page q_savedDepth q_gameSize q_gamePlace q_gameSticks q_gameDepth q_keptDepth q_keptSize q_keptPlace q_keptOn q_keptSticks m_isLawn m_lawns m_wetness m_strength m_days m_balls m_asks m_books m_pageLength m_faultAt m_savedSize m_savedPlace m_savedSticks m_bestSize m_bestFirst m_seedNow m_isKept m_keptLawn m_keptBalls m_keptStrength m_keptDays m_h (r.2.1) m_kindOf (r.2.2.1) (r.2.2.2.1) m_onOf (r.2.2.2.2) m_page m_savedDepth m_gameSize m_gamePlace m_gameSticks m_gameDepth m_keptDepth m_keptSize m_keptPlace m_keptOn m_keptSticks))) (oo := (fun (r : Int32 × (Nat → Int32) × (Nat → Int32) × (Nat → Int32) × (Nat → Int32)) => some (.int (r.1)))) hF RX8 rfl rfl (Nat.le_of_ble_eq_true rfl) ?_
  intro p e s m args below meth c A K hret hlk
  have L11 : ∀ (fu : Nat) (m_depthOf m_sizeOf m_placeOf m_sticksOf : Nat → Int32) (x4 x5 x6 : Int32), Sw (ρ := Int32 × (Nat → Int32) × (Nat → Int32) × (Nat → Int32) × (Nat → Int32)) p l e ({ frames := 4, cells := 0, slots := 0, locals := 228 } : Room) s m args below meth c 0 0 D A 8 (fun r => MQ below (CQ D ((fun (r : Int32 × (Nat → Int32) × (Nat → Int32) × (Nat → Int32) × (Nat → Int32)) => (wM cI cC cB cQ kc mh q_depthOf q_kindOf q_sizeOf q_placeOf q_onOf q_sticksOf q_page q_savedDepth q_gameSize q_gamePlace q_gameSticks q_gameDepth q_keptDepth q_keptSize q_keptPlace q_keptOn q_keptSticks m_isLawn m_lawns m_wetness m_strength m_days m_balls m_asks m_books m_pageLength m_faultAt m_savedSize m_savedPlace m_savedSticks m_bestSize m_bestFirst m_seedNow m_isKept m_keptLawn m_keptBalls m_keptStrength m_keptDays m_h (r.2.1) m_kindOf (r.2.2.1) (r.2.2.2.1) m_onOf (r.2.2.2.2) m_page m_savedDepth m_gameSize m_gamePlace m_gameSticks m_gameDepth m_keptDepth m_keptSize m_keptPlace m_keptOn m_keptSticks)) r) ((fun (r : Int32 × (Nat → Int32) × (Nat → Int32) × (Nat → Int32) × (Nat → Int32)) => some (.int (r.1))) r) A) args s 0 0 A) (f_X8_rollsBy_h11 m_wetness m_strength m_balls m_kindOf m_onOf a1 fu m_depthOf m_sizeOf m_placeOf m_sticksOf x4 x5 x6) (wM cI cC cB cQ kc mh q_depthOf q_kindOf q_sizeOf q_placeOf q_onOf q_sticksOf q_page q_savedDepth q_gameSize q_gamePlace q_gameSticks q_gameDepth q_keptDepth q_keptSize q_keptPlace q_keptOn q_keptSticks m_isLawn m_lawns m_wetness m_strength m_days m_balls m_asks m_books m_pageLength m_faultAt m_savedSize m_savedPlace m_savedSticks m_bestSize m_bestFirst m_seedNow m_isKept m_keptLawn m_keptBalls m_keptStrength m_keptDays m_h m_depthOf m_kindOf m_sizeOf m_placeOf m_onOf m_sticksOf m_page m_savedDepth m_gameSize m_gamePlace m_gameSticks m_gameDepth m_keptDepth m_keptSize m_keptPlace m_keptOn m_keptSticks) [(0, .ref mh), (1, .int a1), (4, .int x4), (5, .int x5), (6, .int x6)] 11 [] := by
    intro  fu
    induction fu with
    | zero =>
      intro m_depthOf m_sizeOf m_placeOf m_sticksOf x4 x5 x6
      rewrite [f_X8_rollsBy_h11]
      exact s_none
    | succ fu ih =>
      intro m_depthOf m_sizeOf m_placeOf m_sticksOf x4 x5 x6
      rewrite [f_X8_rollsBy_h11]
      refine s_iload K dX8_rollsBy_11 4 rfl ?_
      refine s_if_lt (tgt := 68) K dX8_rollsBy_13 (by decide) (fun c_1 => ?_) (fun c_1 => ?_)
      · refine s_iload K dX8_rollsBy_68 3 rfl ?_
        refine s_ck (fun hz_2 => ?_)
        exact s_zret K hret hlk (congrArg Value.int hz_2) rfl rfl dX8_rollsBy_70
      · refine s_iload K dX8_rollsBy_16 3 rfl ?_
        refine s_if_eq (tgt := 68) K dX8_rollsBy_18 (by decide) (fun c_3 => ?_) (fun c_3 => ?_)
        · refine s_iload K dX8_rollsBy_68 3 rfl ?_
          refine s_ck (fun hz_4 => ?_)
          exact s_zret K hret hlk (congrArg Value.int hz_4) rfl rfl dX8_rollsBy_70
        · refine s_iload K dX8_rollsBy_21 2 rfl ?_
          refine s_iload K dX8_rollsBy_23 4 rfl ?_
          refine s_bind (fun q hq_6 => ?_)
          obtain ⟨r_5, rfl⟩ : ∃ z, z = q := ⟨_, rfl⟩
          refine s_callS0 (rest := [.int x4]) (st1 := [.int r_5, .int x4]) K (c_X8_power x6 hq_6) hd_X8_power t_818 t_819 t_10 t_820 ⟨(Nat.le_of_ble_eq_true rfl), (Nat.le_of_ble_eq_true rfl)⟩ ⟨rfl, rfl⟩ ⟨Nat.zero_le _, Nat.zero_le _⟩ rfl rfl (Nat.le_of_ble_eq_true rfl) dX8_rollsBy_25 ?_
          refine s_ck (fun hz_7 => ?_)
          refine s_idiv K dX8_rollsBy_28 hz_7 ?_
          refine s_istore (lv' := [(7, .int (x4 / r_5)), (0, .ref mh), (1, .int a1), (4, .int x4), (5, .int x5), (6, .int x6)]) K dX8_rollsBy_29 (Nat.le_of_ble_eq_true rfl) rfl ?_
          refine s_iload K dX8_rollsBy_31 3 rfl ?_
          refine s_iload K dX8_rollsBy_33 5 rfl ?_
          refine s_bind (fun q hq_9 => ?_)
          obtain ⟨r_8, rfl⟩ : ∃ z, z = q := ⟨_, rfl⟩
          refine s_callS0 (rest := [.int x4]) (st1 := [.int r_8, .int x4]) K (c_X8_power x6 hq_9) hd_X8_power t_818 t_819 t_10 t_820 ⟨(Nat.le_of_ble_eq_true rfl), (Nat.le_of_ble_eq_true rfl)⟩ ⟨rfl, rfl⟩ ⟨Nat.zero_le _, Nat.zero_le _⟩ rfl rfl (Nat.le_of_ble_eq_true rfl) dX8_rollsBy_35 ?_
          refine s_ck (fun hz_10 => ?_)
          refine s_irem K dX8_rollsBy_38 hz_10 ?_
          refine s_istore (lv' := [(4, .int (x4 - x4 / r_8 * r_8)), (7, .int (x4 / r_5)), (0, .ref mh), (1, .int a1), (5, .int x5), (6, .int x6)]) K dX8_rollsBy_39 (Nat.le_of_ble_eq_true rfl) rfl ?_
          refine s_aload_n K dX8_rollsBy_41 rfl 2 rfl ?_
          refine s_iload_n K dX8_rollsBy_42 rfl 3 rfl ?_
          refine s_iload K dX8_rollsBy_43 1 rfl ?_
          refine s_bind (fun q hq_12 => ?_)
          obtain ⟨r_11, rfl⟩ : ∃ z, z = q := ⟨_, rfl⟩
          refine s_callV (w' := (wM cI cC cB cQ kc mh q_depthOf q_kindOf q_sizeOf q_placeOf q_onOf q_sticksOf q_page q_savedDepth q_gameSize q_gamePlace q_gameSticks q_gameDepth q_keptDepth q_keptSize q_keptPlace q_keptOn q_keptSticks m_isLawn m_lawns m_wetness m_strength m_days m_balls m_asks m_books m_pageLength m_faultAt m_savedSize m_savedPlace m_savedSticks m_bestSize m_bestFirst m_seedNow m_isKept m_keptLawn m_keptBalls m_keptStrength m_keptDays m_h m_depthOf m_kindOf m_sizeOf m_placeOf m_onOf m_sticksOf m_page m_savedDepth m_gameSize m_gamePlace m_gameSticks m_gameDepth m_keptDepth m_keptSize m_keptPlace m_keptOn m_keptSticks)) (rest := []) (st1 := [.int r_11]) K (c_X8_mayRoll mh q_depthOf q_kindOf q_sizeOf q_placeOf q_onOf q_sticksOf q_page q_savedDepth q_gameSize q_gamePlace q_gameSticks q_gameDepth q_keptDepth q_keptSize q_keptPlace q_keptOn q_keptSticks m_isLawn m_lawns m_wetness m_strength m_days m_balls m_asks m_books m_pageLength m_faultAt m_savedSize m_savedPlace m_savedSticks m_bestSize m_bestFirst m_seedNow m_isKept m_keptLawn m_keptBalls m_keptStrength m_keptDays m_h m_depthOf m_kindOf m_sizeOf m_placeOf m_onOf m_sticksOf m_page m_savedDepth m_gameSize m_gamePlace m_gameSticks m_gameDepth m_keptDepth m_keptSize m_keptPlace m_keptOn m_keptSticks a1 (x4 / r_5) hq_12) rfl hd_X8_mayRoll t_757 t_759 ts_17 t_10 t_760 ⟨(Nat.le_of_ble_eq_true rfl), (Nat.le_of_ble_eq_true rfl)⟩ ⟨rfl, rfl⟩ ⟨Nat.zero_le _, Nat.zero_le _⟩ (rv_o K 0 rfl rfl) [0, 1, 2, 3, 4, 5, 6, 7, 8, 9, 10, 11, 12, 13, 14, 15, 16, 17] [] [0, 1, 2, 3, 4, 5, 6, 7, 8, 9, 10, 11, 12, 13, 14, 15, 16, 17] rfl rfl rfl rfl (by decide) rfl rfl rfl rfl (Nat.le_of_ble_eq_true rfl) dX8_rollsBy_45 ?_
          refine s_istore (lv' := [(5, .int r_11), (4, .int (x4 - x4 / r_8 * r_8)), (7, .int (x4 / r_5)), (0, .ref mh), (1, .int a1), (6, .int x6)]) K dX8_rollsBy_48 (Nat.le_of_ble_eq_true rfl) rfl ?_
          refine s_iload K dX8_rollsBy_50 0 rfl ?_
          refine s_if_eq (tgt := 62) K dX8_rollsBy_52 (by decide) (fun c_13 => ?_) (fun c_13 => ?_)
          · refine s_iinc (lv' := [(6, .int (x6 + (-1))), (5, .int r_11), (4, .int (x4 - x4 / r_8 * r_8)), (7, .int (x4 / r_5)), (0, .ref mh), (1, .int a1)]) K dX8_rollsBy_62 5 rfl (kin_m1 _) (Nat.le_of_ble_eq_true rfl) rfl ?_
            refine s_goto (tgt := 11) K dX8_rollsBy_65 (by decide) ?_
            refine s_lv (lv' := [(0, .ref mh), (1, .int a1), (4, .int (x4 - x4 / r_8 * r_8)), (5, .int r_11), (6, .int (x6 + (-1)))]) [4, 5, 2, 1, 0] rfl ?_
            exact ih m_depthOf m_sizeOf m_placeOf m_sticksOf (x4 - x4 / r_8 * r_8) r_11 (x6 + (-1))
          · refine s_aload_n K dX8_rollsBy_55 rfl 3 rfl ?_
            refine s_iload_n K dX8_rollsBy_56 rfl 4 rfl ?_
            refine s_iload K dX8_rollsBy_57 2 rfl ?_
            refine s_bind (fun q hq_18 => ?_)
            obtain ⟨m_depthOf_14, m_sizeOf_15, m_placeOf_16, m_sticksOf_17⟩ := q
            refine s_callV (w' := (wM cI cC cB cQ kc mh q_depthOf q_kindOf q_sizeOf q_placeOf q_onOf q_sticksOf q_page q_savedDepth q_gameSize q_gamePlace q_gameSticks q_gameDepth q_keptDepth q_keptSize q_keptPlace q_keptOn q_keptSticks m_isLawn m_lawns m_wetness m_strength m_days m_balls m_asks m_books m_pageLength m_faultAt m_savedSize m_savedPlace m_savedSticks m_bestSize m_bestFirst m_seedNow m_isKept m_keptLawn m_keptBalls m_keptStrength m_keptDays m_h m_depthOf_14 m_kindOf m_sizeOf_15 m_placeOf_16 m_onOf m_sticksOf_17 m_page m_savedDepth m_gameSize m_gamePlace m_gameSticks m_gameDepth m_keptDepth m_keptSize m_keptPlace m_keptOn m_keptSticks)) (rest := []) (st1 := []) K (c_X8_doRoll mh q_depthOf q_kindOf q_sizeOf q_placeOf q_onOf q_sticksOf q_page q_savedDepth q_gameSize q_gamePlace q_gameSticks q_gameDepth q_keptDepth q_keptSize q_keptPlace q_keptOn q_keptSticks m_isLawn m_lawns m_wetness m_strength m_days m_balls m_asks m_books m_pageLength m_faultAt m_savedSize m_savedPlace m_savedSticks m_bestSize m_bestFirst m_seedNow m_isKept m_keptLawn m_keptBalls m_keptStrength m_keptDays m_h m_depthOf m_kindOf m_sizeOf m_placeOf m_onOf m_sticksOf m_page m_savedDepth m_gameSize m_gamePlace m_gameSticks m_gameDepth m_keptDepth m_keptSize m_keptPlace m_keptOn m_keptSticks a1 (x4 / r_5) hq_18) rfl hd_X8_doRoll t_776 t_778 ts_20 t_10 t_779 ⟨(Nat.le_of_ble_eq_true rfl), (Nat.le_of_ble_eq_true rfl)⟩ ⟨rfl, rfl⟩ ⟨Nat.zero_le _, Nat.zero_le _⟩ (rv_o K 0 rfl rfl) [0, 1, 2, 3, 4, 5, 6, 7, 8, 9, 10, 11, 12, 13, 14, 15, 16, 17] [] [0, 1, 2, 3, 4, 5, 6, 7, 8, 9, 10, 11, 12, 13, 14, 15, 16, 17] rfl rfl rfl rfl (by decide) rfl rfl rfl rfl (Nat.le_of_ble_eq_true rfl) dX8_rollsBy_59 ?_
            refine s_iinc (lv' := [(6, .int (x6 + (-1))), (5, .int r_11), (4, .int (x4 - x4 / r_8 * r_8)), (7, .int (x4 / r_5)), (0, .ref mh), (1, .int a1)]) K dX8_rollsBy_62 5 rfl (kin_m1 _) (Nat.le_of_ble_eq_true rfl) rfl ?_
            refine s_goto (tgt := 11) K dX8_rollsBy_65 (by decide) ?_
            refine s_lv (lv' := [(0, .ref mh), (1, .int a1), (4, .int (x4 - x4 / r_8 * r_8)), (5, .int r_11), (6, .int (x6 + (-1)))]) [4, 5, 2, 1, 0] rfl ?_
            exact ih m_depthOf_14 m_sizeOf_15 m_placeOf_16 m_sticksOf_17 (x4 - x4 / r_8 * r_8) r_11 (x6 + (-1))
  rewrite [f_X8_rollsBy]
  refine s_iload_n K dX8_rollsBy_0 rfl 2 rfl ?_
  refine s_istore (lv' := [(4, .int a2), (0, .ref mh), (1, .int a1), (2, .int a2), (3, .int a3)]) K dX8_rollsBy_1 (Nat.le_of_ble_eq_true rfl) rfl ?_
  refine s_iconst K dX8_rollsBy_3 kic_1 ?_
  refine s_istore (lv' := [(5, .int 1), (4, .int a2), (0, .ref mh), (1, .int a1), (2, .int a2), (3, .int a3)]) K dX8_rollsBy_4 (Nat.le_of_ble_eq_true rfl) rfl ?_
  refine s_iload_n K dX8_rollsBy_6 rfl 5 rfl ?_
  refine s_iconst K dX8_rollsBy_7 kic_1 ?_
  refine s_isub K dX8_rollsBy_8 ?_
  refine s_istore (lv' := [(6, .int (a3 - 1)), (5, .int 1), (4, .int a2), (0, .ref mh), (1, .int a1), (2, .int a2), (3, .int a3)]) K dX8_rollsBy_9 (Nat.le_of_ble_eq_true rfl) rfl ?_
  refine s_lv (lv' := [(0, .ref mh), (1, .int a1), (4, .int a2), (5, .int 1), (6, .int (a3 - 1))]) [3, 4, 2, 1, 0] rfl ?_
  exact L11 70 m_depthOf m_sizeOf m_placeOf m_sticksOf a2 1 (a3 - 1)
set_option maxHeartbeats 4000000 in
set_option maxRecDepth 100000 in
theorem c_X8_layLargest {l : Launch} {D : va_G} {cI cC cB cQ : ClassId} {kc : Nat → Nat} {kt : Nat} (mh q_depthOf q_kindOf q_sizeOf q_placeOf q_onOf q_sticksOf q_page q_savedDepth q_gameSize q_gamePlace q_gameSticks q_gameDepth q_keptDepth q_keptSize q_keptPlace q_keptOn q_keptSticks : Nat) (m_isLawn m_lawns m_wetness m_strength m_days m_balls m_asks m_books m_pageLength m_faultAt m_savedSize m_savedPlace m_savedSticks m_bestSize m_bestFirst : Int32) (m_seedNow : Int64) (m_isKept m_keptLawn m_keptBalls m_keptStrength m_keptDays : Int32) (m_h : Int64) (m_depthOf m_kindOf m_sizeOf m_placeOf m_onOf m_sticksOf m_page m_savedDepth m_gameSize m_gamePlace m_gameSticks m_gameDepth m_keptDepth m_keptSize m_keptPlace m_keptOn m_keptSticks : Nat → Int32) (a1 a2 : Int32) {r : Int32 × Int32 × Int32 × Int32 × Int32 × (Nat → Int32) × (Nat → Int32) × (Nat → Int32) × (Nat → Int32) × (Nat → Int32)} (hF : f_X8_layLargest m_wetness m_strength m_balls m_depthOf m_kindOf m_sizeOf m_placeOf m_onOf m_sticksOf m_savedDepth a1 a2 = some r) : CT l D (tysOf cI cC cB cQ) kc kt yX8_layLargest cX8_layLargest 7 none ({ frames := 5, cells := 0, slots := 0, locals := 295 } : Room) [.ref mh, .int a1, .int a2] (wM cI cC cB cQ kc mh q_depthOf q_kindOf q_sizeOf q_placeOf q_onOf q_sticksOf q_page q_savedDepth q_gameSize q_gamePlace q_gameSticks q_gameDepth q_keptDepth q_keptSize q_keptPlace q_keptOn q_keptSticks m_isLawn m_lawns m_wetness m_strength m_days m_balls m_asks m_books m_pageLength m_faultAt m_savedSize m_savedPlace m_savedSticks m_bestSize m_bestFirst m_seedNow m_isKept m_keptLawn m_keptBalls m_keptStrength m_keptDays m_h m_depthOf m_kindOf m_sizeOf m_placeOf m_onOf m_sticksOf m_page m_savedDepth m_gameSize m_gamePlace m_gameSticks m_gameDepth m_keptDepth m_keptSize m_keptPlace m_keptOn m_keptSticks) ((fun (r : Int32 × Int32 × Int32 × Int32 × Int32 × (Nat → Int32) × (Nat → Int32) × (Nat → Int32) × (Nat → Int32) × (Nat → Int32)) => (wM cI cC cB cQ kc mh q_depthOf q_kindOf q_sizeOf q_placeOf q_onOf q_sticksOf q_page q_savedDepth q_gameSize q_gamePlace q_gameSticks q_gameDepth q_keptDepth q_keptSize q_keptPlace q_keptOn q_keptSticks m_isLawn m_lawns m_wetness m_strength m_days m_balls m_asks m_books m_pageLength m_faultAt (r.1) (r.2.1) (r.2.2.1) (r.2.2.2.1) (r.2.2.2.2.1) m_seedNow m_isKept m_keptLawn m_keptBalls m_keptStrength m_keptDays m_h (r.2.2.2.2.2.1) m_kindOf (r.2.2.2.2.2.2.1) (r.2.2.2.2.2.2.2.1) m_onOf (r.2.2.2.2.2.2.2.2.1) m_page (r.2.2.2.2.2.2.2.2.2) m_gameSize m_gamePlace m_gameSticks m_gameDepth m_keptDepth m_keptSize m_keptPlace m_keptOn m_keptSticks)) r) ((fun (r : Int32 × Int32 × Int32 × Int32 × Int32 × (Nat → Int32) × (Nat → Int32) × (Nat → Int32) × (Nat → Int32) × (Nat → Int32)) => none) r) := by
  refine CT.of (ww := (fun (r : Int32 × Int32 × Int32 × Int32 × Int32 × (Nat → Int32) × (Nat → Int32) × (Nat → Int32) × (Nat → Int32) × (Nat → Int32)) => (wM cI cC cB cQ kc mh q_depthOf q_kindOf q_sizeOf q_placeOf q_onOf q_sticksOf q_page q_savedDepth q_gameSize q_gamePlace q_gameSticks q_gameDepth q_keptDepth q_keptSize q_keptPlace q_keptOn q_keptSticks m_isLawn m_lawns m_wetness m_strength m_days m_balls m_asks m_books m_pageLength m_faultAt (r.1) (r.2.1) (r.2.2.1) (r.2.2.2.1) (r.2.2.2.2.1) m_seedNow m_isKept m_keptLawn m_keptBalls m_keptStrength m_keptDays m_h (r.2.2.2.2.2.1) m_kindOf (r.2.2.2.2.2.2.1) (r.2.2.2.2.2.2.2.1) m_onOf (r.2.2.2.2.2.2.2.2.1) m_page (r.2.2.2.2.2.2.2.2.2) m_gameSize m_gamePlace m_gameSticks m_gameDepth m_keptDepth m_keptSize m_keptPlace m_keptOn m_keptSticks))) (oo := (fun (r : Int32 × Int32 × Int32 × Int32 × Int32 × (Nat → Int32) × (Nat → Int32) × (Nat → Int32) × (Nat → Int32) × (Nat → Int32)) => none)) hF RX8 rfl rfl (Nat.le_of_ble_eq_true rfl) ?_
  intro p e s m args below meth c A K hret hlk
  have L30 : ∀ (kk22 : Int32 → Int32 → Int32 → Int32 → Int32 → (Nat → Int32) → (Nat → Int32) → (Nat → Int32) → (Nat → Int32) → (Nat → Int32) → Int32 → Option (Int32 × Int32 × Int32 × Int32 × Int32 × (Nat → Int32) × (Nat → Int32) × (Nat → Int32) × (Nat → Int32) × (Nat → Int32))), (∀ (m_savedSize m_savedPlace m_savedSticks m_bestSize m_bestFirst : Int32) (m_depthOf m_sizeOf m_placeOf m_sticksOf m_savedDepth : Nat → Int32) (x3 : Int32), Sw (ρ := Int32 × Int32 × Int32 × Int32 × Int32 × (Nat → Int32) × (Nat → Int32) × (Nat → Int32) × (Nat → Int32) × (Nat → Int32)) p l e ({ frames := 5, cells := 0, slots := 0, locals := 295 } : Room) s m args below meth c 0 0 D A 7 (fun r => MQ below (CQ D ((fun (r : Int32 × Int32 × Int32 × Int32 × Int32 × (Nat → Int32) × (Nat → Int32) × (Nat → Int32) × (Nat → Int32) × (Nat → Int32)) => (wM cI cC cB cQ kc mh q_depthOf q_kindOf q_sizeOf q_placeOf q_onOf q_sticksOf q_page q_savedDepth q_gameSize q_gamePlace q_gameSticks q_gameDepth q_keptDepth q_keptSize q_keptPlace q_keptOn q_keptSticks m_isLawn m_lawns m_wetness m_strength m_days m_balls m_asks m_books m_pageLength m_faultAt (r.1) (r.2.1) (r.2.2.1) (r.2.2.2.1) (r.2.2.2.2.1) m_seedNow m_isKept m_keptLawn m_keptBalls m_keptStrength m_keptDays m_h (r.2.2.2.2.2.1) m_kindOf (r.2.2.2.2.2.2.1) (r.2.2.2.2.2.2.2.1) m_onOf (r.2.2.2.2.2.2.2.2.1) m_page (r.2.2.2.2.2.2.2.2.2) m_gameSize m_gamePlace m_gameSticks m_gameDepth m_keptDepth m_keptSize m_keptPlace m_keptOn m_keptSticks)) r) ((fun (r : Int32 × Int32 × Int32 × Int32 × Int32 × (Nat → Int32) × (Nat → Int32) × (Nat → Int32) × (Nat → Int32) × (Nat → Int32)) => none) r) A) args s 0 0 A) (kk22 m_savedSize m_savedPlace m_savedSticks m_bestSize m_bestFirst m_depthOf m_sizeOf m_placeOf m_sticksOf m_savedDepth x3) (wM cI cC cB cQ kc mh q_depthOf q_kindOf q_sizeOf q_placeOf q_onOf q_sticksOf q_page q_savedDepth q_gameSize q_gamePlace q_gameSticks q_gameDepth q_keptDepth q_keptSize q_keptPlace q_keptOn q_keptSticks m_isLawn m_lawns m_wetness m_strength m_days m_balls m_asks m_books m_pageLength m_faultAt m_savedSize m_savedPlace m_savedSticks m_bestSize m_bestFirst m_seedNow m_isKept m_keptLawn m_keptBalls m_keptStrength m_keptDays m_h m_depthOf m_kindOf m_sizeOf m_placeOf m_onOf m_sticksOf m_page m_savedDepth m_gameSize m_gamePlace m_gameSticks m_gameDepth m_keptDepth m_keptSize m_keptPlace m_keptOn m_keptSticks) [(0, .ref mh), (1, .int a1), (2, .int a2), (3, .int x3)] 22 []) → ∀ (fu : Nat) (m_savedSize m_savedPlace m_savedSticks m_bestSize m_bestFirst : Int32) (m_depthOf m_sizeOf m_placeOf m_sticksOf m_savedDepth : Nat → Int32) (x3 x4 : Int32), Sw (ρ := Int32 × Int32 × Int32 × Int32 × Int32 × (Nat → Int32) × (Nat → Int32) × (Nat → Int32) × (Nat → Int32) × (Nat → Int32)) p l e ({ frames := 5, cells := 0, slots := 0, locals := 295 } : Room) s m args below meth c 0 0 D A 7 (fun r => MQ below (CQ D ((fun (r : Int32 × Int32 × Int32 × Int32 × Int32 × (Nat → Int32) × (Nat → Int32) × (Nat → Int32) × (Nat → Int32) × (Nat → Int32)) => (wM cI cC cB cQ kc mh q_depthOf q_kindOf q_sizeOf q_placeOf q_onOf q_sticksOf q_page q_savedDepth q_gameSize q_gamePlace q_gameSticks q_gameDepth q_keptDepth q_keptSize q_keptPlace q_keptOn q_keptSticks m_isLawn m_lawns m_wetness m_strength m_days m_balls m_asks m_books m_pageLength m_faultAt (r.1) (r.2.1) (r.2.2.1) (r.2.2.2.1) (r.2.2.2.2.1) m_seedNow m_isKept m_keptLawn m_keptBalls m_keptStrength m_keptDays m_h (r.2.2.2.2.2.1) m_kindOf (r.2.2.2.2.2.2.1) (r.2.2.2.2.2.2.2.1) m_onOf (r.2.2.2.2.2.2.2.2.1) m_page (r.2.2.2.2.2.2.2.2.2) m_gameSize m_gamePlace m_gameSticks m_gameDepth m_keptDepth m_keptSize m_keptPlace m_keptOn m_keptSticks)) r) ((fun (r : Int32 × Int32 × Int32 × Int32 × Int32 × (Nat → Int32) × (Nat → Int32) × (Nat → Int32) × (Nat → Int32) × (Nat → Int32)) => none) r) A) args s 0 0 A) (f_X8_layLargest_h30 kk22 m_wetness m_strength m_balls m_kindOf m_onOf a1 fu m_savedSize m_savedPlace m_savedSticks m_bestSize m_bestFirst m_depthOf m_sizeOf m_placeOf m_sticksOf m_savedDepth x3 x4) (wM cI cC cB cQ kc mh q_depthOf q_kindOf q_sizeOf q_placeOf q_onOf q_sticksOf q_page q_savedDepth q_gameSize q_gamePlace q_gameSticks q_gameDepth q_keptDepth q_keptSize q_keptPlace q_keptOn q_keptSticks m_isLawn m_lawns m_wetness m_strength m_days m_balls m_asks m_books m_pageLength m_faultAt m_savedSize m_savedPlace m_savedSticks m_bestSize m_bestFirst m_seedNow m_isKept m_keptLawn m_keptBalls m_keptStrength m_keptDays m_h m_depthOf m_kindOf m_sizeOf m_placeOf m_onOf m_sticksOf m_page m_savedDepth m_gameSize m_gamePlace m_gameSticks m_gameDepth m_keptDepth m_keptSize m_keptPlace m_keptOn m_keptSticks) [(0, .ref mh), (1, .int a1), (2, .int a2), (3, .int x3), (4, .int x4)] 30 [] := by
    intro kk22 hkk22 fu
    induction fu with
    | zero =>
      intro m_savedSize m_savedPlace m_savedSticks m_bestSize m_bestFirst m_depthOf m_sizeOf m_placeOf m_sticksOf m_savedDepth x3 x4
      rewrite [f_X8_layLargest_h30]
      exact s_none
    | succ fu ih =>
      intro m_savedSize m_savedPlace m_savedSticks m_bestSize m_bestFirst m_depthOf m_sizeOf m_placeOf m_sticksOf m_savedDepth x3 x4
      rewrite [f_X8_layLargest_h30]
      refine s_iload K dX8_layLargest_30 4 rfl ?_
      refine s_iload_n K dX8_layLargest_32 rfl 3 rfl ?_
      refine s_bind (fun q hq_9 => ?_)
      obtain ⟨r_8, rfl⟩ : ∃ z, z = q := ⟨_, rfl⟩
      refine s_callS0 (rest := [.int x4]) (st1 := [.int r_8, .int x4]) K (c_X8_power x3 hq_9) hd_X8_power t_818 t_819 t_10 t_820 ⟨(Nat.le_of_ble_eq_true rfl), (Nat.le_of_ble_eq_true rfl)⟩ ⟨rfl, rfl⟩ ⟨Nat.zero_le _, Nat.zero_le _⟩ rfl rfl (Nat.le_of_ble_eq_true rfl) dX8_layLargest_33 ?_
      refine s_icmp_ge (tgt := 101) K dX8_layLargest_36 (by decide) (fun c_10 => ?_) (fun c_10 => ?_)
      · refine s_iinc (lv' := [(3, .int (x3 + 1)), (0, .ref mh), (1, .int a1), (2, .int a2), (4, .int x4)]) K dX8_layLargest_101 3 rfl (kii_1 _) (Nat.le_of_ble_eq_true rfl) rfl ?_
        refine s_goto (tgt := 22) K dX8_layLargest_104 (by decide) ?_
        refine s_lv (lv' := [(0, .ref mh), (1, .int a1), (2, .int a2), (3, .int (x3 + 1))]) [1, 2, 3, 0] rfl ?_
        exact hkk22 m_savedSize m_savedPlace m_savedSticks m_bestSize m_bestFirst m_depthOf m_sizeOf m_placeOf m_sticksOf m_savedDepth (x3 + 1)
      · refine s_aload_n K dX8_layLargest_39 rfl 0 rfl ?_
        refine s_iload_n K dX8_layLargest_40 rfl 1 rfl ?_
        refine s_iload K dX8_layLargest_41 4 rfl ?_
        refine s_iload_n K dX8_layLargest_43 rfl 3 rfl ?_
        refine s_bind (fun q hq_16 => ?_)
        obtain ⟨r_11, m_depthOf_12, m_sizeOf_13, m_placeOf_14, m_sticksOf_15⟩ := q
        refine s_callV (w' := (wM cI cC cB cQ kc mh q_depthOf q_kindOf q_sizeOf q_placeOf q_onOf q_sticksOf q_page q_savedDepth q_gameSize q_gamePlace q_gameSticks q_gameDepth q_keptDepth q_keptSize q_keptPlace q_keptOn q_keptSticks m_isLawn m_lawns m_wetness m_strength m_days m_balls m_asks m_books m_pageLength m_faultAt m_savedSize m_savedPlace m_savedSticks m_bestSize m_bestFirst m_seedNow m_isKept m_keptLawn m_keptBalls m_keptStrength m_keptDays m_h m_depthOf_12 m_kindOf m_sizeOf_13 m_placeOf_14 m_onOf m_sticksOf_15 m_page m_savedDepth m_gameSize m_gamePlace m_gameSticks m_gameDepth m_keptDepth m_keptSize m_keptPlace m_keptOn m_keptSticks)) (rest := []) (st1 := [.int r_11]) K (c_X8_rollsBy mh q_depthOf q_kindOf q_sizeOf q_placeOf q_onOf q_sticksOf q_page q_savedDepth q_gameSize q_gamePlace q_gameSticks q_gameDepth q_keptDepth q_keptSize q_keptPlace q_keptOn q_keptSticks m_isLawn m_lawns m_wetness m_strength m_days m_balls m_asks m_books m_pageLength m_faultAt m_savedSize m_savedPlace m_savedSticks m_bestSize m_bestFirst m_seedNow m_isKept m_keptLawn m_keptBalls m_keptStrength m_keptDays m_h m_depthOf m_kindOf m_sizeOf m_placeOf m_onOf m_sticksOf m_page m_savedDepth m_gameSize m_gamePlace m_gameSticks m_gameDepth m_keptDepth m_keptSize m_keptPlace m_keptOn m_keptSticks a1 x4 x3 hq_16) rfl hd_X8_rollsBy t_821 t_823 ts_26 t_10 t_824 ⟨(Nat.le_of_ble_eq_true rfl), (Nat.le_of_ble_eq_true rfl)⟩ ⟨rfl, rfl⟩ ⟨Nat.zero_le _, Nat.zero_le _⟩ (rv_o K 0 rfl rfl) [0, 1, 2, 3, 4, 5, 6, 7, 8, 9, 10, 11, 12, 13, 14, 15, 16, 17] [] [0, 1, 2, 3, 4, 5, 6, 7, 8, 9, 10, 11, 12, 13, 14, 15, 16, 17] rfl rfl rfl rfl (by decide) rfl rfl rfl rfl (Nat.le_of_ble_eq_true rfl) dX8_layLargest_44 ?_
        refine s_istore (lv' := [(5, .int r_11), (0, .ref mh), (1, .int a1), (2, .int a2), (3, .int x3), (4, .int x4)]) K dX8_layLargest_47 (Nat.le_of_ble_eq_true rfl) rfl ?_
        refine s_aload_n K dX8_layLargest_49 rfl 1 rfl ?_
        refine s_get K 0 rfl rfl inT8 8 (Nat.le_of_ble_eq_true rfl) t_561 rfl rfl dX8_layLargest_50 ?_
        refine s_iload_n K dX8_layLargest_53 rfl 2 rfl ?_
        refine s_ck (fun ho_17 => ?_)
        refine s_iald K 3 0 rfl rfl (ok_in ho_17) rfl dX8_layLargest_54 ?_
        refine s_istore (lv' := [(6, .int (m_sizeOf_13 (Int32.toNatClampNeg a1))), (5, .int r_11), (0, .ref mh), (1, .int a1), (2, .int a2), (3, .int x3), (4, .int x4)]) K dX8_layLargest_55 (Nat.le_of_ble_eq_true rfl) rfl ?_
        refine s_aload_n K dX8_layLargest_57 rfl 2 rfl ?_
        refine s_iload_n K dX8_layLargest_58 rfl 3 rfl ?_
        refine s_bind (fun q hq_22 => ?_)
        obtain ⟨m_depthOf_18, m_sizeOf_19, m_placeOf_20, m_sticksOf_21⟩ := q
        refine s_callV (w' := (wM cI cC cB cQ kc mh q_depthOf q_kindOf q_sizeOf q_placeOf q_onOf q_sticksOf q_page q_savedDepth q_gameSize q_gamePlace q_gameSticks q_gameDepth q_keptDepth q_keptSize q_keptPlace q_keptOn q_keptSticks m_isLawn m_lawns m_wetness m_strength m_days m_balls m_asks m_books m_pageLength m_faultAt m_savedSize m_savedPlace m_savedSticks m_bestSize m_bestFirst m_seedNow m_isKept m_keptLawn m_keptBalls m_keptStrength m_keptDays m_h m_depthOf_18 m_kindOf m_sizeOf_19 m_placeOf_20 m_onOf m_sticksOf_21 m_page m_savedDepth m_gameSize m_gamePlace m_gameSticks m_gameDepth m_keptDepth m_keptSize m_keptPlace m_keptOn m_keptSticks)) (rest := []) (st1 := []) K (c_X8_back mh q_depthOf q_kindOf q_sizeOf q_placeOf q_onOf q_sticksOf q_page q_savedDepth q_gameSize q_gamePlace q_gameSticks q_gameDepth q_keptDepth q_keptSize q_keptPlace q_keptOn q_keptSticks m_isLawn m_lawns m_wetness m_strength m_days m_balls m_asks m_books m_pageLength m_faultAt m_savedSize m_savedPlace m_savedSticks m_bestSize m_bestFirst m_seedNow m_isKept m_keptLawn m_keptBalls m_keptStrength m_keptDays m_h m_depthOf_12 m_kindOf m_sizeOf_13 m_placeOf_14 m_onOf m_sticksOf_15 m_page m_savedDepth m_gameSize m_gamePlace m_gameSticks m_gameDepth m_keptDepth m_keptSize m_keptPlace m_keptOn m_keptSticks a1 hq_22) rfl hd_X8_back t_825 t_827 ts_27 t_10 t_828 ⟨(Nat.le_of_ble_eq_true rfl), (Nat.le_of_ble_eq_true rfl)⟩ ⟨rfl, rfl⟩ ⟨Nat.zero_le _, Nat.zero_le _⟩ (rv_o K 0 rfl rfl) [0, 1, 2, 3, 4, 5, 6, 7, 8, 9, 10, 11, 12, 13, 14, 15, 16, 17] [] [0, 1, 2, 3, 4, 5, 6, 7, 8, 9, 10, 11, 12, 13, 14, 15, 16, 17] rfl rfl rfl rfl (by decide) rfl rfl rfl rfl (Nat.le_of_ble_eq_true rfl) dX8_layLargest_59 ?_
        refine s_iload K dX8_layLargest_62 1 rfl ?_
        refine s_if_eq (tgt := 95) K dX8_layLargest_64 (by decide) (fun c_23 => ?_) (fun c_23 => ?_)
        · refine s_iinc (lv' := [(4, .int (x4 + 1)), (6, .int (m_sizeOf_13 (Int32.toNatClampNeg a1))), (5, .int r_11), (0, .ref mh), (1, .int a1), (2, .int a2), (3, .int x3)]) K dX8_layLargest_95 6 rfl (kii_1 _) (Nat.le_of_ble_eq_true rfl) rfl ?_
          refine s_goto (tgt := 30) K dX8_layLargest_98 (by decide) ?_
          refine s_lv (lv' := [(0, .ref mh), (1, .int a1), (2, .int a2), (3, .int x3), (4, .int (x4 + 1))]) [3, 4, 5, 6, 0] rfl ?_
          exact ih m_savedSize m_savedPlace m_savedSticks m_bestSize m_bestFirst m_depthOf_18 m_sizeOf_19 m_placeOf_20 m_sticksOf_21 m_savedDepth x3 (x4 + 1)
        · refine s_iload K dX8_layLargest_67 0 rfl ?_
          refine s_aload_n K dX8_layLargest_69 rfl 2 rfl ?_
          refine s_get K 0 rfl rfl inT8 21 (Nat.le_of_ble_eq_true rfl) t_574 rfl rfl dX8_layLargest_70 ?_
          refine s_icmp_le (tgt := 95) K dX8_layLargest_73 (by decide) (fun c_24 => ?_) (fun c_24 => ?_)
          · refine s_iinc (lv' := [(4, .int (x4 + 1)), (6, .int (m_sizeOf_13 (Int32.toNatClampNeg a1))), (5, .int r_11), (0, .ref mh), (1, .int a1), (2, .int a2), (3, .int x3)]) K dX8_layLargest_95 6 rfl (kii_1 _) (Nat.le_of_ble_eq_true rfl) rfl ?_
            refine s_goto (tgt := 30) K dX8_layLargest_98 (by decide) ?_
            refine s_lv (lv' := [(0, .ref mh), (1, .int a1), (2, .int a2), (3, .int x3), (4, .int (x4 + 1))]) [3, 4, 5, 6, 0] rfl ?_
            exact ih m_savedSize m_savedPlace m_savedSticks m_bestSize m_bestFirst m_depthOf_18 m_sizeOf_19 m_placeOf_20 m_sticksOf_21 m_savedDepth x3 (x4 + 1)
          · refine s_aload_n K dX8_layLargest_76 rfl 2 rfl ?_
            refine s_iload K dX8_layLargest_77 0 rfl ?_
            refine s_put (w' := (wM cI cC cB cQ kc mh q_depthOf q_kindOf q_sizeOf q_placeOf q_onOf q_sticksOf q_page q_savedDepth q_gameSize q_gamePlace q_gameSticks q_gameDepth q_keptDepth q_keptSize q_keptPlace q_keptOn q_keptSticks m_isLawn m_lawns m_wetness m_strength m_days m_balls m_asks m_books m_pageLength m_faultAt m_savedSize m_savedPlace m_savedSticks (m_sizeOf_13 (Int32.toNatClampNeg a1)) m_bestFirst m_seedNow m_isKept m_keptLawn m_keptBalls m_keptStrength m_keptDays m_h m_depthOf_18 m_kindOf m_sizeOf_19 m_placeOf_20 m_onOf m_sticksOf_21 m_page m_savedDepth m_gameSize m_gamePlace m_gameSticks m_gameDepth m_keptDepth m_keptSize m_keptPlace m_keptOn m_keptSticks)) K 0 rfl rfl inT8 tyX8_ok nmX8 21 (Nat.le_of_ble_eq_true rfl) t_574 rfl rfl rfl rfl (Nat.le_of_ble_eq_true rfl) rfl dX8_layLargest_79 ?_
            refine s_aload_n K dX8_layLargest_82 rfl 2 rfl ?_
            refine s_iload K dX8_layLargest_83 6 rfl ?_
            refine s_iload_n K dX8_layLargest_85 rfl 5 rfl ?_
            refine s_iconst K dX8_layLargest_86 kic_1 ?_
            refine s_isub K dX8_layLargest_87 ?_
            refine s_bind (fun q hq_26 => ?_)
            obtain ⟨r_25, rfl⟩ : ∃ z, z = q := ⟨_, rfl⟩
            refine s_callS0 (rest := [.int x4, .ref mh]) (st1 := [.int r_25, .int x4, .ref mh]) K (c_X8_power (x3 - 1) hq_26) hd_X8_power t_818 t_819 t_10 t_820 ⟨(Nat.le_of_ble_eq_true rfl), (Nat.le_of_ble_eq_true rfl)⟩ ⟨rfl, rfl⟩ ⟨Nat.zero_le _, Nat.zero_le _⟩ rfl rfl (Nat.le_of_ble_eq_true rfl) dX8_layLargest_88 ?_
            refine s_ck (fun hz_27 => ?_)
            refine s_idiv K dX8_layLargest_91 hz_27 ?_
            refine s_put (w' := (wM cI cC cB cQ kc mh q_depthOf q_kindOf q_sizeOf q_placeOf q_onOf q_sticksOf q_page q_savedDepth q_gameSize q_gamePlace q_gameSticks q_gameDepth q_keptDepth q_keptSize q_keptPlace q_keptOn q_keptSticks m_isLawn m_lawns m_wetness m_strength m_days m_balls m_asks m_books m_pageLength m_faultAt m_savedSize m_savedPlace m_savedSticks (m_sizeOf_13 (Int32.toNatClampNeg a1)) (x4 / r_25) m_seedNow m_isKept m_keptLawn m_keptBalls m_keptStrength m_keptDays m_h m_depthOf_18 m_kindOf m_sizeOf_19 m_placeOf_20 m_onOf m_sticksOf_21 m_page m_savedDepth m_gameSize m_gamePlace m_gameSticks m_gameDepth m_keptDepth m_keptSize m_keptPlace m_keptOn m_keptSticks)) K 0 rfl rfl inT8 tyX8_ok nmX8 22 (Nat.le_of_ble_eq_true rfl) t_575 rfl rfl rfl rfl (Nat.le_of_ble_eq_true rfl) rfl dX8_layLargest_92 ?_
            refine s_iinc (lv' := [(4, .int (x4 + 1)), (6, .int (m_sizeOf_13 (Int32.toNatClampNeg a1))), (5, .int r_11), (0, .ref mh), (1, .int a1), (2, .int a2), (3, .int x3)]) K dX8_layLargest_95 6 rfl (kii_1 _) (Nat.le_of_ble_eq_true rfl) rfl ?_
            refine s_goto (tgt := 30) K dX8_layLargest_98 (by decide) ?_
            refine s_lv (lv' := [(0, .ref mh), (1, .int a1), (2, .int a2), (3, .int x3), (4, .int (x4 + 1))]) [3, 4, 5, 6, 0] rfl ?_
            exact ih m_savedSize m_savedPlace m_savedSticks (m_sizeOf_13 (Int32.toNatClampNeg a1)) (x4 / r_25) m_depthOf_18 m_sizeOf_19 m_placeOf_20 m_sticksOf_21 m_savedDepth x3 (x4 + 1)
  have L22 : ∀ (fu : Nat) (m_savedSize m_savedPlace m_savedSticks m_bestSize m_bestFirst : Int32) (m_depthOf m_sizeOf m_placeOf m_sticksOf m_savedDepth : Nat → Int32) (x3 : Int32), Sw (ρ := Int32 × Int32 × Int32 × Int32 × Int32 × (Nat → Int32) × (Nat → Int32) × (Nat → Int32) × (Nat → Int32) × (Nat → Int32)) p l e ({ frames := 5, cells := 0, slots := 0, locals := 295 } : Room) s m args below meth c 0 0 D A 7 (fun r => MQ below (CQ D ((fun (r : Int32 × Int32 × Int32 × Int32 × Int32 × (Nat → Int32) × (Nat → Int32) × (Nat → Int32) × (Nat → Int32) × (Nat → Int32)) => (wM cI cC cB cQ kc mh q_depthOf q_kindOf q_sizeOf q_placeOf q_onOf q_sticksOf q_page q_savedDepth q_gameSize q_gamePlace q_gameSticks q_gameDepth q_keptDepth q_keptSize q_keptPlace q_keptOn q_keptSticks m_isLawn m_lawns m_wetness m_strength m_days m_balls m_asks m_books m_pageLength m_faultAt (r.1) (r.2.1) (r.2.2.1) (r.2.2.2.1) (r.2.2.2.2.1) m_seedNow m_isKept m_keptLawn m_keptBalls m_keptStrength m_keptDays m_h (r.2.2.2.2.2.1) m_kindOf (r.2.2.2.2.2.2.1) (r.2.2.2.2.2.2.2.1) m_onOf (r.2.2.2.2.2.2.2.2.1) m_page (r.2.2.2.2.2.2.2.2.2) m_gameSize m_gamePlace m_gameSticks m_gameDepth m_keptDepth m_keptSize m_keptPlace m_keptOn m_keptSticks)) r) ((fun (r : Int32 × Int32 × Int32 × Int32 × Int32 × (Nat → Int32) × (Nat → Int32) × (Nat → Int32) × (Nat → Int32) × (Nat → Int32)) => none) r) A) args s 0 0 A) (f_X8_layLargest_h22 m_wetness m_strength m_balls m_kindOf m_onOf a1 a2 fu m_savedSize m_savedPlace m_savedSticks m_bestSize m_bestFirst m_depthOf m_sizeOf m_placeOf m_sticksOf m_savedDepth x3) (wM cI cC cB cQ kc mh q_depthOf q_kindOf q_sizeOf q_placeOf q_onOf q_sticksOf q_page q_savedDepth q_gameSize q_gamePlace q_gameSticks q_gameDepth q_keptDepth q_keptSize q_keptPlace q_keptOn q_keptSticks m_isLawn m_lawns m_wetness m_strength m_days m_balls m_asks m_books m_pageLength m_faultAt m_savedSize m_savedPlace m_savedSticks m_bestSize m_bestFirst m_seedNow m_isKept m_keptLawn m_keptBalls m_keptStrength m_keptDays m_h m_depthOf m_kindOf m_sizeOf m_placeOf m_onOf m_sticksOf m_page m_savedDepth m_gameSize m_gamePlace m_gameSticks m_gameDepth m_keptDepth m_keptSize m_keptPlace m_keptOn m_keptSticks) [(0, .ref mh), (1, .int a1), (2, .int a2), (3, .int x3)] 22 [] := by
    intro  fu
    induction fu with
    | zero =>
      intro m_savedSize m_savedPlace m_savedSticks m_bestSize m_bestFirst m_depthOf m_sizeOf m_placeOf m_sticksOf m_savedDepth x3
      rewrite [f_X8_layLargest_h22]
      exact s_none
    | succ fu ih =>
      intro m_savedSize m_savedPlace m_savedSticks m_bestSize m_bestFirst m_depthOf m_sizeOf m_placeOf m_sticksOf m_savedDepth x3
      rewrite [f_X8_layLargest_h22]
      refine s_iload_n K dX8_layLargest_22 rfl 3 rfl ?_
      refine s_iload_n K dX8_layLargest_23 rfl 2 rfl ?_
      refine s_icmp_gt (tgt := 107) K dX8_layLargest_24 (by decide) (fun c_7 => ?_) (fun c_7 => ?_)
      · exact s_vret K hret hlk rfl rfl dX8_layLargest_107
      · refine s_iconst K dX8_layLargest_27 kic_0 ?_
        refine s_istore (lv' := [(4, .int 0), (0, .ref mh), (1, .int a1), (2, .int a2), (3, .int x3)]) K dX8_layLargest_28 (Nat.le_of_ble_eq_true rfl) rfl ?_
        refine s_lv (lv' := [(0, .ref mh), (1, .int a1), (2, .int a2), (3, .int x3), (4, .int 0)]) [1, 2, 3, 4, 0] rfl ?_
        exact L30 _ (fun m_savedSize m_savedPlace m_savedSticks m_bestSize m_bestFirst m_depthOf m_sizeOf m_placeOf m_sticksOf m_savedDepth x3 => ih m_savedSize m_savedPlace m_savedSticks m_bestSize m_bestFirst m_depthOf m_sizeOf m_placeOf m_sticksOf m_savedDepth x3) 4100 m_savedSize m_savedPlace m_savedSticks m_bestSize m_bestFirst m_depthOf m_sizeOf m_placeOf m_sticksOf m_savedDepth x3 0
  rewrite [f_X8_layLargest]
  refine s_aload_n K dX8_layLargest_0 rfl 0 rfl ?_
  refine s_aload_n K dX8_layLargest_1 rfl 0 rfl ?_
  refine s_get K 0 rfl rfl inT8 8 (Nat.le_of_ble_eq_true rfl) t_561 rfl rfl dX8_layLargest_2 ?_
  refine s_iload_n K dX8_layLargest_5 rfl 1 rfl ?_
  refine s_ck (fun ho_1 => ?_)
  refine s_iald K 3 0 rfl rfl (ok_in ho_1) rfl dX8_layLargest_6 ?_
  refine s_put (w' := (wM cI cC cB cQ kc mh q_depthOf q_kindOf q_sizeOf q_placeOf q_onOf q_sticksOf q_page q_savedDepth q_gameSize q_gamePlace q_gameSticks q_gameDepth q_keptDepth q_keptSize q_keptPlace q_keptOn q_keptSticks m_isLawn m_lawns m_wetness m_strength m_days m_balls m_asks m_books m_pageLength m_faultAt m_savedSize m_savedPlace m_savedSticks (m_sizeOf (Int32.toNatClampNeg a1)) m_bestFirst m_seedNow m_isKept m_keptLawn m_keptBalls m_keptStrength m_keptDays m_h m_depthOf m_kindOf m_sizeOf m_placeOf m_onOf m_sticksOf m_page m_savedDepth m_gameSize m_gamePlace m_gameSticks m_gameDepth m_keptDepth m_keptSize m_keptPlace m_keptOn m_keptSticks)) K 0 rfl rfl inT8 tyX8_ok nmX8 21 (Nat.le_of_ble_eq_true rfl) t_574 rfl rfl rfl rfl (Nat.le_of_ble_eq_true rfl) rfl dX8_layLargest_7 ?_
  refine s_aload_n K dX8_layLargest_10 rfl 0 rfl ?_
  refine s_iconst K dX8_layLargest_11 kic_m1 ?_
  refine s_put (w' := (wM cI cC cB cQ kc mh q_depthOf q_kindOf q_sizeOf q_placeOf q_onOf q_sticksOf q_page q_savedDepth q_gameSize q_gamePlace q_gameSticks q_gameDepth q_keptDepth q_keptSize q_keptPlace q_keptOn q_keptSticks m_isLawn m_lawns m_wetness m_strength m_days m_balls m_asks m_books m_pageLength m_faultAt m_savedSize m_savedPlace m_savedSticks (m_sizeOf (Int32.toNatClampNeg a1)) (-1) m_seedNow m_isKept m_keptLawn m_keptBalls m_keptStrength m_keptDays m_h m_depthOf m_kindOf m_sizeOf m_placeOf m_onOf m_sticksOf m_page m_savedDepth m_gameSize m_gamePlace m_gameSticks m_gameDepth m_keptDepth m_keptSize m_keptPlace m_keptOn m_keptSticks)) K 0 rfl rfl inT8 tyX8_ok nmX8 22 (Nat.le_of_ble_eq_true rfl) t_575 rfl rfl rfl rfl (Nat.le_of_ble_eq_true rfl) rfl dX8_layLargest_12 ?_
  refine s_aload_n K dX8_layLargest_15 rfl 0 rfl ?_
  refine s_iload_n K dX8_layLargest_16 rfl 1 rfl ?_
  refine s_bind (fun q hq_6 => ?_)
  obtain ⟨m_savedSize_2, m_savedPlace_3, m_savedSticks_4, m_savedDepth_5⟩ := q
  refine s_callV (w' := (wM cI cC cB cQ kc mh q_depthOf q_kindOf q_sizeOf q_placeOf q_onOf q_sticksOf q_page q_savedDepth q_gameSize q_gamePlace q_gameSticks q_gameDepth q_keptDepth q_keptSize q_keptPlace q_keptOn q_keptSticks m_isLawn m_lawns m_wetness m_strength m_days m_balls m_asks m_books m_pageLength m_faultAt m_savedSize_2 m_savedPlace_3 m_savedSticks_4 (m_sizeOf (Int32.toNatClampNeg a1)) (-1) m_seedNow m_isKept m_keptLawn m_keptBalls m_keptStrength m_keptDays m_h m_depthOf m_kindOf m_sizeOf m_placeOf m_onOf m_sticksOf m_page m_savedDepth_5 m_gameSize m_gamePlace m_gameSticks m_gameDepth m_keptDepth m_keptSize m_keptPlace m_keptOn m_keptSticks)) (rest := []) (st1 := []) K (c_X8_save mh q_depthOf q_kindOf q_sizeOf q_placeOf q_onOf q_sticksOf q_page q_savedDepth q_gameSize q_gamePlace q_gameSticks q_gameDepth q_keptDepth q_keptSize q_keptPlace q_keptOn q_keptSticks m_isLawn m_lawns m_wetness m_strength m_days m_balls m_asks m_books m_pageLength m_faultAt m_savedSize m_savedPlace m_savedSticks (m_sizeOf (Int32.toNatClampNeg a1)) (-1) m_seedNow m_isKept m_keptLawn m_keptBalls m_keptStrength m_keptDays m_h m_depthOf m_kindOf m_sizeOf m_placeOf m_onOf m_sticksOf m_page m_savedDepth m_gameSize m_gamePlace m_gameSticks m_gameDepth m_keptDepth m_keptSize m_keptPlace m_keptOn m_keptSticks a1 hq_6) rfl hd_X8_save t_814 t_816 ts_25 t_10 t_817 ⟨(Nat.le_of_ble_eq_true rfl), (Nat.le_of_ble_eq_true rfl)⟩ ⟨rfl, rfl⟩ ⟨Nat.zero_le _, Nat.zero_le _⟩ (rv_o K 0 rfl rfl) [0, 1, 2, 3, 4, 5, 6, 7, 8, 9, 10, 11, 12, 13, 14, 15, 16, 17] [] [0, 1, 2, 3, 4, 5, 6, 7, 8, 9, 10, 11, 12, 13, 14, 15, 16, 17] rfl rfl rfl rfl (by decide) rfl rfl rfl rfl (Nat.le_of_ble_eq_true rfl) dX8_layLargest_17 ?_
  refine s_iconst K dX8_layLargest_20 kic_1 ?_
  refine s_istore_n (lv' := [(3, .int 1), (0, .ref mh), (1, .int a1), (2, .int a2)]) K dX8_layLargest_21 rfl (Nat.le_of_ble_eq_true rfl) rfl ?_
  refine s_lv (lv' := [(0, .ref mh), (1, .int a1), (2, .int a2), (3, .int 1)]) [1, 2, 3, 0] rfl ?_
  exact L22 4100 m_savedSize_2 m_savedPlace_3 m_savedSticks_4 (m_sizeOf (Int32.toNatClampNeg a1)) (-1) m_depthOf m_sizeOf m_placeOf m_sticksOf m_savedDepth_5 1
set_option maxHeartbeats 4000000 in
set_option maxRecDepth 100000 in
theorem c_X8_largest {l : Launch} {D : va_G} {cI cC cB cQ : ClassId} {kc : Nat → Nat} {kt : Nat} (mh q_depthOf q_kindOf q_sizeOf q_placeOf q_onOf q_sticksOf q_page q_savedDepth q_gameSize q_gamePlace q_gameSticks q_gameDepth q_keptDepth q_keptSize q_keptPlace q_keptOn q_keptSticks : Nat) (m_isLawn m_lawns m_wetness m_strength m_days m_balls m_asks m_books m_pageLength m_faultAt m_savedSize m_savedPlace m_savedSticks m_bestSize m_bestFirst : Int32) (m_seedNow : Int64) (m_isKept m_keptLawn m_keptBalls m_keptStrength m_keptDays : Int32) (m_h : Int64) (m_depthOf m_kindOf m_sizeOf m_placeOf m_onOf m_sticksOf m_page m_savedDepth m_gameSize m_gamePlace m_gameSticks m_gameDepth m_keptDepth m_keptSize m_keptPlace m_keptOn m_keptSticks : Nat → Int32) (a1 a2 a3 : Int32) {r : Int32 × Int32 × Int32 × Int32 × Int32 × Int32 × Int32 × (Nat → Int32) × (Nat → Int32) × (Nat → Int32) × (Nat → Int32) × (Nat → Int32)} (hF : f_X8_largest m_wetness m_strength m_balls m_asks m_savedSize m_savedPlace m_savedSticks m_bestSize m_bestFirst m_depthOf m_kindOf m_sizeOf m_placeOf m_onOf m_sticksOf m_savedDepth a1 a2 a3 = some r) : CT l D (tysOf cI cC cB cQ) kc kt yX8_largest cX8_largest 4 (some .int) ({ frames := 6, cells := 0, slots := 0, locals := 361 } : Room) [.ref mh, .int a1, .int a2, .int a3] (wM cI cC cB cQ kc mh q_depthOf q_kindOf q_sizeOf q_placeOf q_onOf q_sticksOf q_page q_savedDepth q_gameSize q_gamePlace q_gameSticks q_gameDepth q_keptDepth q_keptSize q_keptPlace q_keptOn q_keptSticks m_isLawn m_lawns m_wetness m_strength m_days m_balls m_asks m_books m_pageLength m_faultAt m_savedSize m_savedPlace m_savedSticks m_bestSize m_bestFirst m_seedNow m_isKept m_keptLawn m_keptBalls m_keptStrength m_keptDays m_h m_depthOf m_kindOf m_sizeOf m_placeOf m_onOf m_sticksOf m_page m_savedDepth m_gameSize m_gamePlace m_gameSticks m_gameDepth m_keptDepth m_keptSize m_keptPlace m_keptOn m_keptSticks) ((fun (r : Int32 × Int32 × Int32 × Int32 × Int32 × Int32 × Int32 × (Nat → Int32) × (Nat → Int32) × (Nat → Int32) × (Nat → Int32) × (Nat → Int32)) => (wM cI cC cB cQ kc mh q_depthOf q_kindOf q_sizeOf q_placeOf q_onOf q_sticksOf q_page q_savedDepth q_gameSize q_gamePlace q_gameSticks q_gameDepth q_keptDepth q_keptSize q_keptPlace q_keptOn q_keptSticks m_isLawn m_lawns m_wetness m_strength m_days m_balls (r.2.1) m_books m_pageLength m_faultAt (r.2.2.1) (r.2.2.2.1) (r.2.2.2.2.1) (r.2.2.2.2.2.1) (r.2.2.2.2.2.2.1) m_seedNow m_isKept m_keptLawn m_keptBalls m_keptStrength m_keptDays m_h (r.2.2.2.2.2.2.2.1) m_kindOf (r.2.2.2.2.2.2.2.2.1) (r.2.2.2.2.2.2.2.2.2.1) m_onOf (r.2.2.2.2.2.2.2.2.2.2.1) m_page (r.2.2.2.2.2.2.2.2.2.2.2) m_gameSize m_gamePlace m_gameSticks m_gameDepth m_keptDepth m_keptSize m_keptPlace m_keptOn m_keptSticks)) r) ((fun (r : Int32 × Int32 × Int32 × Int32 × Int32 × Int32 × Int32 × (Nat → Int32) × (Nat → Int32) × (Nat → Int32) × (Nat → Int32) × (Nat → Int32)) => some (.int (r.1))) r) := by
  refine CT.of (ww := (fun (r : Int32 × Int32 × Int32 × Int32 × Int32 × Int32 × Int32 × (Nat → Int32) × (Nat → Int32) × (Nat → Int32) × (Nat → Int32) × (Nat → Int32)) => (wM cI cC cB cQ kc mh q_depthOf q_kindOf q_sizeOf q_placeOf q_onOf q_sticksOf q_page q_savedDepth q_gameSize q_gamePlace q_gameSticks q_gameDepth q_keptDepth q_keptSize q_keptPlace q_keptOn q_keptSticks m_isLawn m_lawns m_wetness m_strength m_days m_balls (r.2.1) m_books m_pageLength m_faultAt (r.2.2.1) (r.2.2.2.1) (r.2.2.2.2.1) (r.2.2.2.2.2.1) (r.2.2.2.2.2.2.1) m_seedNow m_isKept m_keptLawn m_keptBalls m_keptStrength m_keptDays m_h (r.2.2.2.2.2.2.2.1) m_kindOf (r.2.2.2.2.2.2.2.2.1) (r.2.2.2.2.2.2.2.2.2.1) m_onOf (r.2.2.2.2.2.2.2.2.2.2.1) m_page (r.2.2.2.2.2.2.2.2.2.2.2) m_gameSize m_gamePlace m_gameSticks m_gameDepth m_keptDepth m_keptSize m_keptPlace m_keptOn m_keptSticks))) (oo := (fun (r : Int32 × Int32 × Int32 × Int32 × Int32 × Int32 × Int32 × (Nat → Int32) × (Nat → Int32) × (Nat → Int32) × (Nat → Int32) × (Nat → Int32)) => some (.int (r.1)))) hF RX8 rfl rfl (Nat.le_of_ble_eq_true rfl) ?_
  intro p e s m args below meth c A K hret hlk
  rewrite [f_X8_largest]
  refine s_aload_n K dX8_largest_0 rfl 0 rfl ?_
  refine s_iload_n K dX8_largest_1 rfl 1 rfl ?_
  refine s_bind (fun q hq_2 => ?_)
  obtain ⟨r_1, rfl⟩ : ∃ z, z = q := ⟨_, rfl⟩
  refine s_callV (w' := (wM cI cC cB cQ kc mh q_depthOf q_kindOf q_sizeOf q_placeOf q_onOf q_sticksOf q_page q_savedDepth q_gameSize q_gamePlace q_gameSticks q_gameDepth q_keptDepth q_keptSize q_keptPlace q_keptOn q_keptSticks m_isLawn m_lawns m_wetness m_strength m_days m_balls m_asks m_books m_pageLength m_faultAt m_savedSize m_savedPlace m_savedSticks m_bestSize m_bestFirst m_seedNow m_isKept m_keptLawn m_keptBalls m_keptStrength m_keptDays m_h m_depthOf m_kindOf m_sizeOf m_placeOf m_onOf m_sticksOf m_page m_savedDepth m_gameSize m_gamePlace m_gameSticks m_gameDepth m_keptDepth m_keptSize m_keptPlace m_keptOn m_keptSticks)) (rest := []) (st1 := [.int r_1]) K (c_X8_isBall mh q_depthOf q_kindOf q_sizeOf q_placeOf q_onOf q_sticksOf q_page q_savedDepth q_gameSize q_gamePlace q_gameSticks q_gameDepth q_keptDepth q_keptSize q_keptPlace q_keptOn q_keptSticks m_isLawn m_lawns m_wetness m_strength m_days m_balls m_asks m_books m_pageLength m_faultAt m_savedSize m_savedPlace m_savedSticks m_bestSize m_bestFirst m_seedNow m_isKept m_keptLawn m_keptBalls m_keptStrength m_keptDays m_h m_depthOf m_kindOf m_sizeOf m_placeOf m_onOf m_sticksOf m_page m_savedDepth m_gameSize m_gamePlace m_gameSticks m_gameDepth m_keptDepth m_keptSize m_keptPlace m_keptOn m_keptSticks a1 hq_2) rfl hd_X8_isBall t_733 t_735 ts_13 t_10 t_736 ⟨(Nat.le_of_ble_eq_true rfl), (Nat.le_of_ble_eq_true rfl)⟩ ⟨rfl, rfl⟩ ⟨Nat.zero_le _, Nat.zero_le _⟩ (rv_o K 0 rfl rfl) [0, 1, 2, 3, 4, 5, 6, 7, 8, 9, 10, 11, 12, 13, 14, 15, 16, 17] [] [0, 1, 2, 3, 4, 5, 6, 7, 8, 9, 10, 11, 12, 13, 14, 15, 16, 17] rfl rfl rfl rfl (by decide) rfl rfl rfl rfl (Nat.le_of_ble_eq_true rfl) dX8_largest_2 ?_
  refine s_if_ne (tgt := 11) K dX8_largest_5 (by decide) (fun c_3 => ?_) (fun c_3 => ?_)
  · refine s_bipush K dX8_largest_8 kib_m101 ?_
    exact s_iret K hret hlk rfl rfl dX8_largest_10
  · refine s_iload_n K dX8_largest_11 rfl 2 rfl ?_
    refine s_iconst K dX8_largest_12 kic_0 ?_
    refine s_bipush K dX8_largest_13 kib_6 ?_
    refine s_bind (fun q hq_5 => ?_)
    obtain ⟨r_4, rfl⟩ : ∃ z, z = q := ⟨_, rfl⟩
    refine s_callS0 (rest := []) (st1 := [.int r_4]) K (c_X8_within a2 0 6 hq_5) hd_X8_within t_676 t_677 t_10 t_678 ⟨(Nat.le_of_ble_eq_true rfl), (Nat.le_of_ble_eq_true rfl)⟩ ⟨rfl, rfl⟩ ⟨Nat.zero_le _, Nat.zero_le _⟩ rfl rfl (Nat.le_of_ble_eq_true rfl) dX8_largest_15 ?_
    refine s_if_eq (tgt := 30) K dX8_largest_18 (by decide) (fun c_6 => ?_) (fun c_6 => ?_)
    · refine s_bipush K dX8_largest_30 kib_m102 ?_
      exact s_iret K hret hlk rfl rfl dX8_largest_32
    · refine s_iload_n K dX8_largest_21 rfl 3 rfl ?_
      refine s_iconst K dX8_largest_22 kic_0 ?_
      refine s_iconst K dX8_largest_23 kic_1 ?_
      refine s_bind (fun q hq_8 => ?_)
      obtain ⟨r_7, rfl⟩ : ∃ z, z = q := ⟨_, rfl⟩
      refine s_callS0 (rest := []) (st1 := [.int r_7]) K (c_X8_within a3 0 1 hq_8) hd_X8_within t_676 t_677 t_10 t_678 ⟨(Nat.le_of_ble_eq_true rfl), (Nat.le_of_ble_eq_true rfl)⟩ ⟨rfl, rfl⟩ ⟨Nat.zero_le _, Nat.zero_le _⟩ rfl rfl (Nat.le_of_ble_eq_true rfl) dX8_largest_24 ?_
      refine s_if_ne (tgt := 33) K dX8_largest_27 (by decide) (fun c_9 => ?_) (fun c_9 => ?_)
      · refine s_bipush K dX8_largest_30 kib_m102 ?_
        exact s_iret K hret hlk rfl rfl dX8_largest_32
      · refine s_aload_n K dX8_largest_33 rfl 0 rfl ?_
        refine s_get K 0 rfl rfl inT8 9 (Nat.le_of_ble_eq_true rfl) t_562 rfl rfl dX8_largest_34 ?_
        refine s_iload_n K dX8_largest_37 rfl 1 rfl ?_
        refine s_ck (fun ho_10 => ?_)
        refine s_iald K 4 0 rfl rfl (ok_in ho_10) rfl dX8_largest_38 ?_
        refine s_iconst K dX8_largest_39 kic_m1 ?_
        refine s_icmp_eq (tgt := 52) K dX8_largest_40 (by decide) (fun c_11 => ?_) (fun c_11 => ?_)
        · refine s_bipush K dX8_largest_52 kib_m103 ?_
          exact s_iret K hret hlk rfl rfl dX8_largest_54
        · refine s_aload_n K dX8_largest_43 rfl 0 rfl ?_
          refine s_get K 0 rfl rfl inT8 12 (Nat.le_of_ble_eq_true rfl) t_565 rfl rfl dX8_largest_44 ?_
          refine s_bipush K dX8_largest_47 kib_60 ?_
          refine s_icmp_ne (tgt := 55) K dX8_largest_49 (by decide) (fun c_12 => ?_) (fun c_12 => ?_)
          · refine s_bipush K dX8_largest_52 kib_m103 ?_
            exact s_iret K hret hlk rfl rfl dX8_largest_54
          · refine s_aload_n K dX8_largest_55 rfl 0 rfl ?_
            refine s_dup K dX8_largest_56 rfl ?_
            refine s_get K 0 rfl rfl inT8 12 (Nat.le_of_ble_eq_true rfl) t_565 rfl rfl dX8_largest_57 ?_
            refine s_iconst K dX8_largest_60 kic_1 ?_
            refine s_iadd K dX8_largest_61 ?_
            refine s_put (w' := (wM cI cC cB cQ kc mh q_depthOf q_kindOf q_sizeOf q_placeOf q_onOf q_sticksOf q_page q_savedDepth q_gameSize q_gamePlace q_gameSticks q_gameDepth q_keptDepth q_keptSize q_keptPlace q_keptOn q_keptSticks m_isLawn m_lawns m_wetness m_strength m_days m_balls (m_asks + 1) m_books m_pageLength m_faultAt m_savedSize m_savedPlace m_savedSticks m_bestSize m_bestFirst m_seedNow m_isKept m_keptLawn m_keptBalls m_keptStrength m_keptDays m_h m_depthOf m_kindOf m_sizeOf m_placeOf m_onOf m_sticksOf m_page m_savedDepth m_gameSize m_gamePlace m_gameSticks m_gameDepth m_keptDepth m_keptSize m_keptPlace m_keptOn m_keptSticks)) K 0 rfl rfl inT8 tyX8_ok nmX8 12 (Nat.le_of_ble_eq_true rfl) t_565 rfl rfl rfl rfl (Nat.le_of_ble_eq_true rfl) rfl dX8_largest_62 ?_
            refine s_aload_n K dX8_largest_65 rfl 0 rfl ?_
            refine s_iload_n K dX8_largest_66 rfl 1 rfl ?_
            refine s_iload_n K dX8_largest_67 rfl 2 rfl ?_
            refine s_bind (fun q hq_23 => ?_)
            obtain ⟨m_savedSize_13, m_savedPlace_14, m_savedSticks_15, m_bestSize_16, m_bestFirst_17, m_depthOf_18, m_sizeOf_19, m_placeOf_20, m_sticksOf_21, m_savedDepth_22⟩ := q
            refine s_callV (w' := (wM cI cC cB cQ kc mh q_depthOf q_kindOf q_sizeOf q_placeOf q_onOf q_sticksOf q_page q_savedDepth q_gameSize q_gamePlace q_gameSticks q_gameDepth q_keptDepth q_keptSize q_keptPlace q_keptOn q_keptSticks m_isLawn m_lawns m_wetness m_strength m_days m_balls (m_asks + 1) m_books m_pageLength m_faultAt m_savedSize_13 m_savedPlace_14 m_savedSticks_15 m_bestSize_16 m_bestFirst_17 m_seedNow m_isKept m_keptLawn m_keptBalls m_keptStrength m_keptDays m_h m_depthOf_18 m_kindOf m_sizeOf_19 m_placeOf_20 m_onOf m_sticksOf_21 m_page m_savedDepth_22 m_gameSize m_gamePlace m_gameSticks m_gameDepth m_keptDepth m_keptSize m_keptPlace m_keptOn m_keptSticks)) (rest := []) (st1 := []) K (c_X8_layLargest mh q_depthOf q_kindOf q_sizeOf q_placeOf q_onOf q_sticksOf q_page q_savedDepth q_gameSize q_gamePlace q_gameSticks q_gameDepth q_keptDepth q_keptSize q_keptPlace q_keptOn q_keptSticks m_isLawn m_lawns m_wetness m_strength m_days m_balls (m_asks + 1) m_books m_pageLength m_faultAt m_savedSize m_savedPlace m_savedSticks m_bestSize m_bestFirst m_seedNow m_isKept m_keptLawn m_keptBalls m_keptStrength m_keptDays m_h m_depthOf m_kindOf m_sizeOf m_placeOf m_onOf m_sticksOf m_page m_savedDepth m_gameSize m_gamePlace m_gameSticks m_gameDepth m_keptDepth m_keptSize m_keptPlace m_keptOn m_keptSticks a1 a2 hq_23) rfl hd_X8_layLargest t_810 t_812 ts_24 t_10 t_813 ⟨(Nat.le_of_ble_eq_true rfl), (Nat.le_of_ble_eq_true rfl)⟩ ⟨rfl, rfl⟩ ⟨Nat.zero_le _, Nat.zero_le _⟩ (rv_o K 0 rfl rfl) [0, 1, 2, 3, 4, 5, 6, 7, 8, 9, 10, 11, 12, 13, 14, 15, 16, 17] [] [0, 1, 2, 3, 4, 5, 6, 7, 8, 9, 10, 11, 12, 13, 14, 15, 16, 17] rfl rfl rfl rfl (by decide) rfl rfl rfl rfl (Nat.le_of_ble_eq_true rfl) dX8_largest_68 ?_
            refine s_iload_n K dX8_largest_71 rfl 3 rfl ?_
            refine s_if_ne (tgt := 82) K dX8_largest_72 (by decide) (fun c_24 => ?_) (fun c_24 => ?_)
            · refine s_aload_n K dX8_largest_75 rfl 0 rfl ?_
              refine s_get K 0 rfl rfl inT8 21 (Nat.le_of_ble_eq_true rfl) t_574 rfl rfl dX8_largest_76 ?_
              refine s_goto (tgt := 86) K dX8_largest_79 (by decide) ?_
              exact s_iret K hret hlk rfl rfl dX8_largest_86
            · refine s_aload_n K dX8_largest_82 rfl 0 rfl ?_
              refine s_get K 0 rfl rfl inT8 22 (Nat.le_of_ble_eq_true rfl) t_575 rfl rfl dX8_largest_83 ?_
              exact s_iret K hret hlk rfl rfl dX8_largest_86
