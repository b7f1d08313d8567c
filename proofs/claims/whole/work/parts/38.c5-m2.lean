set_option maxHeartbeats 4000000 in
set_option maxRecDepth 100000 in
theorem c_X8_comesNow {l : Launch} {D : va_G} {cI cC cB cQ : ClassId} {kc : Nat → Nat} {kt : Nat} (mh q_depthOf q_kindOf q_sizeOf q_placeOf q_onOf q_sticksOf q_page q_savedDepth q_gameSize q_gamePlace q_gameSticks q_gameDepth q_keptDepth q_keptSize q_keptPlace q_keptOn q_keptSticks : Nat) (m_isLawn m_lawns m_wetness m_strength m_days m_balls m_asks m_books m_pageLength m_faultAt m_savedSize m_savedPlace m_savedSticks m_bestSize m_bestFirst : Int32) (m_seedNow : Int64) (m_isKept m_keptLawn m_keptBalls m_keptStrength m_keptDays : Int32) (m_h : Int64) (m_depthOf m_kindOf m_sizeOf m_placeOf m_onOf m_sticksOf m_page m_savedDepth m_gameSize m_gamePlace m_gameSticks m_gameDepth m_keptDepth m_keptSize m_keptPlace m_keptOn m_keptSticks : Nat → Int32) (a1 a2 : Int32) {r : Int32 × Int32 × Int32 × Int32 × (Nat → Int32) × (Nat → Int32) × (Nat → Int32) × (Nat → Int32) × (Nat → Int32)} (hF : f_X8_comesNow m_wetness m_strength m_balls m_savedSize m_savedPlace m_savedSticks m_depthOf m_kindOf m_sizeOf m_placeOf m_onOf m_sticksOf m_savedDepth a1 a2 = some r) : CT l D (tysOf cI cC cB cQ) kc kt yX8_comesNow cX8_comesNow 7 (some .int) ({ frames := 5, cells := 0, slots := 0, locals := 295 } : Room) [.ref mh, .int a1, .int a2] (wM cI cC cB cQ kc mh q_depthOf q_kindOf q_sizeOf q_placeOf q_onOf q_sticksOf q_page q_savedDepth q_gameSize q_gamePlace q_gameSticks q_gameDepth q_keptDepth q_keptSize q_keptPlace q_keptOn q_keptSticks m_isLawn m_lawns m_wetness m_strength m_days m_balls m_asks m_books m_pageLength m_faultAt m_savedSize m_savedPlace m_savedSticks m_bestSize m_bestFirst m_seedNow m_isKept m_keptLawn m_keptBalls m_keptStrength m_keptDays m_h m_depthOf m_kindOf m_sizeOf m_placeOf m_onOf m_sticksOf m_page m_savedDepth m_gameSize m_gamePlace m_gameSticks m_gameDepth m_keptDepth m_keptSize m_keptPlace m_keptOn m_keptSticks) ((fun (r : Int32 × Int32 × Int32 × Int32 × (Nat → Int32) × (Nat → Int32) × (Nat → Int32) × (Nat → Int32) × (Nat → Int32)) => (wM cI cC cB cQ kc mh q_depthOf q_kindOf q_sizeOf q_placeOf q_onOf q_sticksOf q_page q_savedDepth q_gameSize q_gamePlace q_gameSticks q_gameDepth q_keptDepth q_keptSize q_keptPlace q_keptOn q_keptSticks m_isLawn m_lawns m_wetness m_strength m_days m_balls m_asks m_books m_pageLength m_faultAt (r.2.1) (r.2.2.1) (r.2.2.2.1) m_bestSize m_bestFirst m_seedNow m_isKept m_keptLawn m_keptBalls m_keptStrength m_keptDays m_h (r.2.2.2.2.1) m_kindOf (r.2.2.2.2.2.1) (r.2.2.2.2.2.2.1) m_onOf (r.2.2.2.2.2.2.2.1) m_page (r.2.2.2.2.2.2.2.2) m_gameSize m_gamePlace m_gameSticks m_gameDepth m_keptDepth m_keptSize m_keptPlace m_keptOn m_keptSticks)) r) ((fun (r : Int32 × Int32 × Int32 × Int32 × (Nat → Int32) × (Nat → Int32) × (Nat → Int32) × (Nat → Int32) × (Nat → Int32)) => some (.int (r.1))) r) := by
  refine CT.of (ww := (fun (r : Int32 × Int32 × Int32 × Int32 × (Nat → Int32) × (Nat → Int32) × (Nat → Int32) × (Nat → Int32) × (Nat → Int32)) => (wM cI cC cB cQ kc mh q_depthOf q_kindOf q_sizeOf q_placeOf q_onOf q_sticksOf q_page q_savedDepth q_gameSize q_gamePlace q_gameSticks q_gameDepth q_keptDepth q_keptSize q_keptPlace q_keptOn q_keptSticks m_isLawn m_lawns m_wetness m_strength m_days m_balls m_asks m_books m_pageLength m_faultAt (r.2.1) (r.2.2.1) (r.2.2.2.1) m_bestSize m_bestFirst m_seedNow m_isKept m_keptLawn m_keptBalls m_keptStrength m_keptDays m_h (r.2.2.2.2.1) m_kindOf (r.2.2.2.2.2.1) (r.2.2.2.2.2.2.1) m_onOf (r.2.2.2.2.2.2.2.1) m_page (r.2.2.2.2.2.2.2.2) m_gameSize m_gamePlace m_gameSticks m_gameDepth m_keptDepth m_keptSize m_keptPlace m_keptOn m_keptSticks))) (oo := (fun (r : Int32 × Int32 × Int32 × Int32 × (Nat → Int32) × (Nat → Int32) × (Nat → Int32) × (Nat → Int32) × (Nat → Int32)) => some (.int (r.1)))) hF RX8 rfl rfl (Nat.le_of_ble_eq_true rfl) ?_
  intro p e s m args below meth c A K hret hlk
  have L28 : ∀ (kk19 : Int32 → Int32 → Int32 → (Nat → Int32) → (Nat → Int32) → (Nat → Int32) → (Nat → Int32) → (Nat → Int32) → Int32 → Option (Int32 × Int32 × Int32 × Int32 × (Nat → Int32) × (Nat → Int32) × (Nat → Int32) × (Nat → Int32) × (Nat → Int32))), (∀ (m_savedSize m_savedPlace m_savedSticks : Int32) (m_depthOf m_sizeOf m_placeOf m_sticksOf m_savedDepth : Nat → Int32) (x3 : Int32), Sw (ρ := Int32 × Int32 × Int32 × Int32 × (Nat → Int32) × (Nat → Int32) × (Nat → Int32) × (Nat → Int32) × (Nat → Int32)) p l e ({ frames := 5, cells := 0, slots := 0, locals := 295 } : Room) s m args below meth c 0 0 D A 7 (fun r => MQ below (CQ D ((fun (r : Int32 × Int32 × Int32 × Int32 × (Nat → Int32) × (Nat → Int32) × (Nat → Int32) × (Nat → Int32) × (Nat → Int32)) => (wM cI cC cB cQ kc mh q_depthOf q_kindOf q_sizeOf q_placeOf q_onOf q_sticksOf q_page q_savedDepth q_gameSize q_gamePlace q_gameSticks q_gameDepth q_keptDepth q_keptSize q_keptPlace q_keptOn q_keptSticks m_isLawn m_lawns m_wetness m_strength m_days m_balls m_asks m_books m_pageLength m_faultAt (r.2.1) (r.2.2.1) (r.2.2.2.1) m_bestSize m_bestFirst m_seedNow m_isKept m_keptLawn m_keptBalls m_keptStrength m_keptDays m_h (r.2.2.2.2.1) m_kindOf (r.2.2.2.2.2.1) (r.2.2.2.2.2.2.1) m_onOf (r.2.2.2.2.2.2.2.1) m_page (r.2.2.2.2.2.2.2.2) m_gameSize m_gamePlace m_gameSticks m_gameDepth m_keptDepth m_keptSize m_keptPlace m_keptOn m_keptSticks)) r) ((fun (r : Int32 × Int32 × Int32 × Int32 × (Nat → Int32) × (Nat → Int32) × (Nat → Int32) × (Nat → Int32) × (Nat → Int32)) => some (.int (r.1))) r) A) args s 0 0 A) (kk19 m_savedSize m_savedPlace m_savedSticks m_depthOf m_sizeOf m_placeOf m_sticksOf m_savedDepth x3) (wM cI cC cB cQ kc mh q_depthOf q_kindOf q_sizeOf q_placeOf q_onOf q_sticksOf q_page q_savedDepth q_gameSize q_gamePlace q_gameSticks q_gameDepth q_keptDepth q_keptSize q_keptPlace q_keptOn q_keptSticks m_isLawn m_lawns m_wetness m_strength m_days m_balls m_asks m_books m_pageLength m_faultAt m_savedSize m_savedPlace m_savedSticks m_bestSize m_bestFirst m_seedNow m_isKept m_keptLawn m_keptBalls m_keptStrength m_keptDays m_h m_depthOf m_kindOf m_sizeOf m_placeOf m_onOf m_sticksOf m_page m_savedDepth m_gameSize m_gamePlace m_gameSticks m_gameDepth m_keptDepth m_keptSize m_keptPlace m_keptOn m_keptSticks) [(0, .ref mh), (1, .int a1), (2, .int a2), (3, .int x3)] 19 []) → ∀ (fu : Nat) (m_savedSize m_savedPlace m_savedSticks : Int32) (m_depthOf m_sizeOf m_placeOf m_sticksOf m_savedDepth : Nat → Int32) (x3 x4 : Int32), Sw (ρ := Int32 × Int32 × Int32 × Int32 × (Nat → Int32) × (Nat → Int32) × (Nat → Int32) × (Nat → Int32) × (Nat → Int32)) p l e ({ frames := 5, cells := 0, slots := 0, locals := 295 } : Room) s m args below meth c 0 0 D A 7 (fun r => MQ below (CQ D ((fun (r : Int32 × Int32 × Int32 × Int32 × (Nat → Int32) × (Nat → Int32) × (Nat → Int32) × (Nat → Int32) × (Nat → Int32)) => (wM cI cC cB cQ kc mh q_depthOf q_kindOf q_sizeOf q_placeOf q_onOf q_sticksOf q_page q_savedDepth q_gameSize q_gamePlace q_gameSticks q_gameDepth q_keptDepth q_keptSize q_keptPlace q_keptOn q_keptSticks m_isLawn m_lawns m_wetness m_strength m_days m_balls m_asks m_books m_pageLength m_faultAt (r.2.1) (r.2.2.1) (r.2.2.2.1) m_bestSize m_bestFirst m_seedNow m_isKept m_keptLawn m_keptBalls m_keptStrength m_keptDays m_h (r.2.2.2.2.1) m_kindOf (r.2.2.2.2.2.1) (r.2.2.2.2.2.2.1) m_onOf (r.2.2.2.2.2.2.2.1) m_page (r.2.2.2.2.2.2.2.2) m_gameSize m_gamePlace m_gameSticks m_gameDepth m_keptDepth m_keptSize m_keptPlace m_keptOn m_keptSticks)) r) ((fun (r : Int32 × Int32 × Int32 × Int32 × (Nat → Int32) × (Nat → Int32) × (Nat → Int32) × (Nat → Int32) × (Nat → Int32)) => some (.int (r.1))) r) A) args s 0 0 A) (f_X8_comesNow_h28 kk19 m_wetness m_strength m_balls m_kindOf m_onOf a1 a2 fu m_savedSize m_savedPlace m_savedSticks m_depthOf m_sizeOf m_placeOf m_sticksOf m_savedDepth x3 x4) (wM cI cC cB cQ kc mh q_depthOf q_kindOf q_sizeOf q_placeOf q_onOf q_sticksOf q_page q_savedDepth q_gameSize q_gamePlace q_gameSticks q_gameDepth q_keptDepth q_keptSize q_keptPlace q_keptOn q_keptSticks m_isLawn m_lawns m_wetness m_strength m_days m_balls m_asks m_books m_pageLength m_faultAt m_savedSize m_savedPlace m_savedSticks m_bestSize m_bestFirst m_seedNow m_isKept m_keptLawn m_keptBalls m_keptStrength m_keptDays m_h m_depthOf m_kindOf m_sizeOf m_placeOf m_onOf m_sticksOf m_page m_savedDepth m_gameSize m_gamePlace m_gameSticks m_gameDepth m_keptDepth m_keptSize m_keptPlace m_keptOn m_keptSticks) [(0, .ref mh), (1, .int a1), (2, .int a2), (3, .int x3), (4, .int x4)] 28 [] := by
    intro kk19 hkk19 fu
    induction fu with
    | zero =>
      intro m_savedSize m_savedPlace m_savedSticks m_depthOf m_sizeOf m_placeOf m_sticksOf m_savedDepth x3 x4
      rewrite [f_X8_comesNow_h28]
      exact s_none
    | succ fu ih =>
      intro m_savedSize m_savedPlace m_savedSticks m_depthOf m_sizeOf m_placeOf m_sticksOf m_savedDepth x3 x4
      rewrite [f_X8_comesNow_h28]
      refine s_iload K dX8_comesNow_28 4 rfl ?_
      refine s_iload_n K dX8_comesNow_30 rfl 3 rfl ?_
      refine s_bind (fun q hq_10 => ?_)
      obtain ⟨r_9, rfl⟩ : ∃ z, z = q := ⟨_, rfl⟩
      refine s_callS0 (rest := [.int x4]) (st1 := [.int r_9, .int x4]) K (c_X8_power x3 hq_10) hd_X8_power t_818 t_819 t_10 t_820 ⟨(Nat.le_of_ble_eq_true rfl), (Nat.le_of_ble_eq_true rfl)⟩ ⟨rfl, rfl⟩ ⟨Nat.zero_le _, Nat.zero_le _⟩ rfl rfl (Nat.le_of_ble_eq_true rfl) dX8_comesNow_31 ?_
      refine s_icmp_ge (tgt := 87) K dX8_comesNow_34 (by decide) (fun c_11 => ?_) (fun c_11 => ?_)
      · refine s_iinc (lv' := [(3, .int (x3 + 1)), (0, .ref mh), (1, .int a1), (2, .int a2), (4, .int x4)]) K dX8_comesNow_87 3 rfl (kii_1 _) (Nat.le_of_ble_eq_true rfl) rfl ?_
        refine s_goto (tgt := 19) K dX8_comesNow_90 (by decide) ?_
        refine s_lv (lv' := [(0, .ref mh), (1, .int a1), (2, .int a2), (3, .int (x3 + 1))]) [1, 2, 3, 0] rfl ?_
        exact hkk19 m_savedSize m_savedPlace m_savedSticks m_depthOf m_sizeOf m_placeOf m_sticksOf m_savedDepth (x3 + 1)
      · refine s_aload_n K dX8_comesNow_37 rfl 0 rfl ?_
        refine s_iload_n K dX8_comesNow_38 rfl 1 rfl ?_
        refine s_iload K dX8_comesNow_39 4 rfl ?_
        refine s_iload_n K dX8_comesNow_41 rfl 3 rfl ?_
        refine s_bind (fun q hq_17 => ?_)
        obtain ⟨r_12, m_depthOf_13, m_sizeOf_14, m_placeOf_15, m_sticksOf_16⟩ := q
        refine s_callV (w' := (wM cI cC cB cQ kc mh q_depthOf q_kindOf q_sizeOf q_placeOf q_onOf q_sticksOf q_page q_savedDepth q_gameSize q_gamePlace q_gameSticks q_gameDepth q_keptDepth q_keptSize q_keptPlace q_keptOn q_keptSticks m_isLawn m_lawns m_wetness m_strength m_days m_balls m_asks m_books m_pageLength m_faultAt m_savedSize m_savedPlace m_savedSticks m_bestSize m_bestFirst m_seedNow m_isKept m_keptLawn m_keptBalls m_keptStrength m_keptDays m_h m_depthOf_13 m_kindOf m_sizeOf_14 m_placeOf_15 m_onOf m_sticksOf_16 m_page m_savedDepth m_gameSize m_gamePlace m_gameSticks m_gameDepth m_keptDepth m_keptSize m_keptPlace m_keptOn m_keptSticks)) (rest := []) (st1 := [.int r_12]) K (c_X8_rollsBy mh q_depthOf q_kindOf q_sizeOf q_placeOf q_onOf q_sticksOf q_page q_savedDepth q_gameSize q_gamePlace q_gameSticks q_gameDepth q_keptDepth q_keptSize q_keptPlace q_keptOn q_keptSticks m_isLawn m_lawns m_wetness m_strength m_days m_balls m_asks m_books m_pageLength m_faultAt m_savedSize m_savedPlace m_savedSticks m_bestSize m_bestFirst m_seedNow m_isKept m_keptLawn m_keptBalls m_keptStrength m_keptDays m_h m_depthOf m_kindOf m_sizeOf m_placeOf m_onOf m_sticksOf m_page m_savedDepth m_gameSize m_gamePlace m_gameSticks m_gameDepth m_keptDepth m_keptSize m_keptPlace m_keptOn m_keptSticks a1 x4 x3 hq_17) rfl hd_X8_rollsBy t_821 t_823 ts_26 t_10 t_824 ⟨(Nat.le_of_ble_eq_true rfl), (Nat.le_of_ble_eq_true rfl)⟩ ⟨rfl, rfl⟩ ⟨Nat.zero_le _, Nat.zero_le _⟩ (rv_o K 0 rfl rfl) [0, 1, 2, 3, 4, 5, 6, 7, 8, 9, 10, 11, 12, 13, 14, 15, 16, 17] [] [0, 1, 2, 3, 4, 5, 6, 7, 8, 9, 10, 11, 12, 13, 14, 15, 16, 17] rfl rfl rfl rfl (by decide) rfl rfl rfl rfl (Nat.le_of_ble_eq_true rfl) dX8_comesNow_42 ?_
        refine s_istore (lv' := [(5, .int r_12), (0, .ref mh), (1, .int a1), (2, .int a2), (3, .int x3), (4, .int x4)]) K dX8_comesNow_45 (Nat.le_of_ble_eq_true rfl) rfl ?_
        refine s_aload_n K dX8_comesNow_47 rfl 1 rfl ?_
        refine s_get K 0 rfl rfl inT8 9 (Nat.le_of_ble_eq_true rfl) t_562 rfl rfl dX8_comesNow_48 ?_
        refine s_iload_n K dX8_comesNow_51 rfl 2 rfl ?_
        refine s_ck (fun ho_18 => ?_)
        refine s_iald K 4 0 rfl rfl (ok_in ho_18) rfl dX8_comesNow_52 ?_
        refine s_iload_n K dX8_comesNow_53 rfl 3 rfl ?_
        refine s_icmp_ne (tgt := 61) K dX8_comesNow_54 (by decide) (fun c_19 => ?_) (fun c_19 => ?_)
        · refine s_iconst K dX8_comesNow_57 kic_1 ?_
          refine s_goto (tgt := 62) K dX8_comesNow_58 (by decide) ?_
          refine s_istore (lv' := [(6, .int 1), (5, .int r_12), (0, .ref mh), (1, .int a1), (2, .int a2), (3, .int x3), (4, .int x4)]) K dX8_comesNow_62 (Nat.le_of_ble_eq_true rfl) rfl ?_
          refine s_aload_n K dX8_comesNow_64 rfl 2 rfl ?_
          refine s_iload_n K dX8_comesNow_65 rfl 3 rfl ?_
          refine s_bind (fun q hq_24 => ?_)
          obtain ⟨m_depthOf_20, m_sizeOf_21, m_placeOf_22, m_sticksOf_23⟩ := q
          refine s_callV (w' := (wM cI cC cB cQ kc mh q_depthOf q_kindOf q_sizeOf q_placeOf q_onOf q_sticksOf q_page q_savedDepth q_gameSize q_gamePlace q_gameSticks q_gameDepth q_keptDepth q_keptSize q_keptPlace q_keptOn q_keptSticks m_isLawn m_lawns m_wetness m_strength m_days m_balls m_asks m_books m_pageLength m_faultAt m_savedSize m_savedPlace m_savedSticks m_bestSize m_bestFirst m_seedNow m_isKept m_keptLawn m_keptBalls m_keptStrength m_keptDays m_h m_depthOf_20 m_kindOf m_sizeOf_21 m_placeOf_22 m_onOf m_sticksOf_23 m_page m_savedDepth m_gameSize m_gamePlace m_gameSticks m_gameDepth m_keptDepth m_keptSize m_keptPlace m_keptOn m_keptSticks)) (rest := []) (st1 := []) K (c_X8_back mh q_depthOf q_kindOf q_sizeOf q_placeOf q_onOf q_sticksOf q_page q_savedDepth q_gameSize q_gamePlace q_gameSticks q_gameDepth q_keptDepth q_keptSize q_keptPlace q_keptOn q_keptSticks m_isLawn m_lawns m_wetness m_strength m_days m_balls m_asks m_books m_pageLength m_faultAt m_savedSize m_savedPlace m_savedSticks m_bestSize m_bestFirst m_seedNow m_isKept m_keptLawn m_keptBalls m_keptStrength m_keptDays m_h m_depthOf_13 m_kindOf m_sizeOf_14 m_placeOf_15 m_onOf m_sticksOf_16 m_page m_savedDepth m_gameSize m_gamePlace m_gameSticks m_gameDepth m_keptDepth m_keptSize m_keptPlace m_keptOn m_keptSticks a1 hq_24) rfl hd_X8_back t_825 t_827 ts_27 t_10 t_828 ⟨(Nat.le_of_ble_eq_true rfl), (Nat.le_of_ble_eq_true rfl)⟩ ⟨rfl, rfl⟩ ⟨Nat.zero_le _, Nat.zero_le _⟩ (rv_o K 0 rfl rfl) [0, 1, 2, 3, 4, 5, 6, 7, 8, 9, 10, 11, 12, 13, 14, 15, 16, 17] [] [0, 1, 2, 3, 4, 5, 6, 7, 8, 9, 10, 11, 12, 13, 14, 15, 16, 17] rfl rfl rfl rfl (by decide) rfl rfl rfl rfl (Nat.le_of_ble_eq_true rfl) dX8_comesNow_66 ?_
          refine s_iload K dX8_comesNow_69 1 rfl ?_
          refine s_if_eq (tgt := 81) K dX8_comesNow_71 (by decide) (fun c_25 => ?_) (fun c_25 => ?_)
          · refine s_iinc (lv' := [(4, .int (x4 + 1)), (6, .int 1), (5, .int r_12), (0, .ref mh), (1, .int a1), (2, .int a2), (3, .int x3)]) K dX8_comesNow_81 6 rfl (kii_1 _) (Nat.le_of_ble_eq_true rfl) rfl ?_
            refine s_goto (tgt := 28) K dX8_comesNow_84 (by decide) ?_
            refine s_lv (lv' := [(0, .ref mh), (1, .int a1), (2, .int a2), (3, .int x3), (4, .int (x4 + 1))]) [3, 4, 5, 6, 0] rfl ?_
            exact ih m_savedSize m_savedPlace m_savedSticks m_depthOf_20 m_sizeOf_21 m_placeOf_22 m_sticksOf_23 m_savedDepth x3 (x4 + 1)
          · refine s_iload K dX8_comesNow_74 0 rfl ?_
            refine s_if_eqF K dX8_comesNow_76 81 (by decide) (by decide +kernel) ?_
            refine s_iload_n K dX8_comesNow_79 rfl 5 rfl ?_
            exact s_iret K hret hlk rfl rfl dX8_comesNow_80
        · refine s_iconst K dX8_comesNow_61 kic_0 ?_
          refine s_istore (lv' := [(6, .int 0), (5, .int r_12), (0, .ref mh), (1, .int a1), (2, .int a2), (3, .int x3), (4, .int x4)]) K dX8_comesNow_62 (Nat.le_of_ble_eq_true rfl) rfl ?_
          refine s_aload_n K dX8_comesNow_64 rfl 2 rfl ?_
          refine s_iload_n K dX8_comesNow_65 rfl 3 rfl ?_
          refine s_bind (fun q hq_30 => ?_)
          obtain ⟨m_depthOf_26, m_sizeOf_27, m_placeOf_28, m_sticksOf_29⟩ := q
          refine s_callV (w' := (wM cI cC cB cQ kc mh q_depthOf q_kindOf q_sizeOf q_placeOf q_onOf q_sticksOf q_page q_savedDepth q_gameSize q_gamePlace q_gameSticks q_gameDepth q_keptDepth q_keptSize q_keptPlace q_keptOn q_keptSticks m_isLawn m_lawns m_wetness m_strength m_days m_balls m_asks m_books m_pageLength m_faultAt m_savedSize m_savedPlace m_savedSticks m_bestSize m_bestFirst m_seedNow m_isKept m_keptLawn m_keptBalls m_keptStrength m_keptDays m_h m_depthOf_26 m_kindOf m_sizeOf_27 m_placeOf_28 m_onOf m_sticksOf_29 m_page m_savedDepth m_gameSize m_gamePlace m_gameSticks m_gameDepth m_keptDepth m_keptSize m_keptPlace m_keptOn m_keptSticks)) (rest := []) (st1 := []) K (c_X8_back mh q_depthOf q_kindOf q_sizeOf q_placeOf q_onOf q_sticksOf q_page q_savedDepth q_gameSize q_gamePlace q_gameSticks q_gameDepth q_keptDepth q_keptSize q_keptPlace q_keptOn q_keptSticks m_isLawn m_lawns m_wetness m_strength m_days m_balls m_asks m_books m_pageLength m_faultAt m_savedSize m_savedPlace m_savedSticks m_bestSize m_bestFirst m_seedNow m_isKept m_keptLawn m_keptBalls m_keptStrength m_keptDays m_h m_depthOf_13 m_kindOf m_sizeOf_14 m_placeOf_15 m_onOf m_sticksOf_16 m_page m_savedDepth m_gameSize m_gamePlace m_gameSticks m_gameDepth m_keptDepth m_keptSize m_keptPlace m_keptOn m_keptSticks a1 hq_30) rfl hd_X8_back t_825 t_827 ts_27 t_10 t_828 ⟨(Nat.le_of_ble_eq_true rfl), (Nat.le_of_ble_eq_true rfl)⟩ ⟨rfl, rfl⟩ ⟨Nat.zero_le _, Nat.zero_le _⟩ (rv_o K 0 rfl rfl) [0, 1, 2, 3, 4, 5, 6, 7, 8, 9, 10, 11, 12, 13, 14, 15, 16, 17] [] [0, 1, 2, 3, 4, 5, 6, 7, 8, 9, 10, 11, 12, 13, 14, 15, 16, 17] rfl rfl rfl rfl (by decide) rfl rfl rfl rfl (Nat.le_of_ble_eq_true rfl) dX8_comesNow_66 ?_
          refine s_iload K dX8_comesNow_69 1 rfl ?_
          refine s_if_eq (tgt := 81) K dX8_comesNow_71 (by decide) (fun c_31 => ?_) (fun c_31 => ?_)
          · refine s_iinc (lv' := [(4, .int (x4 + 1)), (6, .int 0), (5, .int r_12), (0, .ref mh), (1, .int a1), (2, .int a2), (3, .int x3)]) K dX8_comesNow_81 6 rfl (kii_1 _) (Nat.le_of_ble_eq_true rfl) rfl ?_
            refine s_goto (tgt := 28) K dX8_comesNow_84 (by decide) ?_
            refine s_lv (lv' := [(0, .ref mh), (1, .int a1), (2, .int a2), (3, .int x3), (4, .int (x4 + 1))]) [3, 4, 5, 6, 0] rfl ?_
            exact ih m_savedSize m_savedPlace m_savedSticks m_depthOf_26 m_sizeOf_27 m_placeOf_28 m_sticksOf_29 m_savedDepth x3 (x4 + 1)
          · refine s_iload K dX8_comesNow_74 0 rfl ?_
            refine s_if_eqT (tgt := 81) K dX8_comesNow_76 (by decide) (by decide +kernel) ?_
            refine s_iinc (lv' := [(4, .int (x4 + 1)), (6, .int 0), (5, .int r_12), (0, .ref mh), (1, .int a1), (2, .int a2), (3, .int x3)]) K dX8_comesNow_81 6 rfl (kii_1 _) (Nat.le_of_ble_eq_true rfl) rfl ?_
            refine s_goto (tgt := 28) K dX8_comesNow_84 (by decide) ?_
            refine s_lv (lv' := [(0, .ref mh), (1, .int a1), (2, .int a2), (3, .int x3), (4, .int (x4 + 1))]) [3, 4, 5, 6, 0] rfl ?_
            exact ih m_savedSize m_savedPlace m_savedSticks m_depthOf_26 m_sizeOf_27 m_placeOf_28 m_sticksOf_29 m_savedDepth x3 (x4 + 1)
  have L19 : ∀ (fu : Nat) (m_savedSize m_savedPlace m_savedSticks : Int32) (m_depthOf m_sizeOf m_placeOf m_sticksOf m_savedDepth : Nat → Int32) (x3 : Int32), Sw (ρ := Int32 × Int32 × Int32 × Int32 × (Nat → Int32) × (Nat → Int32) × (Nat → Int32) × (Nat → Int32) × (Nat → Int32)) p l e ({ frames := 5, cells := 0, slots := 0, locals := 295 } : Room) s m args below meth c 0 0 D A 7 (fun r => MQ below (CQ D ((fun (r : Int32 × Int32 × Int32 × Int32 × (Nat → Int32) × (Nat → Int32) × (Nat → Int32) × (Nat → Int32) × (Nat → Int32)) => (wM cI cC cB cQ kc mh q_depthOf q_kindOf q_sizeOf q_placeOf q_onOf q_sticksOf q_page q_savedDepth q_gameSize q_gamePlace q_gameSticks q_gameDepth q_keptDepth q_keptSize q_keptPlace q_keptOn q_keptSticks m_isLawn m_lawns m_wetness m_strength m_days m_balls m_asks m_books m_pageLength m_faultAt (r.2.1) (r.2.2.1) (r.2.2.2.1) m_bestSize m_bestFirst m_seedNow m_isKept m_keptLawn m_keptBalls m_keptStrength m_keptDays m_h (r.2.2.2.2.1) m_kindOf (r.2.2.2.2.2.1) (r.2.2.2.2.2.2.1) m_onOf (r.2.2.2.2.2.2.2.1) m_page (r.2.2.2.2.2.2.2.2) m_gameSize m_gamePlace m_gameSticks m_gameDepth m_keptDepth m_keptSize m_keptPlace m_keptOn m_keptSticks)) r) ((fun (r : Int32 × Int32 × Int32 × Int32 × (Nat → Int32) × (Nat → Int32) × (Nat → Int32) × (Nat → Int32) × (Nat → Int32)) => some (.int (r.1))) r) A) args s 0 0 A) (f_X8_comesNow_h19 m_wetness m_strength m_balls m_kindOf m_onOf a1 a2 fu m_savedSize m_savedPlace m_savedSticks m_depthOf m_sizeOf m_placeOf m_sticksOf m_savedDepth x3) (wM cI cC cB cQ kc mh q_depthOf q_kindOf q_sizeOf q_placeOf q_onOf q_sticksOf q_page q_savedDepth q_gameSize q_gamePlace q_gameSticks q_gameDepth q_keptDepth q_keptSize q_keptPlace q_keptOn q_keptSticks m_isLawn m_lawns m_wetness m_strength m_days m_balls m_asks m_books m_pageLength m_faultAt m_savedSize m_savedPlace m_savedSticks m_bestSize m_bestFirst m_seedNow m_isKept m_keptLawn m_keptBalls m_keptStrength m_keptDays m_h m_depthOf m_kindOf m_sizeOf m_placeOf m_onOf m_sticksOf m_page m_savedDepth m_gameSize m_gamePlace m_gameSticks m_gameDepth m_keptDepth m_keptSize m_keptPlace m_keptOn m_keptSticks) [(0, .ref mh), (1, .int a1), (2, .int a2), (3, .int x3)] 19 [] := by
    intro  fu
    induction fu with
    | zero =>
      intro m_savedSize m_savedPlace m_savedSticks m_depthOf m_sizeOf m_placeOf m_sticksOf m_savedDepth x3
      rewrite [f_X8_comesNow_h19]
      exact s_none
    | succ fu ih =>
      intro m_savedSize m_savedPlace m_savedSticks m_depthOf m_sizeOf m_placeOf m_sticksOf m_savedDepth x3
      rewrite [f_X8_comesNow_h19]
      refine s_iload_n K dX8_comesNow_19 rfl 3 rfl ?_
      refine s_bipush K dX8_comesNow_20 kib_6 ?_
      refine s_icmp_gt (tgt := 93) K dX8_comesNow_22 (by decide) (fun c_8 => ?_) (fun c_8 => ?_)
      · refine s_iconst K dX8_comesNow_93 kic_m1 ?_
        exact s_iret K hret hlk rfl rfl dX8_comesNow_94
      · refine s_iconst K dX8_comesNow_25 kic_0 ?_
        refine s_istore (lv' := [(4, .int 0), (0, .ref mh), (1, .int a1), (2, .int a2), (3, .int x3)]) K dX8_comesNow_26 (Nat.le_of_ble_eq_true rfl) rfl ?_
        refine s_lv (lv' := [(0, .ref mh), (1, .int a1), (2, .int a2), (3, .int x3), (4, .int 0)]) [1, 2, 3, 4, 0] rfl ?_
        exact L28 _ (fun m_savedSize m_savedPlace m_savedSticks m_depthOf m_sizeOf m_placeOf m_sticksOf m_savedDepth x3 => ih m_savedSize m_savedPlace m_savedSticks m_depthOf m_sizeOf m_placeOf m_sticksOf m_savedDepth x3) 4100 m_savedSize m_savedPlace m_savedSticks m_depthOf m_sizeOf m_placeOf m_sticksOf m_savedDepth x3 0
  rewrite [f_X8_comesNow]
  refine s_aload_n K dX8_comesNow_0 rfl 0 rfl ?_
  refine s_get K 0 rfl rfl inT8 9 (Nat.le_of_ble_eq_true rfl) t_562 rfl rfl dX8_comesNow_1 ?_
  refine s_iload_n K dX8_comesNow_4 rfl 1 rfl ?_
  refine s_ck (fun ho_1 => ?_)
  refine s_iald K 4 0 rfl rfl (ok_in ho_1) rfl dX8_comesNow_5 ?_
  refine s_iload_n K dX8_comesNow_6 rfl 2 rfl ?_
  refine s_icmp_ne (tgt := 12) K dX8_comesNow_7 (by decide) (fun c_2 => ?_) (fun c_2 => ?_)
  · refine s_iconst K dX8_comesNow_10 kic_0 ?_
    exact s_iret K hret hlk rfl rfl dX8_comesNow_11
  · refine s_aload_n K dX8_comesNow_12 rfl 0 rfl ?_
    refine s_iload_n K dX8_comesNow_13 rfl 1 rfl ?_
    refine s_bind (fun q hq_7 => ?_)
    obtain ⟨m_savedSize_3, m_savedPlace_4, m_savedSticks_5, m_savedDepth_6⟩ := q
    refine s_callV (w' := (wM cI cC cB cQ kc mh q_depthOf q_kindOf q_sizeOf q_placeOf q_onOf q_sticksOf q_page q_savedDepth q_gameSize q_gamePlace q_gameSticks q_gameDepth q_keptDepth q_keptSize q_keptPlace q_keptOn q_keptSticks m_isLawn m_lawns m_wetness m_strength m_days m_balls m_asks m_books m_pageLength m_faultAt m_savedSize_3 m_savedPlace_4 m_savedSticks_5 m_bestSize m_bestFirst m_seedNow m_isKept m_keptLawn m_keptBalls m_keptStrength m_keptDays m_h m_depthOf m_kindOf m_sizeOf m_placeOf m_onOf m_sticksOf m_page m_savedDepth_6 m_gameSize m_gamePlace m_gameSticks m_gameDepth m_keptDepth m_keptSize m_keptPlace m_keptOn m_keptSticks)) (rest := []) (st1 := []) K (c_X8_save mh q_depthOf q_kindOf q_sizeOf q_placeOf q_onOf q_sticksOf q_page q_savedDepth q_gameSize q_gamePlace q_gameSticks q_gameDepth q_keptDepth q_keptSize q_keptPlace q_keptOn q_keptSticks m_isLawn m_lawns m_wetness m_strength m_days m_balls m_asks m_books m_pageLength m_faultAt m_savedSize m_savedPlace m_savedSticks m_bestSize m_bestFirst m_seedNow m_isKept m_keptLawn m_keptBalls m_keptStrength m_keptDays m_h m_depthOf m_kindOf m_sizeOf m_placeOf m_onOf m_sticksOf m_page m_savedDepth m_gameSize m_gamePlace m_gameSticks m_gameDepth m_keptDepth m_keptSize m_keptPlace m_keptOn m_keptSticks a1 hq_7) rfl hd_X8_save t_814 t_816 ts_25 t_10 t_817 ⟨(Nat.le_of_ble_eq_true rfl), (Nat.le_of_ble_eq_true rfl)⟩ ⟨rfl, rfl⟩ ⟨Nat.zero_le _, Nat.zero_le _⟩ (rv_o K 0 rfl rfl) [0, 1, 2, 3, 4, 5, 6, 7, 8, 9, 10, 11, 12, 13, 14, 15, 16, 17] [] [0, 1, 2, 3, 4, 5, 6, 7, 8, 9, 10, 11, 12, 13, 14, 15, 16, 17] rfl rfl rfl rfl (by decide) rfl rfl rfl rfl (Nat.le_of_ble_eq_true rfl) dX8_comesNow_14 ?_
    refine s_iconst K dX8_comesNow_17 kic_1 ?_
    refine s_istore_n (lv' := [(3, .int 1), (0, .ref mh), (1, .int a1), (2, .int a2)]) K dX8_comesNow_18 rfl (Nat.le_of_ble_eq_true rfl) rfl ?_
    refine s_lv (lv' := [(0, .ref mh), (1, .int a1), (2, .int a2), (3, .int 1)]) [1, 2, 3, 0] rfl ?_
    exact L19 4100 m_savedSize_3 m_savedPlace_4 m_savedSticks_5 m_depthOf m_sizeOf m_placeOf m_sticksOf m_savedDepth_6 1
set_option maxHeartbeats 4000000 in
set_option maxRecDepth 100000 in
theorem c_X8_comes {l : Launch} {D : va_G} {cI cC cB cQ : ClassId} {kc : Nat → Nat} {kt : Nat} (mh q_depthOf q_kindOf q_sizeOf q_placeOf q_onOf q_sticksOf q_page q_savedDepth q_gameSize q_gamePlace q_gameSticks q_gameDepth q_keptDepth q_keptSize q_keptPlace q_keptOn q_keptSticks : Nat) (m_isLawn m_lawns m_wetness m_strength m_days m_balls m_asks m_books m_pageLength m_faultAt m_savedSize m_savedPlace m_savedSticks m_bestSize m_bestFirst : Int32) (m_seedNow : Int64) (m_isKept m_keptLawn m_keptBalls m_keptStrength m_keptDays : Int32) (m_h : Int64) (m_depthOf m_kindOf m_sizeOf m_placeOf m_onOf m_sticksOf m_page m_savedDepth m_gameSize m_gamePlace m_gameSticks m_gameDepth m_keptDepth m_keptSize m_keptPlace m_keptOn m_keptSticks : Nat → Int32) (a1 a2 : Int32) {r : Int32 × Int32 × Int32 × Int32 × Int32 × (Nat → Int32) × (Nat → Int32) × (Nat → Int32) × (Nat → Int32) × (Nat → Int32)} (hF : f_X8_comes m_wetness m_strength m_balls m_asks m_savedSize m_savedPlace m_savedSticks m_depthOf m_kindOf m_sizeOf m_placeOf m_onOf m_sticksOf m_savedDepth a1 a2 = some r) : CT l D (tysOf cI cC cB cQ) kc kt yX8_comes cX8_comes 3 (some .int) ({ frames := 6, cells := 0, slots := 0, locals := 361 } : Room) [.ref mh, .int a1, .int a2] (wM cI cC cB cQ kc mh q_depthOf q_kindOf q_sizeOf q_placeOf q_onOf q_sticksOf q_page q_savedDepth q_gameSize q_gamePlace q_gameSticks q_gameDepth q_keptDepth q_keptSize q_keptPlace q_keptOn q_keptSticks m_isLawn m_lawns m_wetness m_strength m_days m_balls m_asks m_books m_pageLength m_faultAt m_savedSize m_savedPlace m_savedSticks m_bestSize m_bestFirst m_seedNow m_isKept m_keptLawn m_keptBalls m_keptStrength m_keptDays m_h m_depthOf m_kindOf m_sizeOf m_placeOf m_onOf m_sticksOf m_page m_savedDepth m_gameSize m_gamePlace m_gameSticks m_gameDepth m_keptDepth m_keptSize m_keptPlace m_keptOn m_keptSticks) ((fun (r : Int32 × Int32 × Int32 × Int32 × Int32 × (Nat → Int32) × (Nat → Int32) × (Nat → Int32) × (Nat → Int32) × (Nat → Int32)) => (wM cI cC cB cQ kc mh q_depthOf q_kindOf q_sizeOf q_placeOf q_onOf q_sticksOf q_page q_savedDepth q_gameSize q_gamePlace q_gameSticks q_gameDepth q_keptDepth q_keptSize q_keptPlace q_keptOn q_keptSticks m_isLawn m_lawns m_wetness m_strength m_days m_balls (r.2.1) m_books m_pageLength m_faultAt (r.2.2.1) (r.2.2.2.1) (r.2.2.2.2.1) m_bestSize m_bestFirst m_seedNow m_isKept m_keptLawn m_keptBalls m_keptStrength m_keptDays m_h (r.2.2.2.2.2.1) m_kindOf (r.2.2.2.2.2.2.1) (r.2.2.2.2.2.2.2.1) m_onOf (r.2.2.2.2.2.2.2.2.1) m_page (r.2.2.2.2.2.2.2.2.2) m_gameSize m_gamePlace m_gameSticks m_gameDepth m_keptDepth m_keptSize m_keptPlace m_keptOn m_keptSticks)) r) ((fun (r : Int32 × Int32 × Int32 × Int32 × Int32 × (Nat → Int32) × (Nat → Int32) × (Nat → Int32) × (Nat → Int32) × (Nat → Int32)) => some (.int (r.1))) r) := by
  refine CT.of (ww := (fun (r : Int32 × Int32 × Int32 × Int32 × Int32 × (Nat → Int32) × (Nat → Int32) × (Nat → Int32) × (Nat → Int32) × (Nat → Int32)) => (wM cI cC cB cQ kc mh q_depthOf q_kindOf q_sizeOf q_placeOf q_onOf q_sticksOf q_page q_savedDepth q_gameSize q_gamePlace q_gameSticks q_gameDepth q_keptDepth q_keptSize q_keptPlace q_keptOn q_keptSticks m_isLawn m_lawns m_wetness m_strength m_days m_balls (r.2.1) m_books m_pageLength m_faultAt (r.2.2.1) (r.2.2.2.1) (r.2.2.2.2.1) m_bestSize m_bestFirst m_seedNow m_isKept m_keptLawn m_keptBalls m_keptStrength m_keptDays m_h (r.2.2.2.2.2.1) m_kindOf (r.2.2.2.2.2.2.1) (r.2.2.2.2.2.2.2.1) m_onOf (r.2.2.2.2.2.2.2.2.1) m_page (r.2.2.2.2.2.2.2.2.2) m_gameSize m_gamePlace m_gameSticks m_gameDepth m_keptDepth m_keptSize m_keptPlace m_keptOn m_keptSticks))) (oo := (fun (r : Int32 × Int32 × Int32 × Int32 × Int32 × (Nat → Int32) × (Nat → Int32) × (Nat → Int32) × (Nat → Int32) × (Nat → Int32)) => some (.int (r.1)))) hF RX8 rfl rfl (Nat.le_of_ble_eq_true rfl) ?_
  intro p e s m args below meth c A K hret hlk
  rewrite [f_X8_comes]
  refine s_aload_n K dX8_comes_0 rfl 0 rfl ?_
  refine s_iload_n K dX8_comes_1 rfl 1 rfl ?_
  refine s_bind (fun q hq_2 => ?_)
  obtain ⟨r_1, rfl⟩ : ∃ z, z = q := ⟨_, rfl⟩
  refine s_callV (w' := (wM cI cC cB cQ kc mh q_depthOf q_kindOf q_sizeOf q_placeOf q_onOf q_sticksOf q_page q_savedDepth q_gameSize q_gamePlace q_gameSticks q_gameDepth q_keptDepth q_keptSize q_keptPlace q_keptOn q_keptSticks m_isLawn m_lawns m_wetness m_strength m_days m_balls m_asks m_books m_pageLength m_faultAt m_savedSize m_savedPlace m_savedSticks m_bestSize m_bestFirst m_seedNow m_isKept m_keptLawn m_keptBalls m_keptStrength m_keptDays m_h m_depthOf m_kindOf m_sizeOf m_placeOf m_onOf m_sticksOf m_page m_savedDepth m_gameSize m_gamePlace m_gameSticks m_gameDepth m_keptDepth m_keptSize m_keptPlace m_keptOn m_keptSticks)) (rest := []) (st1 := [.int r_1]) K (c_X8_isBall mh q_depthOf q_kindOf q_sizeOf q_placeOf q_onOf q_sticksOf q_page q_savedDepth q_gameSize q_gamePlace q_gameSticks q_gameDepth q_keptDepth q_keptSize q_keptPlace q_keptOn q_keptSticks m_isLawn m_lawns m_wetness m_strength m_days m_balls m_asks m_books m_pageLength m_faultAt m_savedSize m_savedPlace m_savedSticks m_bestSize m_bestFirst m_seedNow m_isKept m_keptLawn m_keptBalls m_keptStrength m_keptDays m_h m_depthOf m_kindOf m_sizeOf m_placeOf m_onOf m_sticksOf m_page m_savedDepth m_gameSize m_gamePlace m_gameSticks m_gameDepth m_keptDepth m_keptSize m_keptPlace m_keptOn m_keptSticks a1 hq_2) rfl hd_X8_isBall t_733 t_735 ts_13 t_10 t_736 ⟨(Nat.le_of_ble_eq_true rfl), (Nat.le_of_ble_eq_true rfl)⟩ ⟨rfl, rfl⟩ ⟨Nat.zero_le _, Nat.zero_le _⟩ (rv_o K 0 rfl rfl) [0, 1, 2, 3, 4, 5, 6, 7, 8, 9, 10, 11, 12, 13, 14, 15, 16, 17] [] [0, 1, 2, 3, 4, 5, 6, 7, 8, 9, 10, 11, 12, 13, 14, 15, 16, 17] rfl rfl rfl rfl (by decide) rfl rfl rfl rfl (Nat.le_of_ble_eq_true rfl) dX8_comes_2 ?_
  refine s_if_eq (tgt := 15) K dX8_comes_5 (by decide) (fun c_3 => ?_) (fun c_3 => ?_)
  · refine s_bipush K dX8_comes_15 kib_m101 ?_
    exact s_iret K hret hlk rfl rfl dX8_comes_17
  · refine s_iload_n K dX8_comes_8 rfl 2 rfl ?_
    refine s_bind (fun q hq_5 => ?_)
    obtain ⟨r_4, rfl⟩ : ∃ z, z = q := ⟨_, rfl⟩
    refine s_callS0 (rest := []) (st1 := [.int r_4]) K (c_X8_isPlace a2 hq_5) hd_X8_isPlace t_703 t_704 t_10 t_705 ⟨(Nat.le_of_ble_eq_true rfl), (Nat.le_of_ble_eq_true rfl)⟩ ⟨rfl, rfl⟩ ⟨Nat.zero_le _, Nat.zero_le _⟩ rfl rfl (Nat.le_of_ble_eq_true rfl) dX8_comes_9 ?_
    refine s_if_ne (tgt := 18) K dX8_comes_12 (by decide) (fun c_6 => ?_) (fun c_6 => ?_)
    · refine s_bipush K dX8_comes_15 kib_m101 ?_
      exact s_iret K hret hlk rfl rfl dX8_comes_17
    · refine s_aload_n K dX8_comes_18 rfl 0 rfl ?_
      refine s_get K 0 rfl rfl inT8 9 (Nat.le_of_ble_eq_true rfl) t_562 rfl rfl dX8_comes_19 ?_
      refine s_iload_n K dX8_comes_22 rfl 1 rfl ?_
      refine s_ck (fun ho_7 => ?_)
      refine s_iald K 4 0 rfl rfl (ok_in ho_7) rfl dX8_comes_23 ?_
      refine s_iconst K dX8_comes_24 kic_m1 ?_
      refine s_icmp_eq (tgt := 37) K dX8_comes_25 (by decide) (fun c_8 => ?_) (fun c_8 => ?_)
      · refine s_bipush K dX8_comes_37 kib_m103 ?_
        exact s_iret K hret hlk rfl rfl dX8_comes_39
      · refine s_aload_n K dX8_comes_28 rfl 0 rfl ?_
        refine s_get K 0 rfl rfl inT8 12 (Nat.le_of_ble_eq_true rfl) t_565 rfl rfl dX8_comes_29 ?_
        refine s_bipush K dX8_comes_32 kib_60 ?_
        refine s_icmp_ne (tgt := 40) K dX8_comes_34 (by decide) (fun c_9 => ?_) (fun c_9 => ?_)
        · refine s_bipush K dX8_comes_37 kib_m103 ?_
          exact s_iret K hret hlk rfl rfl dX8_comes_39
        · refine s_aload_n K dX8_comes_40 rfl 0 rfl ?_
          refine s_dup K dX8_comes_41 rfl ?_
          refine s_get K 0 rfl rfl inT8 12 (Nat.le_of_ble_eq_true rfl) t_565 rfl rfl dX8_comes_42 ?_
          refine s_iconst K dX8_comes_45 kic_1 ?_
          refine s_iadd K dX8_comes_46 ?_
          refine s_put (w' := (wM cI cC cB cQ kc mh q_depthOf q_kindOf q_sizeOf q_placeOf q_onOf q_sticksOf q_page q_savedDepth q_gameSize q_gamePlace q_gameSticks q_gameDepth q_keptDepth q_keptSize q_keptPlace q_keptOn q_keptSticks m_isLawn m_lawns m_wetness m_strength m_days m_balls (m_asks + 1) m_books m_pageLength m_faultAt m_savedSize m_savedPlace m_savedSticks m_bestSize m_bestFirst m_seedNow m_isKept m_keptLawn m_keptBalls m_keptStrength m_keptDays m_h m_depthOf m_kindOf m_sizeOf m_placeOf m_onOf m_sticksOf m_page m_savedDepth m_gameSize m_gamePlace m_gameSticks m_gameDepth m_keptDepth m_keptSize m_keptPlace m_keptOn m_keptSticks)) K 0 rfl rfl inT8 tyX8_ok nmX8 12 (Nat.le_of_ble_eq_true rfl) t_565 rfl rfl rfl rfl (Nat.le_of_ble_eq_true rfl) rfl dX8_comes_47 ?_
          refine s_aload_n K dX8_comes_50 rfl 0 rfl ?_
          refine s_iload_n K dX8_comes_51 rfl 1 rfl ?_
          refine s_iload_n K dX8_comes_52 rfl 2 rfl ?_
          refine s_bind (fun q hq_19 => ?_)
          obtain ⟨r_10, m_savedSize_11, m_savedPlace_12, m_savedSticks_13, m_depthOf_14, m_sizeOf_15, m_placeOf_16, m_sticksOf_17, m_savedDepth_18⟩ := q
          refine s_callV (w' := (wM cI cC cB cQ kc mh q_depthOf q_kindOf q_sizeOf q_placeOf q_onOf q_sticksOf q_page q_savedDepth q_gameSize q_gamePlace q_gameSticks q_gameDepth q_keptDepth q_keptSize q_keptPlace q_keptOn q_keptSticks m_isLawn m_lawns m_wetness m_strength m_days m_balls (m_asks + 1) m_books m_pageLength m_faultAt m_savedSize_11 m_savedPlace_12 m_savedSticks_13 m_bestSize m_bestFirst m_seedNow m_isKept m_keptLawn m_keptBalls m_keptStrength m_keptDays m_h m_depthOf_14 m_kindOf m_sizeOf_15 m_placeOf_16 m_onOf m_sticksOf_17 m_page m_savedDepth_18 m_gameSize m_gamePlace m_gameSticks m_gameDepth m_keptDepth m_keptSize m_keptPlace m_keptOn m_keptSticks)) (rest := []) (st1 := [.int r_10]) K (c_X8_comesNow mh q_depthOf q_kindOf q_sizeOf q_placeOf q_onOf q_sticksOf q_page q_savedDepth q_gameSize q_gamePlace q_gameSticks q_gameDepth q_keptDepth q_keptSize q_keptPlace q_keptOn q_keptSticks m_isLawn m_lawns m_wetness m_strength m_days m_balls (m_asks + 1) m_books m_pageLength m_faultAt m_savedSize m_savedPlace m_savedSticks m_bestSize m_bestFirst m_seedNow m_isKept m_keptLawn m_keptBalls m_keptStrength m_keptDays m_h m_depthOf m_kindOf m_sizeOf m_placeOf m_onOf m_sticksOf m_page m_savedDepth m_gameSize m_gamePlace m_gameSticks m_gameDepth m_keptDepth m_keptSize m_keptPlace m_keptOn m_keptSticks a1 a2 hq_19) rfl hd_X8_comesNow t_833 t_835 ts_28 t_10 t_836 ⟨(Nat.le_of_ble_eq_true rfl), (Nat.le_of_ble_eq_true rfl)⟩ ⟨rfl, rfl⟩ ⟨Nat.zero_le _, Nat.zero_le _⟩ (rv_o K 0 rfl rfl) [0, 1, 2, 3, 4, 5, 6, 7, 8, 9, 10, 11, 12, 13, 14, 15, 16, 17] [] [0, 1, 2, 3, 4, 5, 6, 7, 8, 9, 10, 11, 12, 13, 14, 15, 16, 17] rfl rfl rfl rfl (by decide) rfl rfl rfl rfl (Nat.le_of_ble_eq_true rfl) dX8_comes_53 ?_
          exact s_iret K hret hlk rfl rfl dX8_comes_56
set_option maxHeartbeats 4000000 in
set_option maxRecDepth 100000 in
theorem c_X8_mayStand {l : Launch} {D : va_G} {cI cC cB cQ : ClassId} {kc : Nat → Nat} {kt : Nat} (mh q_depthOf q_kindOf q_sizeOf q_placeOf q_onOf q_sticksOf q_page q_savedDepth q_gameSize q_gamePlace q_gameSticks q_gameDepth q_keptDepth q_keptSize q_keptPlace q_keptOn q_keptSticks : Nat) (m_isLawn m_lawns m_wetness m_strength m_days m_balls m_asks m_books m_pageLength m_faultAt m_savedSize m_savedPlace m_savedSticks m_bestSize m_bestFirst : Int32) (m_seedNow : Int64) (m_isKept m_keptLawn m_keptBalls m_keptStrength m_keptDays : Int32) (m_h : Int64) (m_depthOf m_kindOf m_sizeOf m_placeOf m_onOf m_sticksOf m_page m_savedDepth m_gameSize m_gamePlace m_gameSticks m_gameDepth m_keptDepth m_keptSize m_keptPlace m_keptOn m_keptSticks : Nat → Int32) (a1 a2 a3 : Int32) {r : Int32} (hF : f_X8_mayStand m_strength m_kindOf m_sizeOf m_placeOf a1 a2 a3 = some r) : CT l D (tysOf cI cC cB cQ) kc kt yX8_mayStand cX8_mayStand 6 (some .boolean) ({ frames := 2, cells := 0, slots := 0, locals := 101 } : Room) [.ref mh, .int a1, .int a2, .int a3] (wM cI cC cB cQ kc mh q_depthOf q_kindOf q_sizeOf q_placeOf q_onOf q_sticksOf q_page q_savedDepth q_gameSize q_gamePlace q_gameSticks q_gameDepth q_keptDepth q_keptSize q_keptPlace q_keptOn q_keptSticks m_isLawn m_lawns m_wetness m_strength m_days m_balls m_asks m_books m_pageLength m_faultAt m_savedSize m_savedPlace m_savedSticks m_bestSize m_bestFirst m_seedNow m_isKept m_keptLawn m_keptBalls m_keptStrength m_keptDays m_h m_depthOf m_kindOf m_sizeOf m_placeOf m_onOf m_sticksOf m_page m_savedDepth m_gameSize m_gamePlace m_gameSticks m_gameDepth m_keptDepth m_keptSize m_keptPlace m_keptOn m_keptSticks) ((fun (r : Int32) => (wM cI cC cB cQ kc mh q_depthOf q_kindOf q_sizeOf q_placeOf q_onOf q_sticksOf q_page q_savedDepth q_gameSize q_gamePlace q_gameSticks q_gameDepth q_keptDepth q_keptSize q_keptPlace q_keptOn q_keptSticks m_isLawn m_lawns m_wetness m_strength m_days m_balls m_asks m_books m_pageLength m_faultAt m_savedSize m_savedPlace m_savedSticks m_bestSize m_bestFirst m_seedNow m_isKept m_keptLawn m_keptBalls m_keptStrength m_keptDays m_h m_depthOf m_kindOf m_sizeOf m_placeOf m_onOf m_sticksOf m_page m_savedDepth m_gameSize m_gamePlace m_gameSticks m_gameDepth m_keptDepth m_keptSize m_keptPlace m_keptOn m_keptSticks)) r) ((fun (r : Int32) => some (.int r)) r) := by
  refine CT.of (ww := (fun (r : Int32) => (wM cI cC cB cQ kc mh q_depthOf q_kindOf q_sizeOf q_placeOf q_onOf q_sticksOf q_page q_savedDepth q_gameSize q_gamePlace q_gameSticks q_gameDepth q_keptDepth q_keptSize q_keptPlace q_keptOn q_keptSticks m_isLawn m_lawns m_wetness m_strength m_days m_balls m_asks m_books m_pageLength m_faultAt m_savedSize m_savedPlace m_savedSticks m_bestSize m_bestFirst m_seedNow m_isKept m_keptLawn m_keptBalls m_keptStrength m_keptDays m_h m_depthOf m_kindOf m_sizeOf m_placeOf m_onOf m_sticksOf m_page m_savedDepth m_gameSize m_gamePlace m_gameSticks m_gameDepth m_keptDepth m_keptSize m_keptPlace m_keptOn m_keptSticks))) (oo := (fun (r : Int32) => some (.int r))) hF RX8 rfl rfl (Nat.le_of_ble_eq_true rfl) ?_
  intro p e s m args below meth c A K hret hlk
  rewrite [f_X8_mayStand]
  refine s_aload_n K dX8_mayStand_0 rfl 0 rfl ?_
  refine s_get K 0 rfl rfl inT8 9 (Nat.le_of_ble_eq_true rfl) t_562 rfl rfl dX8_mayStand_1 ?_
  refine s_iload_n K dX8_mayStand_4 rfl 1 rfl ?_
  refine s_ck (fun ho_1 => ?_)
  refine s_iald K 4 0 rfl rfl (ok_in ho_1) rfl dX8_mayStand_5 ?_
  refine s_iconst K dX8_mayStand_6 kic_m1 ?_
  refine s_icmp_eq (tgt := 34) K dX8_mayStand_7 (by decide) (fun c_2 => ?_) (fun c_2 => ?_)
  · refine s_iconst K dX8_mayStand_34 kic_0 ?_
    refine s_istore (lv' := [(4, .int 0), (0, .ref mh), (1, .int a1), (2, .int a2), (3, .int a3)]) K dX8_mayStand_35 (Nat.le_of_ble_eq_true rfl) rfl ?_
    refine s_aload_n K dX8_mayStand_37 rfl 1 rfl ?_
    refine s_get K 0 rfl rfl inT8 8 (Nat.le_of_ble_eq_true rfl) t_561 rfl rfl dX8_mayStand_38 ?_
    refine s_iload_n K dX8_mayStand_41 rfl 2 rfl ?_
    refine s_iald K 3 0 rfl rfl (ok_in ho_1) rfl dX8_mayStand_42 ?_
    refine s_aload_n K dX8_mayStand_43 rfl 1 rfl ?_
    refine s_get K 0 rfl rfl inT8 8 (Nat.le_of_ble_eq_true rfl) t_561 rfl rfl dX8_mayStand_44 ?_
    refine s_iload_n K dX8_mayStand_47 rfl 3 rfl ?_
    refine s_ck (fun ho_3 => ?_)
    refine s_iald K 3 0 rfl rfl (ok_in ho_3) rfl dX8_mayStand_48 ?_
    refine s_icmp_le (tgt := 71) K dX8_mayStand_49 (by decide) (fun c_4 => ?_) (fun c_4 => ?_)
    · refine s_iconst K dX8_mayStand_71 kic_0 ?_
      refine s_istore (lv' := [(5, .int 0), (4, .int 0), (0, .ref mh), (1, .int a1), (2, .int a2), (3, .int a3)]) K dX8_mayStand_72 (Nat.le_of_ble_eq_true rfl) rfl ?_
      refine s_iload K dX8_mayStand_74 1 rfl ?_
      refine s_if_eqT (tgt := 116) K dX8_mayStand_76 (by decide) (by decide +kernel) ?_
      refine s_iconst K dX8_mayStand_116 kic_0 ?_
      exact s_zret K hret hlk rfl rfl rfl dX8_mayStand_117
    · refine s_aload_n K dX8_mayStand_52 rfl 1 rfl ?_
      refine s_get K 0 rfl rfl inT8 8 (Nat.le_of_ble_eq_true rfl) t_561 rfl rfl dX8_mayStand_53 ?_
      refine s_iload_n K dX8_mayStand_56 rfl 3 rfl ?_
      refine s_iald K 3 0 rfl rfl (ok_in ho_3) rfl dX8_mayStand_57 ?_
      refine s_aload_n K dX8_mayStand_58 rfl 1 rfl ?_
      refine s_get K 0 rfl rfl inT8 8 (Nat.le_of_ble_eq_true rfl) t_561 rfl rfl dX8_mayStand_59 ?_
      refine s_iload_n K dX8_mayStand_62 rfl 4 rfl ?_
      refine s_ck (fun ho_5 => ?_)
      refine s_iald K 3 0 rfl rfl (ok_in ho_5) rfl dX8_mayStand_63 ?_
      refine s_icmp_le (tgt := 71) K dX8_mayStand_64 (by decide) (fun c_6 => ?_) (fun c_6 => ?_)
      · refine s_iconst K dX8_mayStand_71 kic_0 ?_
        refine s_istore (lv' := [(5, .int 0), (4, .int 0), (0, .ref mh), (1, .int a1), (2, .int a2), (3, .int a3)]) K dX8_mayStand_72 (Nat.le_of_ble_eq_true rfl) rfl ?_
        refine s_iload K dX8_mayStand_74 1 rfl ?_
        refine s_if_eqT (tgt := 116) K dX8_mayStand_76 (by decide) (by decide +kernel) ?_
        refine s_iconst K dX8_mayStand_116 kic_0 ?_
        exact s_zret K hret hlk rfl rfl rfl dX8_mayStand_117
      · refine s_iconst K dX8_mayStand_67 kic_1 ?_
        refine s_goto (tgt := 72) K dX8_mayStand_68 (by decide) ?_
        refine s_istore (lv' := [(5, .int 1), (4, .int 0), (0, .ref mh), (1, .int a1), (2, .int a2), (3, .int a3)]) K dX8_mayStand_72 (Nat.le_of_ble_eq_true rfl) rfl ?_
        refine s_iload K dX8_mayStand_74 1 rfl ?_
        refine s_if_eqT (tgt := 116) K dX8_mayStand_76 (by decide) (by decide +kernel) ?_
        refine s_iconst K dX8_mayStand_116 kic_0 ?_
        exact s_zret K hret hlk rfl rfl rfl dX8_mayStand_117
  · refine s_aload_n K dX8_mayStand_10 rfl 0 rfl ?_
    refine s_get K 0 rfl rfl inT8 9 (Nat.le_of_ble_eq_true rfl) t_562 rfl rfl dX8_mayStand_11 ?_
    refine s_iload_n K dX8_mayStand_14 rfl 2 rfl ?_
    refine s_ck (fun ho_7 => ?_)
    refine s_iald K 4 0 rfl rfl (ok_in ho_7) rfl dX8_mayStand_15 ?_
    refine s_iconst K dX8_mayStand_16 kic_m1 ?_
    refine s_icmp_eq (tgt := 34) K dX8_mayStand_17 (by decide) (fun c_8 => ?_) (fun c_8 => ?_)
    · refine s_iconst K dX8_mayStand_34 kic_0 ?_
      refine s_istore (lv' := [(4, .int 0), (0, .ref mh), (1, .int a1), (2, .int a2), (3, .int a3)]) K dX8_mayStand_35 (Nat.le_of_ble_eq_true rfl) rfl ?_
      refine s_aload_n K dX8_mayStand_37 rfl 1 rfl ?_
      refine s_get K 0 rfl rfl inT8 8 (Nat.le_of_ble_eq_true rfl) t_561 rfl rfl dX8_mayStand_38 ?_
      refine s_iload_n K dX8_mayStand_41 rfl 2 rfl ?_
      refine s_iald K 3 0 rfl rfl (ok_in ho_1) rfl dX8_mayStand_42 ?_
      refine s_aload_n K dX8_mayStand_43 rfl 1 rfl ?_
      refine s_get K 0 rfl rfl inT8 8 (Nat.le_of_ble_eq_true rfl) t_561 rfl rfl dX8_mayStand_44 ?_
      refine s_iload_n K dX8_mayStand_47 rfl 3 rfl ?_
      refine s_iald K 3 0 rfl rfl (ok_in ho_7) rfl dX8_mayStand_48 ?_
      refine s_icmp_le (tgt := 71) K dX8_mayStand_49 (by decide) (fun c_9 => ?_) (fun c_9 => ?_)
      · refine s_iconst K dX8_mayStand_71 kic_0 ?_
        refine s_istore (lv' := [(5, .int 0), (4, .int 0), (0, .ref mh), (1, .int a1), (2, .int a2), (3, .int a3)]) K dX8_mayStand_72 (Nat.le_of_ble_eq_true rfl) rfl ?_
        refine s_iload K dX8_mayStand_74 1 rfl ?_
        refine s_if_eqT (tgt := 116) K dX8_mayStand_76 (by decide) (by decide +kernel) ?_
        refine s_iconst K dX8_mayStand_116 kic_0 ?_
        exact s_zret K hret hlk rfl rfl rfl dX8_mayStand_117
      · refine s_aload_n K dX8_mayStand_52 rfl 1 rfl ?_
        refine s_get K 0 rfl rfl inT8 8 (Nat.le_of_ble_eq_true rfl) t_561 rfl rfl dX8_mayStand_53 ?_
        refine s_iload_n K dX8_mayStand_56 rfl 3 rfl ?_
        refine s_iald K 3 0 rfl rfl (ok_in ho_7) rfl dX8_mayStand_57 ?_
        refine s_aload_n K dX8_mayStand_58 rfl 1 rfl ?_
        refine s_get K 0 rfl rfl inT8 8 (Nat.le_of_ble_eq_true rfl) t_561 rfl rfl dX8_mayStand_59 ?_
        refine s_iload_n K dX8_mayStand_62 rfl 4 rfl ?_
        refine s_ck (fun ho_10 => ?_)
        refine s_iald K 3 0 rfl rfl (ok_in ho_10) rfl dX8_mayStand_63 ?_
        refine s_icmp_le (tgt := 71) K dX8_mayStand_64 (by decide) (fun c_11 => ?_) (fun c_11 => ?_)
        · refine s_iconst K dX8_mayStand_71 kic_0 ?_
          refine s_istore (lv' := [(5, .int 0), (4, .int 0), (0, .ref mh), (1, .int a1), (2, .int a2), (3, .int a3)]) K dX8_mayStand_72 (Nat.le_of_ble_eq_true rfl) rfl ?_
          refine s_iload K dX8_mayStand_74 1 rfl ?_
          refine s_if_eqT (tgt := 116) K dX8_mayStand_76 (by decide) (by decide +kernel) ?_
          refine s_iconst K dX8_mayStand_116 kic_0 ?_
          exact s_zret K hret hlk rfl rfl rfl dX8_mayStand_117
        · refine s_iconst K dX8_mayStand_67 kic_1 ?_
          refine s_goto (tgt := 72) K dX8_mayStand_68 (by decide) ?_
          refine s_istore (lv' := [(5, .int 1), (4, .int 0), (0, .ref mh), (1, .int a1), (2, .int a2), (3, .int a3)]) K dX8_mayStand_72 (Nat.le_of_ble_eq_true rfl) rfl ?_
          refine s_iload K dX8_mayStand_74 1 rfl ?_
          refine s_if_eqT (tgt := 116) K dX8_mayStand_76 (by decide) (by decide +kernel) ?_
          refine s_iconst K dX8_mayStand_116 kic_0 ?_
          exact s_zret K hret hlk rfl rfl rfl dX8_mayStand_117
    · refine s_aload_n K dX8_mayStand_20 rfl 0 rfl ?_
      refine s_get K 0 rfl rfl inT8 9 (Nat.le_of_ble_eq_true rfl) t_562 rfl rfl dX8_mayStand_21 ?_
      refine s_iload_n K dX8_mayStand_24 rfl 3 rfl ?_
      refine s_ck (fun ho_12 => ?_)
      refine s_iald K 4 0 rfl rfl (ok_in ho_12) rfl dX8_mayStand_25 ?_
      refine s_iconst K dX8_mayStand_26 kic_m1 ?_
      refine s_icmp_eq (tgt := 34) K dX8_mayStand_27 (by decide) (fun c_13 => ?_) (fun c_13 => ?_)
      · refine s_iconst K dX8_mayStand_34 kic_0 ?_
        refine s_istore (lv' := [(4, .int 0), (0, .ref mh), (1, .int a1), (2, .int a2), (3, .int a3)]) K dX8_mayStand_35 (Nat.le_of_ble_eq_true rfl) rfl ?_
        refine s_aload_n K dX8_mayStand_37 rfl 1 rfl ?_
        refine s_get K 0 rfl rfl inT8 8 (Nat.le_of_ble_eq_true rfl) t_561 rfl rfl dX8_mayStand_38 ?_
        refine s_iload_n K dX8_mayStand_41 rfl 2 rfl ?_
        refine s_iald K 3 0 rfl rfl (ok_in ho_1) rfl dX8_mayStand_42 ?_
        refine s_aload_n K dX8_mayStand_43 rfl 1 rfl ?_
        refine s_get K 0 rfl rfl inT8 8 (Nat.le_of_ble_eq_true rfl) t_561 rfl rfl dX8_mayStand_44 ?_
        refine s_iload_n K dX8_mayStand_47 rfl 3 rfl ?_
        refine s_iald K 3 0 rfl rfl (ok_in ho_7) rfl dX8_mayStand_48 ?_
        refine s_icmp_le (tgt := 71) K dX8_mayStand_49 (by decide) (fun c_14 => ?_) (fun c_14 => ?_)
        · refine s_iconst K dX8_mayStand_71 kic_0 ?_
          refine s_istore (lv' := [(5, .int 0), (4, .int 0), (0, .ref mh), (1, .int a1), (2, .int a2), (3, .int a3)]) K dX8_mayStand_72 (Nat.le_of_ble_eq_true rfl) rfl ?_
          refine s_iload K dX8_mayStand_74 1 rfl ?_
          refine s_if_eqT (tgt := 116) K dX8_mayStand_76 (by decide) (by decide +kernel) ?_
          refine s_iconst K dX8_mayStand_116 kic_0 ?_
          exact s_zret K hret hlk rfl rfl rfl dX8_mayStand_117
        · refine s_aload_n K dX8_mayStand_52 rfl 1 rfl ?_
          refine s_get K 0 rfl rfl inT8 8 (Nat.le_of_ble_eq_true rfl) t_561 rfl rfl dX8_mayStand_53 ?_
          refine s_iload_n K dX8_mayStand_56 rfl 3 rfl ?_
          refine s_iald K 3 0 rfl rfl (ok_in ho_7) rfl dX8_mayStand_57 ?_
          refine s_aload_n K dX8_mayStand_58 rfl 1 rfl ?_
          refine s_get K 0 rfl rfl inT8 8 (Nat.le_of_ble_eq_true rfl) t_561 rfl rfl dX8_mayStand_59 ?_
          refine s_iload_n K dX8_mayStand_62 rfl 4 rfl ?_
          refine s_iald K 3 0 rfl rfl (ok_in ho_12) rfl dX8_mayStand_63 ?_
          refine s_icmp_le (tgt := 71) K dX8_mayStand_64 (by decide) (fun c_15 => ?_) (fun c_15 => ?_)
          · refine s_iconst K dX8_mayStand_71 kic_0 ?_
            refine s_istore (lv' := [(5, .int 0), (4, .int 0), (0, .ref mh), (1, .int a1), (2, .int a2), (3, .int a3)]) K dX8_mayStand_72 (Nat.le_of_ble_eq_true rfl) rfl ?_
            refine s_iload K dX8_mayStand_74 1 rfl ?_
            refine s_if_eqT (tgt := 116) K dX8_mayStand_76 (by decide) (by decide +kernel) ?_
            refine s_iconst K dX8_mayStand_116 kic_0 ?_
            exact s_zret K hret hlk rfl rfl rfl dX8_mayStand_117
          · refine s_iconst K dX8_mayStand_67 kic_1 ?_
            refine s_goto (tgt := 72) K dX8_mayStand_68 (by decide) ?_
            refine s_istore (lv' := [(5, .int 1), (4, .int 0), (0, .ref mh), (1, .int a1), (2, .int a2), (3, .int a3)]) K dX8_mayStand_72 (Nat.le_of_ble_eq_true rfl) rfl ?_
            refine s_iload K dX8_mayStand_74 1 rfl ?_
            refine s_if_eqT (tgt := 116) K dX8_mayStand_76 (by decide) (by decide +kernel) ?_
            refine s_iconst K dX8_mayStand_116 kic_0 ?_
            exact s_zret K hret hlk rfl rfl rfl dX8_mayStand_117
      · refine s_iconst K dX8_mayStand_30 kic_1 ?_
        refine s_goto (tgt := 35) K dX8_mayStand_31 (by decide) ?_
        refine s_istore (lv' := [(4, .int 1), (0, .ref mh), (1, .int a1), (2, .int a2), (3, .int a3)]) K dX8_mayStand_35 (Nat.le_of_ble_eq_true rfl) rfl ?_
        refine s_aload_n K dX8_mayStand_37 rfl 1 rfl ?_
        refine s_get K 0 rfl rfl inT8 8 (Nat.le_of_ble_eq_true rfl) t_561 rfl rfl dX8_mayStand_38 ?_
        refine s_iload_n K dX8_mayStand_41 rfl 2 rfl ?_
        refine s_iald K 3 0 rfl rfl (ok_in ho_1) rfl dX8_mayStand_42 ?_
        refine s_aload_n K dX8_mayStand_43 rfl 1 rfl ?_
        refine s_get K 0 rfl rfl inT8 8 (Nat.le_of_ble_eq_true rfl) t_561 rfl rfl dX8_mayStand_44 ?_
        refine s_iload_n K dX8_mayStand_47 rfl 3 rfl ?_
        refine s_iald K 3 0 rfl rfl (ok_in ho_7) rfl dX8_mayStand_48 ?_
        refine s_icmp_le (tgt := 71) K dX8_mayStand_49 (by decide) (fun c_16 => ?_) (fun c_16 => ?_)
        · refine s_iconst K dX8_mayStand_71 kic_0 ?_
          refine s_istore (lv' := [(5, .int 0), (4, .int 1), (0, .ref mh), (1, .int a1), (2, .int a2), (3, .int a3)]) K dX8_mayStand_72 (Nat.le_of_ble_eq_true rfl) rfl ?_
          refine s_iload K dX8_mayStand_74 1 rfl ?_
          refine s_if_eqF K dX8_mayStand_76 116 (by decide) (by decide +kernel) ?_
          refine s_iload K dX8_mayStand_79 0 rfl ?_
          refine s_if_eqT (tgt := 116) K dX8_mayStand_81 (by decide) (by decide +kernel) ?_
          refine s_iconst K dX8_mayStand_116 kic_0 ?_
          exact s_zret K hret hlk rfl rfl rfl dX8_mayStand_117
        · refine s_aload_n K dX8_mayStand_52 rfl 1 rfl ?_
          refine s_get K 0 rfl rfl inT8 8 (Nat.le_of_ble_eq_true rfl) t_561 rfl rfl dX8_mayStand_53 ?_
          refine s_iload_n K dX8_mayStand_56 rfl 3 rfl ?_
          refine s_iald K 3 0 rfl rfl (ok_in ho_7) rfl dX8_mayStand_57 ?_
          refine s_aload_n K dX8_mayStand_58 rfl 1 rfl ?_
          refine s_get K 0 rfl rfl inT8 8 (Nat.le_of_ble_eq_true rfl) t_561 rfl rfl dX8_mayStand_59 ?_
          refine s_iload_n K dX8_mayStand_62 rfl 4 rfl ?_
          refine s_iald K 3 0 rfl rfl (ok_in ho_12) rfl dX8_mayStand_63 ?_
          refine s_icmp_le (tgt := 71) K dX8_mayStand_64 (by decide) (fun c_17 => ?_) (fun c_17 => ?_)
          · refine s_iconst K dX8_mayStand_71 kic_0 ?_
            refine s_istore (lv' := [(5, .int 0), (4, .int 1), (0, .ref mh), (1, .int a1), (2, .int a2), (3, .int a3)]) K dX8_mayStand_72 (Nat.le_of_ble_eq_true rfl) rfl ?_
            refine s_iload K dX8_mayStand_74 1 rfl ?_
            refine s_if_eqF K dX8_mayStand_76 116 (by decide) (by decide +kernel) ?_
            refine s_iload K dX8_mayStand_79 0 rfl ?_
            refine s_if_eqT (tgt := 116) K dX8_mayStand_81 (by decide) (by decide +kernel) ?_
            refine s_iconst K dX8_mayStand_116 kic_0 ?_
            exact s_zret K hret hlk rfl rfl rfl dX8_mayStand_117
          · refine s_iconst K dX8_mayStand_67 kic_1 ?_
            refine s_goto (tgt := 72) K dX8_mayStand_68 (by decide) ?_
            refine s_istore (lv' := [(5, .int 1), (4, .int 1), (0, .ref mh), (1, .int a1), (2, .int a2), (3, .int a3)]) K dX8_mayStand_72 (Nat.le_of_ble_eq_true rfl) rfl ?_
            refine s_iload K dX8_mayStand_74 1 rfl ?_
            refine s_if_eqF K dX8_mayStand_76 116 (by decide) (by decide +kernel) ?_
            refine s_iload K dX8_mayStand_79 0 rfl ?_
            refine s_if_eqF K dX8_mayStand_81 116 (by decide) (by decide +kernel) ?_
            refine s_iconst K dX8_mayStand_84 kic_2 ?_
            refine s_aload_n K dX8_mayStand_85 rfl 2 rfl ?_
            refine s_iload_n K dX8_mayStand_86 rfl 4 rfl ?_
            refine s_bind (fun q hq_19 => ?_)
            obtain ⟨r_18, rfl⟩ : ∃ z, z = q := ⟨_, rfl⟩
            refine s_callV (w' := (wM cI cC cB cQ kc mh q_depthOf q_kindOf q_sizeOf q_placeOf q_onOf q_sticksOf q_page q_savedDepth q_gameSize q_gamePlace q_gameSticks q_gameDepth q_keptDepth q_keptSize q_keptPlace q_keptOn q_keptSticks m_isLawn m_lawns m_wetness m_strength m_days m_balls m_asks m_books m_pageLength m_faultAt m_savedSize m_savedPlace m_savedSticks m_bestSize m_bestFirst m_seedNow m_isKept m_keptLawn m_keptBalls m_keptStrength m_keptDays m_h m_depthOf m_kindOf m_sizeOf m_placeOf m_onOf m_sticksOf m_page m_savedDepth m_gameSize m_gamePlace m_gameSticks m_gameDepth m_keptDepth m_keptSize m_keptPlace m_keptOn m_keptSticks)) (rest := [.int 2]) (st1 := [.int r_18, .int 2]) K (c_X8_weighs mh q_depthOf q_kindOf q_sizeOf q_placeOf q_onOf q_sticksOf q_page q_savedDepth q_gameSize q_gamePlace q_gameSticks q_gameDepth q_keptDepth q_keptSize q_keptPlace q_keptOn q_keptSticks m_isLawn m_lawns m_wetness m_strength m_days m_balls m_asks m_books m_pageLength m_faultAt m_savedSize m_savedPlace m_savedSticks m_bestSize m_bestFirst m_seedNow m_isKept m_keptLawn m_keptBalls m_keptStrength m_keptDays m_h m_depthOf m_kindOf m_sizeOf m_placeOf m_onOf m_sticksOf m_page m_savedDepth m_gameSize m_gamePlace m_gameSticks m_gameDepth m_keptDepth m_keptSize m_keptPlace m_keptOn m_keptSticks a2 hq_19) rfl hd_X8_weighs t_741 t_743 ts_15 t_10 t_744 ⟨(Nat.le_of_ble_eq_true rfl), (Nat.le_of_ble_eq_true rfl)⟩ ⟨rfl, rfl⟩ ⟨Nat.zero_le _, Nat.zero_le _⟩ (rv_o K 0 rfl rfl) [0, 1, 2, 3, 4, 5, 6, 7, 8, 9, 10, 11, 12, 13, 14, 15, 16, 17] [] [0, 1, 2, 3, 4, 5, 6, 7, 8, 9, 10, 11, 12, 13, 14, 15, 16, 17] rfl rfl rfl rfl (by decide) rfl rfl rfl rfl (Nat.le_of_ble_eq_true rfl) dX8_mayStand_87 ?_
            refine s_imul K dX8_mayStand_90 ?_
            refine s_aload_n K dX8_mayStand_91 rfl 2 rfl ?_
            refine s_get K 0 rfl rfl inT8 4 (Nat.le_of_ble_eq_true rfl) t_557 rfl rfl dX8_mayStand_92 ?_
            refine s_icmp_gt (tgt := 116) K dX8_mayStand_95 (by decide) (fun c_20 => ?_) (fun c_20 => ?_)
            · refine s_iconst K dX8_mayStand_116 kic_0 ?_
              exact s_zret K hret hlk rfl rfl rfl dX8_mayStand_117
            · refine s_iconst K dX8_mayStand_98 kic_2 ?_
              refine s_aload_n K dX8_mayStand_99 rfl 2 rfl ?_
              refine s_iload_n K dX8_mayStand_100 rfl 5 rfl ?_
              refine s_bind (fun q hq_22 => ?_)
              obtain ⟨r_21, rfl⟩ : ∃ z, z = q := ⟨_, rfl⟩
              refine s_callV (w' := (wM cI cC cB cQ kc mh q_depthOf q_kindOf q_sizeOf q_placeOf q_onOf q_sticksOf q_page q_savedDepth q_gameSize q_gamePlace q_gameSticks q_gameDepth q_keptDepth q_keptSize q_keptPlace q_keptOn q_keptSticks m_isLawn m_lawns m_wetness m_strength m_days m_balls m_asks m_books m_pageLength m_faultAt m_savedSize m_savedPlace m_savedSticks m_bestSize m_bestFirst m_seedNow m_isKept m_keptLawn m_keptBalls m_keptStrength m_keptDays m_h m_depthOf m_kindOf m_sizeOf m_placeOf m_onOf m_sticksOf m_page m_savedDepth m_gameSize m_gamePlace m_gameSticks m_gameDepth m_keptDepth m_keptSize m_keptPlace m_keptOn m_keptSticks)) (rest := [.int 2]) (st1 := [.int r_21, .int 2]) K (c_X8_weighs mh q_depthOf q_kindOf q_sizeOf q_placeOf q_onOf q_sticksOf q_page q_savedDepth q_gameSize q_gamePlace q_gameSticks q_gameDepth q_keptDepth q_keptSize q_keptPlace q_keptOn q_keptSticks m_isLawn m_lawns m_wetness m_strength m_days m_balls m_asks m_books m_pageLength m_faultAt m_savedSize m_savedPlace m_savedSticks m_bestSize m_bestFirst m_seedNow m_isKept m_keptLawn m_keptBalls m_keptStrength m_keptDays m_h m_depthOf m_kindOf m_sizeOf m_placeOf m_onOf m_sticksOf m_page m_savedDepth m_gameSize m_gamePlace m_gameSticks m_gameDepth m_keptDepth m_keptSize m_keptPlace m_keptOn m_keptSticks a3 hq_22) rfl hd_X8_weighs t_741 t_743 ts_15 t_10 t_744 ⟨(Nat.le_of_ble_eq_true rfl), (Nat.le_of_ble_eq_true rfl)⟩ ⟨rfl, rfl⟩ ⟨Nat.zero_le _, Nat.zero_le _⟩ (rv_o K 0 rfl rfl) [0, 1, 2, 3, 4, 5, 6, 7, 8, 9, 10, 11, 12, 13, 14, 15, 16, 17] [] [0, 1, 2, 3, 4, 5, 6, 7, 8, 9, 10, 11, 12, 13, 14, 15, 16, 17] rfl rfl rfl rfl (by decide) rfl rfl rfl rfl (Nat.le_of_ble_eq_true rfl) dX8_mayStand_101 ?_
              refine s_imul K dX8_mayStand_104 ?_
              refine s_aload_n K dX8_mayStand_105 rfl 2 rfl ?_
              refine s_get K 0 rfl rfl inT8 4 (Nat.le_of_ble_eq_true rfl) t_557 rfl rfl dX8_mayStand_106 ?_
              refine s_icmp_gt (tgt := 116) K dX8_mayStand_109 (by decide) (fun c_23 => ?_) (fun c_23 => ?_)
              · refine s_iconst K dX8_mayStand_116 kic_0 ?_
                exact s_zret K hret hlk rfl rfl rfl dX8_mayStand_117
              · refine s_iconst K dX8_mayStand_112 kic_1 ?_
                refine s_goto (tgt := 117) K dX8_mayStand_113 (by decide) ?_
                exact s_zret K hret hlk rfl rfl rfl dX8_mayStand_117
set_option maxHeartbeats 4000000 in
set_option maxRecDepth 100000 in
theorem c_X8_highestNow {l : Launch} {D : va_G} {cI cC cB cQ : ClassId} {kc : Nat → Nat} {kt : Nat} (mh q_depthOf q_kindOf q_sizeOf q_placeOf q_onOf q_sticksOf q_page q_savedDepth q_gameSize q_gamePlace q_gameSticks q_gameDepth q_keptDepth q_keptSize q_keptPlace q_keptOn q_keptSticks : Nat) (m_isLawn m_lawns m_wetness m_strength m_days m_balls m_asks m_books m_pageLength m_faultAt m_savedSize m_savedPlace m_savedSticks m_bestSize m_bestFirst : Int32) (m_seedNow : Int64) (m_isKept m_keptLawn m_keptBalls m_keptStrength m_keptDays : Int32) (m_h : Int64) (m_depthOf m_kindOf m_sizeOf m_placeOf m_onOf m_sticksOf m_page m_savedDepth m_gameSize m_gamePlace m_gameSticks m_gameDepth m_keptDepth m_keptSize m_keptPlace m_keptOn m_keptSticks : Nat → Int32) (a1 : Int32) {r : Int32} (hF : f_X8_highestNow m_strength m_balls m_kindOf m_sizeOf m_placeOf a1 = some r) : CT l D (tysOf cI cC cB cQ) kc kt yX8_highestNow cX8_highestNow 10 (some .int) ({ frames := 3, cells := 0, slots := 0, locals := 166 } : Room) [.ref mh, .int a1] (wM cI cC cB cQ kc mh q_depthOf q_kindOf q_sizeOf q_placeOf q_onOf q_sticksOf q_page q_savedDepth q_gameSize q_gamePlace q_gameSticks q_gameDepth q_keptDepth q_keptSize q_keptPlace q_keptOn q_keptSticks m_isLawn m_lawns m_wetness m_strength m_days m_balls m_asks m_books m_pageLength m_faultAt m_savedSize m_savedPlace m_savedSticks m_bestSize m_bestFirst m_seedNow m_isKept m_keptLawn m_keptBalls m_keptStrength m_keptDays m_h m_depthOf m_kindOf m_sizeOf m_placeOf m_onOf m_sticksOf m_page m_savedDepth m_gameSize m_gamePlace m_gameSticks m_gameDepth m_keptDepth m_keptSize m_keptPlace m_keptOn m_keptSticks) ((fun (r : Int32) => (wM cI cC cB cQ kc mh q_depthOf q_kindOf q_sizeOf q_placeOf q_onOf q_sticksOf q_page q_savedDepth q_gameSize q_gamePlace q_gameSticks q_gameDepth q_keptDepth q_keptSize q_keptPlace q_keptOn q_keptSticks m_isLawn m_lawns m_wetness m_strength m_days m_balls m_asks m_books m_pageLength m_faultAt m_savedSize m_savedPlace m_savedSticks m_bestSize m_bestFirst m_seedNow m_isKept m_keptLawn m_keptBalls m_keptStrength m_keptDays m_h m_depthOf m_kindOf m_sizeOf m_placeOf m_onOf m_sticksOf m_page m_savedDepth m_gameSize m_gamePlace m_gameSticks m_gameDepth m_keptDepth m_keptSize m_keptPlace m_keptOn m_keptSticks)) r) ((fun (r : Int32) => some (.int r)) r) := by
  refine CT.of (ww := (fun (r : Int32) => (wM cI cC cB cQ kc mh q_depthOf q_kindOf q_sizeOf q_placeOf q_onOf q_sticksOf q_page q_savedDepth q_gameSize q_gamePlace q_gameSticks q_gameDepth q_keptDepth q_keptSize q_keptPlace q_keptOn q_keptSticks m_isLawn m_lawns m_wetness m_strength m_days m_balls m_asks m_books m_pageLength m_faultAt m_savedSize m_savedPlace m_savedSticks m_bestSize m_bestFirst m_seedNow m_isKept m_keptLawn m_keptBalls m_keptStrength m_keptDays m_h m_depthOf m_kindOf m_sizeOf m_placeOf m_onOf m_sticksOf m_page m_savedDepth m_gameSize m_gamePlace m_gameSticks m_gameDepth m_keptDepth m_keptSize m_keptPlace m_keptOn m_keptSticks))) (oo := (fun (r : Int32) => some (.int r))) hF RX8 rfl rfl (Nat.le_of_ble_eq_true rfl) ?_
  intro p e s m args below meth c A K hret hlk
  have L7 : ∀ (fu : Nat) (x2 x3 x4 : Int32), Sw (ρ := Int32) p l e ({ frames := 3, cells := 0, slots := 0, locals := 166 } : Room) s m args below meth c 0 0 D A 10 (fun r => MQ below (CQ D ((fun (r : Int32) => (wM cI cC cB cQ kc mh q_depthOf q_kindOf q_sizeOf q_placeOf q_onOf q_sticksOf q_page q_savedDepth q_gameSize q_gamePlace q_gameSticks q_gameDepth q_keptDepth q_keptSize q_keptPlace q_keptOn q_keptSticks m_isLawn m_lawns m_wetness m_strength m_days m_balls m_asks m_books m_pageLength m_faultAt m_savedSize m_savedPlace m_savedSticks m_bestSize m_bestFirst m_seedNow m_isKept m_keptLawn m_keptBalls m_keptStrength m_keptDays m_h m_depthOf m_kindOf m_sizeOf m_placeOf m_onOf m_sticksOf m_page m_savedDepth m_gameSize m_gamePlace m_gameSticks m_gameDepth m_keptDepth m_keptSize m_keptPlace m_keptOn m_keptSticks)) r) ((fun (r : Int32) => some (.int r)) r) A) args s 0 0 A) (f_X8_highestNow_h7 m_strength m_balls m_kindOf m_sizeOf m_placeOf a1 fu x2 x3 x4) (wM cI cC cB cQ kc mh q_depthOf q_kindOf q_sizeOf q_placeOf q_onOf q_sticksOf q_page q_savedDepth q_gameSize q_gamePlace q_gameSticks q_gameDepth q_keptDepth q_keptSize q_keptPlace q_keptOn q_keptSticks m_isLawn m_lawns m_wetness m_strength m_days m_balls m_asks m_books m_pageLength m_faultAt m_savedSize m_savedPlace m_savedSticks m_bestSize m_bestFirst m_seedNow m_isKept m_keptLawn m_keptBalls m_keptStrength m_keptDays m_h m_depthOf m_kindOf m_sizeOf m_placeOf m_onOf m_sticksOf m_page m_savedDepth m_gameSize m_gamePlace m_gameSticks m_gameDepth m_keptDepth m_keptSize m_keptPlace m_keptOn m_keptSticks) [(0, .ref mh), (1, .int a1), (2, .int x2), (3, .int x3), (4, .int x4)] 7 [] := by
    intro  fu
    induction fu with
    | zero =>
      intro x2 x3 x4
      rewrite [f_X8_highestNow_h7]
      exact s_none
    | succ fu ih =>
      intro x2 x3 x4
      rewrite [f_X8_highestNow_h7]
      refine s_iload K dX8_highestNow_7 4 rfl ?_
      refine s_bipush K dX8_highestNow_9 kib_64 ?_
      refine s_icmp_ge (tgt := 169) K dX8_highestNow_11 (by decide) (fun c_1 => ?_) (fun c_1 => ?_)
      · refine s_iload_n K dX8_highestNow_169 rfl 1 rfl ?_
        refine s_if_ne (tgt := 177) K dX8_highestNow_170 (by decide) (fun c_2 => ?_) (fun c_2 => ?_)
        · refine s_iload_n K dX8_highestNow_173 rfl 2 rfl ?_
          refine s_goto (tgt := 178) K dX8_highestNow_174 (by decide) ?_
          exact s_iret K hret hlk rfl rfl dX8_highestNow_178
        · refine s_iload_n K dX8_highestNow_177 rfl 3 rfl ?_
          exact s_iret K hret hlk rfl rfl dX8_highestNow_178
      · refine s_iload K dX8_highestNow_14 4 rfl ?_
        refine s_bipush K dX8_highestNow_16 kib_16 ?_
        refine s_idiv K dX8_highestNow_18 knz_16 ?_
        refine s_istore (lv' := [(5, .int (x4 / 16)), (0, .ref mh), (1, .int a1), (2, .int x2), (3, .int x3), (4, .int x4)]) K dX8_highestNow_19 (Nat.le_of_ble_eq_true rfl) rfl ?_
        refine s_iload K dX8_highestNow_21 5 rfl ?_
        refine s_iconst K dX8_highestNow_23 kic_4 ?_
        refine s_idiv K dX8_highestNow_24 knz_4 ?_
        refine s_iconst K dX8_highestNow_25 kic_4 ?_
        refine s_irem K dX8_highestNow_26 knz_4 ?_
        refine s_istore (lv' := [(6, .int ((x4 / 4) - (x4 / 4) / 4 * 4)), (5, .int (x4 / 16)), (0, .ref mh), (1, .int a1), (2, .int x2), (3, .int x3), (4, .int x4)]) K dX8_highestNow_27 (Nat.le_of_ble_eq_true rfl) rfl ?_
        refine s_iload K dX8_highestNow_29 6 rfl ?_
        refine s_iconst K dX8_highestNow_31 kic_4 ?_
        refine s_irem K dX8_highestNow_32 knz_4 ?_
        refine s_istore (lv' := [(7, .int (x4 - x4 / 4 * 4)), (6, .int ((x4 / 4) - (x4 / 4) / 4 * 4)), (5, .int (x4 / 16)), (0, .ref mh), (1, .int a1), (2, .int x2), (3, .int x3), (4, .int x4)]) K dX8_highestNow_33 (Nat.le_of_ble_eq_true rfl) rfl ?_
        refine s_iload K dX8_highestNow_35 2 rfl ?_
        refine s_aload_n K dX8_highestNow_37 rfl 3 rfl ?_
        refine s_get K 0 rfl rfl inT8 6 (Nat.le_of_ble_eq_true rfl) t_559 rfl rfl dX8_highestNow_38 ?_
        refine s_icmp_ge (tgt := 163) K dX8_highestNow_41 (by decide) (fun c_3 => ?_) (fun c_3 => ?_)
        · refine s_iinc (lv' := [(4, .int (x4 + 1)), (7, .int (x4 - x4 / 4 * 4)), (6, .int ((x4 / 4) - (x4 / 4) / 4 * 4)), (5, .int (x4 / 16)), (0, .ref mh), (1, .int a1), (2, .int x2), (3, .int x3)]) K dX8_highestNow_163 7 rfl (kii_1 _) (Nat.le_of_ble_eq_true rfl) rfl ?_
          refine s_goto (tgt := 7) K dX8_highestNow_166 (by decide) ?_
          refine s_lv (lv' := [(0, .ref mh), (1, .int a1), (2, .int x2), (3, .int x3), (4, .int (x4 + 1))]) [4, 5, 6, 7, 0] rfl ?_
          exact ih x2 x3 (x4 + 1)
        · refine s_iload K dX8_highestNow_44 1 rfl ?_
          refine s_aload_n K dX8_highestNow_46 rfl 3 rfl ?_
          refine s_get K 0 rfl rfl inT8 6 (Nat.le_of_ble_eq_true rfl) t_559 rfl rfl dX8_highestNow_47 ?_
          refine s_icmp_ge (tgt := 163) K dX8_highestNow_50 (by decide) (fun c_4 => ?_) (fun c_4 => ?_)
          · refine s_iinc (lv' := [(4, .int (x4 + 1)), (7, .int (x4 - x4 / 4 * 4)), (6, .int ((x4 / 4) - (x4 / 4) / 4 * 4)), (5, .int (x4 / 16)), (0, .ref mh), (1, .int a1), (2, .int x2), (3, .int x3)]) K dX8_highestNow_163 7 rfl (kii_1 _) (Nat.le_of_ble_eq_true rfl) rfl ?_
            refine s_goto (tgt := 7) K dX8_highestNow_166 (by decide) ?_
            refine s_lv (lv' := [(0, .ref mh), (1, .int a1), (2, .int x2), (3, .int x3), (4, .int (x4 + 1))]) [4, 5, 6, 7, 0] rfl ?_
            exact ih x2 x3 (x4 + 1)
          · refine s_iload K dX8_highestNow_53 0 rfl ?_
            refine s_aload_n K dX8_highestNow_55 rfl 3 rfl ?_
            refine s_get K 0 rfl rfl inT8 6 (Nat.le_of_ble_eq_true rfl) t_559 rfl rfl dX8_highestNow_56 ?_
            refine s_icmp_ge (tgt := 163) K dX8_highestNow_59 (by decide) (fun c_5 => ?_) (fun c_5 => ?_)
            · refine s_iinc (lv' := [(4, .int (x4 + 1)), (7, .int (x4 - x4 / 4 * 4)), (6, .int ((x4 / 4) - (x4 / 4) / 4 * 4)), (5, .int (x4 / 16)), (0, .ref mh), (1, .int a1), (2, .int x2), (3, .int x3)]) K dX8_highestNow_163 7 rfl (kii_1 _) (Nat.le_of_ble_eq_true rfl) rfl ?_
              refine s_goto (tgt := 7) K dX8_highestNow_166 (by decide) ?_
              refine s_lv (lv' := [(0, .ref mh), (1, .int a1), (2, .int x2), (3, .int x3), (4, .int (x4 + 1))]) [4, 5, 6, 7, 0] rfl ?_
              exact ih x2 x3 (x4 + 1)
            · refine s_aload_n K dX8_highestNow_62 rfl 3 rfl ?_
              refine s_iload K dX8_highestNow_63 2 rfl ?_
              refine s_iload K dX8_highestNow_65 1 rfl ?_
              refine s_iload K dX8_highestNow_67 0 rfl ?_
              refine s_bind (fun q hq_7 => ?_)
              obtain ⟨r_6, rfl⟩ : ∃ z, z = q := ⟨_, rfl⟩
              refine s_callV (w' := (wM cI cC cB cQ kc mh q_depthOf q_kindOf q_sizeOf q_placeOf q_onOf q_sticksOf q_page q_savedDepth q_gameSize q_gamePlace q_gameSticks q_gameDepth q_keptDepth q_keptSize q_keptPlace q_keptOn q_keptSticks m_isLawn m_lawns m_wetness m_strength m_days m_balls m_asks m_books m_pageLength m_faultAt m_savedSize m_savedPlace m_savedSticks m_bestSize m_bestFirst m_seedNow m_isKept m_keptLawn m_keptBalls m_keptStrength m_keptDays m_h m_depthOf m_kindOf m_sizeOf m_placeOf m_onOf m_sticksOf m_page m_savedDepth m_gameSize m_gamePlace m_gameSticks m_gameDepth m_keptDepth m_keptSize m_keptPlace m_keptOn m_keptSticks)) (rest := []) (st1 := [.int r_6]) K (c_X8_mayStand mh q_depthOf q_kindOf q_sizeOf q_placeOf q_onOf q_sticksOf q_page q_savedDepth q_gameSize q_gamePlace q_gameSticks q_gameDepth q_keptDepth q_keptSize q_keptPlace q_keptOn q_keptSticks m_isLawn m_lawns m_wetness m_strength m_days m_balls m_asks m_books m_pageLength m_faultAt m_savedSize m_savedPlace m_savedSticks m_bestSize m_bestFirst m_seedNow m_isKept m_keptLawn m_keptBalls m_keptStrength m_keptDays m_h m_depthOf m_kindOf m_sizeOf m_placeOf m_onOf m_sticksOf m_page m_savedDepth m_gameSize m_gamePlace m_gameSticks m_gameDepth m_keptDepth m_keptSize m_keptPlace m_keptOn m_keptSticks (x4 / 16) ((x4 / 4) - (x4 / 4) / 4 * 4) (x4 - x4 / 4 * 4) hq_7) rfl hd_X8_mayStand t_845 t_847 ts_30 t_10 t_848 ⟨(Nat.le_of_ble_eq_true rfl), (Nat.le_of_ble_eq_true rfl)⟩ ⟨rfl, rfl⟩ ⟨Nat.zero_le _, Nat.zero_le _⟩ (rv_o K 0 rfl rfl) [0, 1, 2, 3, 4, 5, 6, 7, 8, 9, 10, 11, 12, 13, 14, 15, 16, 17] [] [0, 1, 2, 3, 4, 5, 6, 7, 8, 9, 10, 11, 12, 13, 14, 15, 16, 17] rfl rfl rfl rfl (by decide) rfl rfl rfl rfl (Nat.le_of_ble_eq_true rfl) dX8_highestNow_69 ?_
              refine s_if_eq (tgt := 163) K dX8_highestNow_72 (by decide) (fun c_8 => ?_) (fun c_8 => ?_)
              · refine s_iinc (lv' := [(4, .int (x4 + 1)), (7, .int (x4 - x4 / 4 * 4)), (6, .int ((x4 / 4) - (x4 / 4) / 4 * 4)), (5, .int (x4 / 16)), (0, .ref mh), (1, .int a1), (2, .int x2), (3, .int x3)]) K dX8_highestNow_163 7 rfl (kii_1 _) (Nat.le_of_ble_eq_true rfl) rfl ?_
                refine s_goto (tgt := 7) K dX8_highestNow_166 (by decide) ?_
                refine s_lv (lv' := [(0, .ref mh), (1, .int a1), (2, .int x2), (3, .int x3), (4, .int (x4 + 1))]) [4, 5, 6, 7, 0] rfl ?_
                exact ih x2 x3 (x4 + 1)
              · refine s_aload_n K dX8_highestNow_75 rfl 3 rfl ?_
                refine s_get K 0 rfl rfl inT8 8 (Nat.le_of_ble_eq_true rfl) t_561 rfl rfl dX8_highestNow_76 ?_
                refine s_iload K dX8_highestNow_79 2 rfl ?_
                refine s_ck (fun ho_9 => ?_)
                refine s_iald K 3 0 rfl rfl (ok_in ho_9) rfl dX8_highestNow_81 ?_
                refine s_bind (fun q hq_11 => ?_)
                obtain ⟨r_10, rfl⟩ : ∃ z, z = q := ⟨_, rfl⟩
                refine s_callS0 (rest := []) (st1 := [.int r_10]) K (c_X8_root (m_sizeOf (Int32.toNatClampNeg (x4 / 16))) hq_11) hd_X8_root t_714 t_715 t_10 t_716 ⟨(Nat.le_of_ble_eq_true rfl), (Nat.le_of_ble_eq_true rfl)⟩ ⟨rfl, rfl⟩ ⟨Nat.zero_le _, Nat.zero_le _⟩ rfl rfl (Nat.le_of_ble_eq_true rfl) dX8_highestNow_82 ?_
                refine s_aload_n K dX8_highestNow_85 rfl 3 rfl ?_
                refine s_get K 0 rfl rfl inT8 8 (Nat.le_of_ble_eq_true rfl) t_561 rfl rfl dX8_highestNow_86 ?_
                refine s_iload K dX8_highestNow_89 1 rfl ?_
                refine s_ck (fun ho_12 => ?_)
                refine s_iald K 3 0 rfl rfl (ok_in ho_12) rfl dX8_highestNow_91 ?_
                refine s_bind (fun q hq_14 => ?_)
                obtain ⟨r_13, rfl⟩ : ∃ z, z = q := ⟨_, rfl⟩
                refine s_callS0 (rest := [.int r_10]) (st1 := [.int r_13, .int r_10]) K (c_X8_root (m_sizeOf (Int32.toNatClampNeg ((x4 / 4) - (x4 / 4) / 4 * 4))) hq_14) hd_X8_root t_714 t_715 t_10 t_716 ⟨(Nat.le_of_ble_eq_true rfl), (Nat.le_of_ble_eq_true rfl)⟩ ⟨rfl, rfl⟩ ⟨Nat.zero_le _, Nat.zero_le _⟩ rfl rfl (Nat.le_of_ble_eq_true rfl) dX8_highestNow_92 ?_
                refine s_iadd K dX8_highestNow_95 ?_
                refine s_aload_n K dX8_highestNow_96 rfl 3 rfl ?_
                refine s_get K 0 rfl rfl inT8 8 (Nat.le_of_ble_eq_true rfl) t_561 rfl rfl dX8_highestNow_97 ?_
                refine s_iload K dX8_highestNow_100 0 rfl ?_
                refine s_ck (fun ho_15 => ?_)
                refine s_iald K 3 0 rfl rfl (ok_in ho_15) rfl dX8_highestNow_102 ?_
                refine s_bind (fun q hq_17 => ?_)
                obtain ⟨r_16, rfl⟩ : ∃ z, z = q := ⟨_, rfl⟩
                refine s_callS0 (rest := [.int (r_10 + r_13)]) (st1 := [.int r_16, .int (r_10 + r_13)]) K (c_X8_root (m_sizeOf (Int32.toNatClampNeg (x4 - x4 / 4 * 4))) hq_17) hd_X8_root t_714 t_715 t_10 t_716 ⟨(Nat.le_of_ble_eq_true rfl), (Nat.le_of_ble_eq_true rfl)⟩ ⟨rfl, rfl⟩ ⟨Nat.zero_le _, Nat.zero_le _⟩ rfl rfl (Nat.le_of_ble_eq_true rfl) dX8_highestNow_103 ?_
                refine s_iadd K dX8_highestNow_106 ?_
                refine s_istore (lv' := [(8, .int ((r_10 + r_13) + r_16)), (7, .int (x4 - x4 / 4 * 4)), (6, .int ((x4 / 4) - (x4 / 4) / 4 * 4)), (5, .int (x4 / 16)), (0, .ref mh), (1, .int a1), (2, .int x2), (3, .int x3), (4, .int x4)]) K dX8_highestNow_107 (Nat.le_of_ble_eq_true rfl) rfl ?_
                refine s_iconst K dX8_highestNow_109 kic_1 ?_
                refine s_iload K dX8_highestNow_110 3 rfl ?_
                refine s_ishl K dX8_highestNow_112 ?_
                refine s_iconst K dX8_highestNow_113 kic_1 ?_
                refine s_iload K dX8_highestNow_114 2 rfl ?_
                refine s_ishl K dX8_highestNow_116 ?_
                refine s_ior K dX8_highestNow_117 ?_
                refine s_iconst K dX8_highestNow_118 kic_1 ?_
                refine s_iload K dX8_highestNow_119 1 rfl ?_
                refine s_ishl K dX8_highestNow_121 ?_
                refine s_ior K dX8_highestNow_122 ?_
                refine s_istore (lv' := [(9, .int (((1 <<< ((x4 / 16) &&& 31)) ||| (1 <<< (((x4 / 4) - (x4 / 4) / 4 * 4) &&& 31))) ||| (1 <<< ((x4 - x4 / 4 * 4) &&& 31)))), (8, .int ((r_10 + r_13) + r_16)), (7, .int (x4 - x4 / 4 * 4)), (6, .int ((x4 / 4) - (x4 / 4) / 4 * 4)), (5, .int (x4 / 16)), (0, .ref mh), (1, .int a1), (2, .int x2), (3, .int x3), (4, .int x4)]) K dX8_highestNow_123 (Nat.le_of_ble_eq_true rfl) rfl ?_
                refine s_iload K dX8_highestNow_125 1 rfl ?_
                refine s_iload_n K dX8_highestNow_127 rfl 7 rfl ?_
                refine s_icmp_gt (tgt := 143) K dX8_highestNow_128 (by decide) (fun c_18 => ?_) (fun c_18 => ?_)
                · refine s_iload K dX8_highestNow_143 0 rfl ?_
                  refine s_goto (tgt := 149) K dX8_highestNow_145 (by decide) ?_
                  refine s_istore_n (lv' := [(3, .int (((1 <<< ((x4 / 16) &&& 31)) ||| (1 <<< (((x4 / 4) - (x4 / 4) / 4 * 4) &&& 31))) ||| (1 <<< ((x4 - x4 / 4 * 4) &&& 31)))), (9, .int (((1 <<< ((x4 / 16) &&& 31)) ||| (1 <<< (((x4 / 4) - (x4 / 4) / 4 * 4) &&& 31))) ||| (1 <<< ((x4 - x4 / 4 * 4) &&& 31)))), (8, .int ((r_10 + r_13) + r_16)), (7, .int (x4 - x4 / 4 * 4)), (6, .int ((x4 / 4) - (x4 / 4) / 4 * 4)), (5, .int (x4 / 16)), (0, .ref mh), (1, .int a1), (2, .int x2), (4, .int x4)]) K dX8_highestNow_149 rfl (Nat.le_of_ble_eq_true rfl) rfl ?_
                  refine s_iload K dX8_highestNow_150 2 rfl ?_
                  refine s_iload_n K dX8_highestNow_152 rfl 8 rfl ?_
                  refine s_icmp_le (tgt := 161) K dX8_highestNow_153 (by decide) (fun c_19 => ?_) (fun c_19 => ?_)
                  · refine s_iload_n K dX8_highestNow_161 rfl 8 rfl ?_
                    refine s_istore_n (lv' := [(2, .int x2), (3, .int (((1 <<< ((x4 / 16) &&& 31)) ||| (1 <<< (((x4 / 4) - (x4 / 4) / 4 * 4) &&& 31))) ||| (1 <<< ((x4 - x4 / 4 * 4) &&& 31)))), (9, .int (((1 <<< ((x4 / 16) &&& 31)) ||| (1 <<< (((x4 / 4) - (x4 / 4) / 4 * 4) &&& 31))) ||| (1 <<< ((x4 - x4 / 4 * 4) &&& 31)))), (8, .int ((r_10 + r_13) + r_16)), (7, .int (x4 - x4 / 4 * 4)), (6, .int ((x4 / 4) - (x4 / 4) / 4 * 4)), (5, .int (x4 / 16)), (0, .ref mh), (1, .int a1), (4, .int x4)]) K dX8_highestNow_162 rfl (Nat.le_of_ble_eq_true rfl) rfl ?_
                    refine s_iinc (lv' := [(4, .int (x4 + 1)), (2, .int x2), (3, .int (((1 <<< ((x4 / 16) &&& 31)) ||| (1 <<< (((x4 / 4) - (x4 / 4) / 4 * 4) &&& 31))) ||| (1 <<< ((x4 - x4 / 4 * 4) &&& 31)))), (9, .int (((1 <<< ((x4 / 16) &&& 31)) ||| (1 <<< (((x4 / 4) - (x4 / 4) / 4 * 4) &&& 31))) ||| (1 <<< ((x4 - x4 / 4 * 4) &&& 31)))), (8, .int ((r_10 + r_13) + r_16)), (7, .int (x4 - x4 / 4 * 4)), (6, .int ((x4 / 4) - (x4 / 4) / 4 * 4)), (5, .int (x4 / 16)), (0, .ref mh), (1, .int a1)]) K dX8_highestNow_163 9 rfl (kii_1 _) (Nat.le_of_ble_eq_true rfl) rfl ?_
                    refine s_goto (tgt := 7) K dX8_highestNow_166 (by decide) ?_
                    refine s_lv (lv' := [(0, .ref mh), (1, .int a1), (2, .int x2), (3, .int (((1 <<< ((x4 / 16) &&& 31)) ||| (1 <<< (((x4 / 4) - (x4 / 4) / 4 * 4) &&& 31))) ||| (1 <<< ((x4 - x4 / 4 * 4) &&& 31)))), (4, .int (x4 + 1))]) [8, 9, 1, 2, 0] rfl ?_
                    exact ih x2 (((1 <<< ((x4 / 16) &&& 31)) ||| (1 <<< (((x4 / 4) - (x4 / 4) / 4 * 4) &&& 31))) ||| (1 <<< ((x4 - x4 / 4 * 4) &&& 31))) (x4 + 1)
                  · refine s_iload K dX8_highestNow_156 2 rfl ?_
                    refine s_goto (tgt := 162) K dX8_highestNow_158 (by decide) ?_
                    refine s_istore_n (lv' := [(2, .int ((r_10 + r_13) + r_16)), (3, .int (((1 <<< ((x4 / 16) &&& 31)) ||| (1 <<< (((x4 / 4) - (x4 / 4) / 4 * 4) &&& 31))) ||| (1 <<< ((x4 - x4 / 4 * 4) &&& 31)))), (9, .int (((1 <<< ((x4 / 16) &&& 31)) ||| (1 <<< (((x4 / 4) - (x4 / 4) / 4 * 4) &&& 31))) ||| (1 <<< ((x4 - x4 / 4 * 4) &&& 31)))), (8, .int ((r_10 + r_13) + r_16)), (7, .int (x4 - x4 / 4 * 4)), (6, .int ((x4 / 4) - (x4 / 4) / 4 * 4)), (5, .int (x4 / 16)), (0, .ref mh), (1, .int a1), (4, .int x4)]) K dX8_highestNow_162 rfl (Nat.le_of_ble_eq_true rfl) rfl ?_
                    refine s_iinc (lv' := [(4, .int (x4 + 1)), (2, .int ((r_10 + r_13) + r_16)), (3, .int (((1 <<< ((x4 / 16) &&& 31)) ||| (1 <<< (((x4 / 4) - (x4 / 4) / 4 * 4) &&& 31))) ||| (1 <<< ((x4 - x4 / 4 * 4) &&& 31)))), (9, .int (((1 <<< ((x4 / 16) &&& 31)) ||| (1 <<< (((x4 / 4) - (x4 / 4) / 4 * 4) &&& 31))) ||| (1 <<< ((x4 - x4 / 4 * 4) &&& 31)))), (8, .int ((r_10 + r_13) + r_16)), (7, .int (x4 - x4 / 4 * 4)), (6, .int ((x4 / 4) - (x4 / 4) / 4 * 4)), (5, .int (x4 / 16)), (0, .ref mh), (1, .int a1)]) K dX8_highestNow_163 9 rfl (kii_1 _) (Nat.le_of_ble_eq_true rfl) rfl ?_
                    refine s_goto (tgt := 7) K dX8_highestNow_166 (by decide) ?_
                    refine s_lv (lv' := [(0, .ref mh), (1, .int a1), (2, .int ((r_10 + r_13) + r_16)), (3, .int (((1 <<< ((x4 / 16) &&& 31)) ||| (1 <<< (((x4 / 4) - (x4 / 4) / 4 * 4) &&& 31))) ||| (1 <<< ((x4 - x4 / 4 * 4) &&& 31)))), (4, .int (x4 + 1))]) [8, 9, 1, 2, 0] rfl ?_
                    exact ih ((r_10 + r_13) + r_16) (((1 <<< ((x4 / 16) &&& 31)) ||| (1 <<< (((x4 / 4) - (x4 / 4) / 4 * 4) &&& 31))) ||| (1 <<< ((x4 - x4 / 4 * 4) &&& 31))) (x4 + 1)
                · refine s_iload K dX8_highestNow_131 1 rfl ?_
                  refine s_iload_n K dX8_highestNow_133 rfl 7 rfl ?_
                  refine s_icmp_ne (tgt := 148) K dX8_highestNow_134 (by decide) (fun c_20 => ?_) (fun c_20 => ?_)
                  · refine s_iload K dX8_highestNow_137 0 rfl ?_
                    refine s_iload_n K dX8_highestNow_139 rfl 8 rfl ?_
                    refine s_icmp_ge (tgt := 148) K dX8_highestNow_140 (by decide) (fun c_21 => ?_) (fun c_21 => ?_)
                    · refine s_iload_n K dX8_highestNow_148 rfl 8 rfl ?_
                      refine s_istore_n (lv' := [(3, .int x3), (9, .int (((1 <<< ((x4 / 16) &&& 31)) ||| (1 <<< (((x4 / 4) - (x4 / 4) / 4 * 4) &&& 31))) ||| (1 <<< ((x4 - x4 / 4 * 4) &&& 31)))), (8, .int ((r_10 + r_13) + r_16)), (7, .int (x4 - x4 / 4 * 4)), (6, .int ((x4 / 4) - (x4 / 4) / 4 * 4)), (5, .int (x4 / 16)), (0, .ref mh), (1, .int a1), (2, .int x2), (4, .int x4)]) K dX8_highestNow_149 rfl (Nat.le_of_ble_eq_true rfl) rfl ?_
                      refine s_iload K dX8_highestNow_150 2 rfl ?_
                      refine s_iload_n K dX8_highestNow_152 rfl 8 rfl ?_
                      refine s_icmp_le (tgt := 161) K dX8_highestNow_153 (by decide) (fun c_22 => ?_) (fun c_22 => ?_)
                      · refine s_iload_n K dX8_highestNow_161 rfl 8 rfl ?_
                        refine s_istore_n (lv' := [(2, .int x2), (3, .int x3), (9, .int (((1 <<< ((x4 / 16) &&& 31)) ||| (1 <<< (((x4 / 4) - (x4 / 4) / 4 * 4) &&& 31))) ||| (1 <<< ((x4 - x4 / 4 * 4) &&& 31)))), (8, .int ((r_10 + r_13) + r_16)), (7, .int (x4 - x4 / 4 * 4)), (6, .int ((x4 / 4) - (x4 / 4) / 4 * 4)), (5, .int (x4 / 16)), (0, .ref mh), (1, .int a1), (4, .int x4)]) K dX8_highestNow_162 rfl (Nat.le_of_ble_eq_true rfl) rfl ?_
                        refine s_iinc (lv' := [(4, .int (x4 + 1)), (2, .int x2), (3, .int x3), (9, .int (((1 <<< ((x4 / 16) &&& 31)) ||| (1 <<< (((x4 / 4) - (x4 / 4) / 4 * 4) &&& 31))) ||| (1 <<< ((x4 - x4 / 4 * 4) &&& 31)))), (8, .int ((r_10 + r_13) + r_16)), (7, .int (x4 - x4 / 4 * 4)), (6, .int ((x4 / 4) - (x4 / 4) / 4 * 4)), (5, .int (x4 / 16)), (0, .ref mh), (1, .int a1)]) K dX8_highestNow_163 9 rfl (kii_1 _) (Nat.le_of_ble_eq_true rfl) rfl ?_
                        refine s_goto (tgt := 7) K dX8_highestNow_166 (by decide) ?_
                        refine s_lv (lv' := [(0, .ref mh), (1, .int a1), (2, .int x2), (3, .int x3), (4, .int (x4 + 1))]) [8, 9, 1, 2, 0] rfl ?_
                        exact ih x2 x3 (x4 + 1)
                      · refine s_iload K dX8_highestNow_156 2 rfl ?_
                        refine s_goto (tgt := 162) K dX8_highestNow_158 (by decide) ?_
                        refine s_istore_n (lv' := [(2, .int ((r_10 + r_13) + r_16)), (3, .int x3), (9, .int (((1 <<< ((x4 / 16) &&& 31)) ||| (1 <<< (((x4 / 4) - (x4 / 4) / 4 * 4) &&& 31))) ||| (1 <<< ((x4 - x4 / 4 * 4) &&& 31)))), (8, .int ((r_10 + r_13) + r_16)), (7, .int (x4 - x4 / 4 * 4)), (6, .int ((x4 / 4) - (x4 / 4) / 4 * 4)), (5, .int (x4 / 16)), (0, .ref mh), (1, .int a1), (4, .int x4)]) K dX8_highestNow_162 rfl (Nat.le_of_ble_eq_true rfl) rfl ?_
                        refine s_iinc (lv' := [(4, .int (x4 + 1)), (2, .int ((r_10 + r_13) + r_16)), (3, .int x3), (9, .int (((1 <<< ((x4 / 16) &&& 31)) ||| (1 <<< (((x4 / 4) - (x4 / 4) / 4 * 4) &&& 31))) ||| (1 <<< ((x4 - x4 / 4 * 4) &&& 31)))), (8, .int ((r_10 + r_13) + r_16)), (7, .int (x4 - x4 / 4 * 4)), (6, .int ((x4 / 4) - (x4 / 4) / 4 * 4)), (5, .int (x4 / 16)), (0, .ref mh), (1, .int a1)]) K dX8_highestNow_163 9 rfl (kii_1 _) (Nat.le_of_ble_eq_true rfl) rfl ?_
                        refine s_goto (tgt := 7) K dX8_highestNow_166 (by decide) ?_
                        refine s_lv (lv' := [(0, .ref mh), (1, .int a1), (2, .int ((r_10 + r_13) + r_16)), (3, .int x3), (4, .int (x4 + 1))]) [8, 9, 1, 2, 0] rfl ?_
                        exact ih ((r_10 + r_13) + r_16) x3 (x4 + 1)
                    · refine s_iload K dX8_highestNow_143 0 rfl ?_
                      refine s_goto (tgt := 149) K dX8_highestNow_145 (by decide) ?_
                      refine s_istore_n (lv' := [(3, .int (((1 <<< ((x4 / 16) &&& 31)) ||| (1 <<< (((x4 / 4) - (x4 / 4) / 4 * 4) &&& 31))) ||| (1 <<< ((x4 - x4 / 4 * 4) &&& 31)))), (9, .int (((1 <<< ((x4 / 16) &&& 31)) ||| (1 <<< (((x4 / 4) - (x4 / 4) / 4 * 4) &&& 31))) ||| (1 <<< ((x4 - x4 / 4 * 4) &&& 31)))), (8, .int ((r_10 + r_13) + r_16)), (7, .int (x4 - x4 / 4 * 4)), (6, .int ((x4 / 4) - (x4 / 4) / 4 * 4)), (5, .int (x4 / 16)), (0, .ref mh), (1, .int a1), (2, .int x2), (4, .int x4)]) K dX8_highestNow_149 rfl (Nat.le_of_ble_eq_true rfl) rfl ?_
                      refine s_iload K dX8_highestNow_150 2 rfl ?_
                      refine s_iload_n K dX8_highestNow_152 rfl 8 rfl ?_
                      refine s_icmp_le (tgt := 161) K dX8_highestNow_153 (by decide) (fun c_23 => ?_) (fun c_23 => ?_)
                      · refine s_iload_n K dX8_highestNow_161 rfl 8 rfl ?_
                        refine s_istore_n (lv' := [(2, .int x2), (3, .int (((1 <<< ((x4 / 16) &&& 31)) ||| (1 <<< (((x4 / 4) - (x4 / 4) / 4 * 4) &&& 31))) ||| (1 <<< ((x4 - x4 / 4 * 4) &&& 31)))), (9, .int (((1 <<< ((x4 / 16) &&& 31)) ||| (1 <<< (((x4 / 4) - (x4 / 4) / 4 * 4) &&& 31))) ||| (1 <<< ((x4 - x4 / 4 * 4) &&& 31)))), (8, .int ((r_10 + r_13) + r_16)), (7, .int (x4 - x4 / 4 * 4)), (6, .int ((x4 / 4) - (x4 / 4) / 4 * 4)), (5, .int (x4 / 16)), (0, .ref mh), (1, .int a1), (4, .int x4)]) K dX8_highestNow_162 rfl (Nat.le_of_ble_eq_true rfl) rfl ?_
                        refine s_iinc (lv' := [(4, .int (x4 + 1)), (2, .int x2), (3, .int (((1 <<< ((x4 / 16) &&& 31)) ||| (1 <<< (((x4 / 4) - (x4 / 4) / 4 * 4) &&& 31))) ||| (1 <<< ((x4 - x4 / 4 * 4) &&& 31)))), (9, .int (((1 <<< ((x4 / 16) &&& 31)) ||| (1 <<< (((x4 / 4) - (x4 / 4) / 4 * 4) &&& 31))) ||| (1 <<< ((x4 - x4 / 4 * 4) &&& 31)))), (8, .int ((r_10 + r_13) + r_16)), (7, .int (x4 - x4 / 4 * 4)), (6, .int ((x4 / 4) - (x4 / 4) / 4 * 4)), (5, .int (x4 / 16)), (0, .ref mh), (1, .int a1)]) K dX8_highestNow_163 9 rfl (kii_1 _) (Nat.le_of_ble_eq_true rfl) rfl ?_
                        refine s_goto (tgt := 7) K dX8_highestNow_166 (by decide) ?_
                        refine s_lv (lv' := [(0, .ref mh), (1, .int a1), (2, .int x2), (3, .int (((1 <<< ((x4 / 16) &&& 31)) ||| (1 <<< (((x4 / 4) - (x4 / 4) / 4 * 4) &&& 31))) ||| (1 <<< ((x4 - x4 / 4 * 4) &&& 31)))), (4, .int (x4 + 1))]) [8, 9, 1, 2, 0] rfl ?_
                        exact ih x2 (((1 <<< ((x4 / 16) &&& 31)) ||| (1 <<< (((x4 / 4) - (x4 / 4) / 4 * 4) &&& 31))) ||| (1 <<< ((x4 - x4 / 4 * 4) &&& 31))) (x4 + 1)
                      · refine s_iload K dX8_highestNow_156 2 rfl ?_
                        refine s_goto (tgt := 162) K dX8_highestNow_158 (by decide) ?_
                        refine s_istore_n (lv' := [(2, .int ((r_10 + r_13) + r_16)), (3, .int (((1 <<< ((x4 / 16) &&& 31)) ||| (1 <<< (((x4 / 4) - (x4 / 4) / 4 * 4) &&& 31))) ||| (1 <<< ((x4 - x4 / 4 * 4) &&& 31)))), (9, .int (((1 <<< ((x4 / 16) &&& 31)) ||| (1 <<< (((x4 / 4) - (x4 / 4) / 4 * 4) &&& 31))) ||| (1 <<< ((x4 - x4 / 4 * 4) &&& 31)))), (8, .int ((r_10 + r_13) + r_16)), (7, .int (x4 - x4 / 4 * 4)), (6, .int ((x4 / 4) - (x4 / 4) / 4 * 4)), (5, .int (x4 / 16)), (0, .ref mh), (1, .int a1), (4, .int x4)]) K dX8_highestNow_162 rfl (Nat.le_of_ble_eq_true rfl) rfl ?_
                        refine s_iinc (lv' := [(4, .int (x4 + 1)), (2, .int ((r_10 + r_13) + r_16)), (3, .int (((1 <<< ((x4 / 16) &&& 31)) ||| (1 <<< (((x4 / 4) - (x4 / 4) / 4 * 4) &&& 31))) ||| (1 <<< ((x4 - x4 / 4 * 4) &&& 31)))), (9, .int (((1 <<< ((x4 / 16) &&& 31)) ||| (1 <<< (((x4 / 4) - (x4 / 4) / 4 * 4) &&& 31))) ||| (1 <<< ((x4 - x4 / 4 * 4) &&& 31)))), (8, .int ((r_10 + r_13) + r_16)), (7, .int (x4 - x4 / 4 * 4)), (6, .int ((x4 / 4) - (x4 / 4) / 4 * 4)), (5, .int (x4 / 16)), (0, .ref mh), (1, .int a1)]) K dX8_highestNow_163 9 rfl (kii_1 _) (Nat.le_of_ble_eq_true rfl) rfl ?_
                        refine s_goto (tgt := 7) K dX8_highestNow_166 (by decide) ?_
                        refine s_lv (lv' := [(0, .ref mh), (1, .int a1), (2, .int ((r_10 + r_13) + r_16)), (3, .int (((1 <<< ((x4 / 16) &&& 31)) ||| (1 <<< (((x4 / 4) - (x4 / 4) / 4 * 4) &&& 31))) ||| (1 <<< ((x4 - x4 / 4 * 4) &&& 31)))), (4, .int (x4 + 1))]) [8, 9, 1, 2, 0] rfl ?_
                        exact ih ((r_10 + r_13) + r_16) (((1 <<< ((x4 / 16) &&& 31)) ||| (1 <<< (((x4 / 4) - (x4 / 4) / 4 * 4) &&& 31))) ||| (1 <<< ((x4 - x4 / 4 * 4) &&& 31))) (x4 + 1)
                  · refine s_iload_n K dX8_highestNow_148 rfl 8 rfl ?_
                    refine s_istore_n (lv' := [(3, .int x3), (9, .int (((1 <<< ((x4 / 16) &&& 31)) ||| (1 <<< (((x4 / 4) - (x4 / 4) / 4 * 4) &&& 31))) ||| (1 <<< ((x4 - x4 / 4 * 4) &&& 31)))), (8, .int ((r_10 + r_13) + r_16)), (7, .int (x4 - x4 / 4 * 4)), (6, .int ((x4 / 4) - (x4 / 4) / 4 * 4)), (5, .int (x4 / 16)), (0, .ref mh), (1, .int a1), (2, .int x2), (4, .int x4)]) K dX8_highestNow_149 rfl (Nat.le_of_ble_eq_true rfl) rfl ?_
                    refine s_iload K dX8_highestNow_150 2 rfl ?_
                    refine s_iload_n K dX8_highestNow_152 rfl 8 rfl ?_
                    refine s_icmp_le (tgt := 161) K dX8_highestNow_153 (by decide) (fun c_24 => ?_) (fun c_24 => ?_)
                    · refine s_iload_n K dX8_highestNow_161 rfl 8 rfl ?_
                      refine s_istore_n (lv' := [(2, .int x2), (3, .int x3), (9, .int (((1 <<< ((x4 / 16) &&& 31)) ||| (1 <<< (((x4 / 4) - (x4 / 4) / 4 * 4) &&& 31))) ||| (1 <<< ((x4 - x4 / 4 * 4) &&& 31)))), (8, .int ((r_10 + r_13) + r_16)), (7, .int (x4 - x4 / 4 * 4)), (6, .int ((x4 / 4) - (x4 / 4) / 4 * 4)), (5, .int (x4 / 16)), (0, .ref mh), (1, .int a1), (4, .int x4)]) K dX8_highestNow_162 rfl (Nat.le_of_ble_eq_true rfl) rfl ?_
                      refine s_iinc (lv' := [(4, .int (x4 + 1)), (2, .int x2), (3, .int x3), (9, .int (((1 <<< ((x4 / 16) &&& 31)) ||| (1 <<< (((x4 / 4) - (x4 / 4) / 4 * 4) &&& 31))) ||| (1 <<< ((x4 - x4 / 4 * 4) &&& 31)))), (8, .int ((r_10 + r_13) + r_16)), (7, .int (x4 - x4 / 4 * 4)), (6, .int ((x4 / 4) - (x4 / 4) / 4 * 4)), (5, .int (x4 / 16)), (0, .ref mh), (1, .int a1)]) K dX8_highestNow_163 9 rfl (kii_1 _) (Nat.le_of_ble_eq_true rfl) rfl ?_
                      refine s_goto (tgt := 7) K dX8_highestNow_166 (by decide) ?_
                      refine s_lv (lv' := [(0, .ref mh), (1, .int a1), (2, .int x2), (3, .int x3), (4, .int (x4 + 1))]) [8, 9, 1, 2, 0] rfl ?_
                      exact ih x2 x3 (x4 + 1)
                    · refine s_iload K dX8_highestNow_156 2 rfl ?_
                      refine s_goto (tgt := 162) K dX8_highestNow_158 (by decide) ?_
                      refine s_istore_n (lv' := [(2, .int ((r_10 + r_13) + r_16)), (3, .int x3), (9, .int (((1 <<< ((x4 / 16) &&& 31)) ||| (1 <<< (((x4 / 4) - (x4 / 4) / 4 * 4) &&& 31))) ||| (1 <<< ((x4 - x4 / 4 * 4) &&& 31)))), (8, .int ((r_10 + r_13) + r_16)), (7, .int (x4 - x4 / 4 * 4)), (6, .int ((x4 / 4) - (x4 / 4) / 4 * 4)), (5, .int (x4 / 16)), (0, .ref mh), (1, .int a1), (4, .int x4)]) K dX8_highestNow_162 rfl (Nat.le_of_ble_eq_true rfl) rfl ?_
                      refine s_iinc (lv' := [(4, .int (x4 + 1)), (2, .int ((r_10 + r_13) + r_16)), (3, .int x3), (9, .int (((1 <<< ((x4 / 16) &&& 31)) ||| (1 <<< (((x4 / 4) - (x4 / 4) / 4 * 4) &&& 31))) ||| (1 <<< ((x4 - x4 / 4 * 4) &&& 31)))), (8, .int ((r_10 + r_13) + r_16)), (7, .int (x4 - x4 / 4 * 4)), (6, .int ((x4 / 4) - (x4 / 4) / 4 * 4)), (5, .int (x4 / 16)), (0, .ref mh), (1, .int a1)]) K dX8_highestNow_163 9 rfl (kii_1 _) (Nat.le_of_ble_eq_true rfl) rfl ?_
                      refine s_goto (tgt := 7) K dX8_highestNow_166 (by decide) ?_
                      refine s_lv (lv' := [(0, .ref mh), (1, .int a1), (2, .int ((r_10 + r_13) + r_16)), (3, .int x3), (4, .int (x4 + 1))]) [8, 9, 1, 2, 0] rfl ?_
                      exact ih ((r_10 + r_13) + r_16) x3 (x4 + 1)
  rewrite [f_X8_highestNow]
  refine s_iconst K dX8_highestNow_0 kic_m1 ?_
  refine s_istore_n (lv' := [(2, .int (-1)), (0, .ref mh), (1, .int a1)]) K dX8_highestNow_1 rfl (Nat.le_of_ble_eq_true rfl) rfl ?_
  refine s_iconst K dX8_highestNow_2 kic_m1 ?_
  refine s_istore_n (lv' := [(3, .int (-1)), (2, .int (-1)), (0, .ref mh), (1, .int a1)]) K dX8_highestNow_3 rfl (Nat.le_of_ble_eq_true rfl) rfl ?_
  refine s_iconst K dX8_highestNow_4 kic_0 ?_
  refine s_istore (lv' := [(4, .int 0), (3, .int (-1)), (2, .int (-1)), (0, .ref mh), (1, .int a1)]) K dX8_highestNow_5 (Nat.le_of_ble_eq_true rfl) rfl ?_
  refine s_lv (lv' := [(0, .ref mh), (1, .int a1), (2, .int (-1)), (3, .int (-1)), (4, .int 0)]) [3, 4, 2, 1, 0] rfl ?_
  exact L7 70 (-1) (-1) 0
set_option maxHeartbeats 4000000 in
set_option maxRecDepth 100000 in
theorem c_X8_highest {l : Launch} {D : va_G} {cI cC cB cQ : ClassId} {kc : Nat → Nat} {kt : Nat} (mh q_depthOf q_kindOf q_sizeOf q_placeOf q_onOf q_sticksOf q_page q_savedDepth q_gameSize q_gamePlace q_gameSticks q_gameDepth q_keptDepth q_keptSize q_keptPlace q_keptOn q_keptSticks : Nat) (m_isLawn m_lawns m_wetness m_strength m_days m_balls m_asks m_books m_pageLength m_faultAt m_savedSize m_savedPlace m_savedSticks m_bestSize m_bestFirst : Int32) (m_seedNow : Int64) (m_isKept m_keptLawn m_keptBalls m_keptStrength m_keptDays : Int32) (m_h : Int64) (m_depthOf m_kindOf m_sizeOf m_placeOf m_onOf m_sticksOf m_page m_savedDepth m_gameSize m_gamePlace m_gameSticks m_gameDepth m_keptDepth m_keptSize m_keptPlace m_keptOn m_keptSticks : Nat → Int32) (a1 : Int32) {r : Int32} (hF : f_X8_highest m_strength m_balls m_kindOf m_sizeOf m_placeOf a1 = some r) : CT l D (tysOf cI cC cB cQ) kc kt yX8_highest cX8_highest 2 (some .int) ({ frames := 4, cells := 0, slots := 0, locals := 235 } : Room) [.ref mh, .int a1] (wM cI cC cB cQ kc mh q_depthOf q_kindOf q_sizeOf q_placeOf q_onOf q_sticksOf q_page q_savedDepth q_gameSize q_gamePlace q_gameSticks q_gameDepth q_keptDepth q_keptSize q_keptPlace q_keptOn q_keptSticks m_isLawn m_lawns m_wetness m_strength m_days m_balls m_asks m_books m_pageLength m_faultAt m_savedSize m_savedPlace m_savedSticks m_bestSize m_bestFirst m_seedNow m_isKept m_keptLawn m_keptBalls m_keptStrength m_keptDays m_h m_depthOf m_kindOf m_sizeOf m_placeOf m_onOf m_sticksOf m_page m_savedDepth m_gameSize m_gamePlace m_gameSticks m_gameDepth m_keptDepth m_keptSize m_keptPlace m_keptOn m_keptSticks) ((fun (r : Int32) => (wM cI cC cB cQ kc mh q_depthOf q_kindOf q_sizeOf q_placeOf q_onOf q_sticksOf q_page q_savedDepth q_gameSize q_gamePlace q_gameSticks q_gameDepth q_keptDepth q_keptSize q_keptPlace q_keptOn q_keptSticks m_isLawn m_lawns m_wetness m_strength m_days m_balls m_asks m_books m_pageLength m_faultAt m_savedSize m_savedPlace m_savedSticks m_bestSize m_bestFirst m_seedNow m_isKept m_keptLawn m_keptBalls m_keptStrength m_keptDays m_h m_depthOf m_kindOf m_sizeOf m_placeOf m_onOf m_sticksOf m_page m_savedDepth m_gameSize m_gamePlace m_gameSticks m_gameDepth m_keptDepth m_keptSize m_keptPlace m_keptOn m_keptSticks)) r) ((fun (r : Int32) => some (.int r)) r) := by
  refine CT.of (ww := (fun (r : Int32) => (wM cI cC cB cQ kc mh q_depthOf q_kindOf q_sizeOf q_placeOf q_onOf q_sticksOf q_page q_savedDepth q_gameSize q_gamePlace q_gameSticks q_gameDepth q_keptDepth q_keptSize q_keptPlace q_keptOn q_keptSticks m_isLawn m_lawns m_wetness m_strength m_days m_balls m_asks m_books m_pageLength m_faultAt m_savedSize m_savedPlace m_savedSticks m_bestSize m_bestFirst m_seedNow m_isKept m_keptLawn m_keptBalls m_keptStrength m_keptDays m_h m_depthOf m_kindOf m_sizeOf m_placeOf m_onOf m_sticksOf m_page m_savedDepth m_gameSize m_gamePlace m_gameSticks m_gameDepth m_keptDepth m_keptSize m_keptPlace m_keptOn m_keptSticks))) (oo := (fun (r : Int32) => some (.int r))) hF RX8 rfl rfl (Nat.le_of_ble_eq_true rfl) ?_
  intro p e s m args below meth c A K hret hlk
  rewrite [f_X8_highest]
  refine s_iload_n K dX8_highest_0 rfl 1 rfl ?_
  refine s_iconst K dX8_highest_1 kic_0 ?_
  refine s_iconst K dX8_highest_2 kic_1 ?_
  refine s_bind (fun q hq_2 => ?_)
  obtain ⟨r_1, rfl⟩ : ∃ z, z = q := ⟨_, rfl⟩
  refine s_callS0 (rest := []) (st1 := [.int r_1]) K (c_X8_within a1 0 1 hq_2) hd_X8_within t_676 t_677 t_10 t_678 ⟨(Nat.le_of_ble_eq_true rfl), (Nat.le_of_ble_eq_true rfl)⟩ ⟨rfl, rfl⟩ ⟨Nat.zero_le _, Nat.zero_le _⟩ rfl rfl (Nat.le_of_ble_eq_true rfl) dX8_highest_3 ?_
  refine s_if_eq (tgt := 17) K dX8_highest_6 (by decide) (fun c_3 => ?_) (fun c_3 => ?_)
  · refine s_bipush K dX8_highest_17 kib_m102 ?_
    exact s_iret K hret hlk rfl rfl dX8_highest_19
  · refine s_aload_n K dX8_highest_9 rfl 0 rfl ?_
    refine s_iload_n K dX8_highest_10 rfl 1 rfl ?_
    refine s_bind (fun q hq_5 => ?_)
    obtain ⟨r_4, rfl⟩ : ∃ z, z = q := ⟨_, rfl⟩
    refine s_callV (w' := (wM cI cC cB cQ kc mh q_depthOf q_kindOf q_sizeOf q_placeOf q_onOf q_sticksOf q_page q_savedDepth q_gameSize q_gamePlace q_gameSticks q_gameDepth q_keptDepth q_keptSize q_keptPlace q_keptOn q_keptSticks m_isLawn m_lawns m_wetness m_strength m_days m_balls m_asks m_books m_pageLength m_faultAt m_savedSize m_savedPlace m_savedSticks m_bestSize m_bestFirst m_seedNow m_isKept m_keptLawn m_keptBalls m_keptStrength m_keptDays m_h m_depthOf m_kindOf m_sizeOf m_placeOf m_onOf m_sticksOf m_page m_savedDepth m_gameSize m_gamePlace m_gameSticks m_gameDepth m_keptDepth m_keptSize m_keptPlace m_keptOn m_keptSticks)) (rest := []) (st1 := [.int r_4]) K (c_X8_highestNow mh q_depthOf q_kindOf q_sizeOf q_placeOf q_onOf q_sticksOf q_page q_savedDepth q_gameSize q_gamePlace q_gameSticks q_gameDepth q_keptDepth q_keptSize q_keptPlace q_keptOn q_keptSticks m_isLawn m_lawns m_wetness m_strength m_days m_balls m_asks m_books m_pageLength m_faultAt m_savedSize m_savedPlace m_savedSticks m_bestSize m_bestFirst m_seedNow m_isKept m_keptLawn m_keptBalls m_keptStrength m_keptDays m_h m_depthOf m_kindOf m_sizeOf m_placeOf m_onOf m_sticksOf m_page m_savedDepth m_gameSize m_gamePlace m_gameSticks m_gameDepth m_keptDepth m_keptSize m_keptPlace m_keptOn m_keptSticks a1 hq_5) rfl hd_X8_highestNow t_841 t_843 ts_29 t_10 t_844 ⟨(Nat.le_of_ble_eq_true rfl), (Nat.le_of_ble_eq_true rfl)⟩ ⟨rfl, rfl⟩ ⟨Nat.zero_le _, Nat.zero_le _⟩ (rv_o K 0 rfl rfl) [0, 1, 2, 3, 4, 5, 6, 7, 8, 9, 10, 11, 12, 13, 14, 15, 16, 17] [] [0, 1, 2, 3, 4, 5, 6, 7, 8, 9, 10, 11, 12, 13, 14, 15, 16, 17] rfl rfl rfl rfl (by decide) rfl rfl rfl rfl (Nat.le_of_ble_eq_true rfl) dX8_highest_11 ?_
    refine s_goto (tgt := 19) K dX8_highest_14 (by decide) ?_
    exact s_iret K hret hlk rfl rfl dX8_highest_19
set_option maxHeartbeats 4000000 in
set_option maxRecDepth 100000 in
theorem c_X8_lastsNow {l : Launch} {D : va_G} {cI cC cB cQ : ClassId} {kc : Nat → Nat} {kt : Nat} (mh q_depthOf q_kindOf q_sizeOf q_placeOf q_onOf q_sticksOf q_page q_savedDepth q_gameSize q_gamePlace q_gameSticks q_gameDepth q_keptDepth q_keptSize q_keptPlace q_keptOn q_keptSticks : Nat) (m_isLawn m_lawns m_wetness m_strength m_days m_balls m_asks m_books m_pageLength m_faultAt m_savedSize m_savedPlace m_savedSticks m_bestSize m_bestFirst : Int32) (m_seedNow : Int64) (m_isKept m_keptLawn m_keptBalls m_keptStrength m_keptDays : Int32) (m_h : Int64) (m_depthOf m_kindOf m_sizeOf m_placeOf m_onOf m_sticksOf m_page m_savedDepth m_gameSize m_gamePlace m_gameSticks m_gameDepth m_keptDepth m_keptSize m_keptPlace m_keptOn m_keptSticks : Nat → Int32) (a1 : Int32) {r : Int32} (hF : f_X8_lastsNow m_balls m_kindOf m_sizeOf m_placeOf a1 = some r) : CT l D (tysOf cI cC cB cQ) kc kt yX8_lastsNow cX8_lastsNow 6 (some .int) ({ frames := 2, cells := 0, slots := 0, locals := 101 } : Room) [.ref mh, .int a1] (wM cI cC cB cQ kc mh q_depthOf q_kindOf q_sizeOf q_placeOf q_onOf q_sticksOf q_page q_savedDepth q_gameSize q_gamePlace q_gameSticks q_gameDepth q_keptDepth q_keptSize q_keptPlace q_keptOn q_keptSticks m_isLawn m_lawns m_wetness m_strength m_days m_balls m_asks m_books m_pageLength m_faultAt m_savedSize m_savedPlace m_savedSticks m_bestSize m_bestFirst m_seedNow m_isKept m_keptLawn m_keptBalls m_keptStrength m_keptDays m_h m_depthOf m_kindOf m_sizeOf m_placeOf m_onOf m_sticksOf m_page m_savedDepth m_gameSize m_gamePlace m_gameSticks m_gameDepth m_keptDepth m_keptSize m_keptPlace m_keptOn m_keptSticks) ((fun (r : Int32) => (wM cI cC cB cQ kc mh q_depthOf q_kindOf q_sizeOf q_placeOf q_onOf q_sticksOf q_page q_savedDepth q_gameSize q_gamePlace q_gameSticks q_gameDepth q_keptDepth q_keptSize q_keptPlace q_keptOn q_keptSticks m_isLawn m_lawns m_wetness m_strength m_days m_balls m_asks m_books m_pageLength m_faultAt m_savedSize m_savedPlace m_savedSticks m_bestSize m_bestFirst m_seedNow m_isKept m_keptLawn m_keptBalls m_keptStrength m_keptDays m_h m_depthOf m_kindOf m_sizeOf m_placeOf m_onOf m_sticksOf m_page m_savedDepth m_gameSize m_gamePlace m_gameSticks m_gameDepth m_keptDepth m_keptSize m_keptPlace m_keptOn m_keptSticks)) r) ((fun (r : Int32) => some (.int r)) r) := by
  refine CT.of (ww := (fun (r : Int32) => (wM cI cC cB cQ kc mh q_depthOf q_kindOf q_sizeOf q_placeOf q_onOf q_sticksOf q_page q_savedDepth q_gameSize q_gamePlace q_gameSticks q_gameDepth q_keptDepth q_keptSize q_keptPlace q_keptOn q_keptSticks m_isLawn m_lawns m_wetness m_strength m_days m_balls m_asks m_books m_pageLength m_faultAt m_savedSize m_savedPlace m_savedSticks m_bestSize m_bestFirst m_seedNow m_isKept m_keptLawn m_keptBalls m_keptStrength m_keptDays m_h m_depthOf m_kindOf m_sizeOf m_placeOf m_onOf m_sticksOf m_page m_savedDepth m_gameSize m_gamePlace m_gameSticks m_gameDepth m_keptDepth m_keptSize m_keptPlace m_keptOn m_keptSticks))) (oo := (fun (r : Int32) => some (.int r))) hF RX8 rfl rfl (Nat.le_of_ble_eq_true rfl) ?_
  intro p e s m args below meth c A K hret hlk
  have L4 : ∀ (fu : Nat) (x2 x3 : Int32), Sw (ρ := Int32) p l e ({ frames := 2, cells := 0, slots := 0, locals := 101 } : Room) s m args below meth c 0 0 D A 6 (fun r => MQ below (CQ D ((fun (r : Int32) => (wM cI cC cB cQ kc mh q_depthOf q_kindOf q_sizeOf q_placeOf q_onOf q_sticksOf q_page q_savedDepth q_gameSize q_gamePlace q_gameSticks q_gameDepth q_keptDepth q_keptSize q_keptPlace q_keptOn q_keptSticks m_isLawn m_lawns m_wetness m_strength m_days m_balls m_asks m_books m_pageLength m_faultAt m_savedSize m_savedPlace m_savedSticks m_bestSize m_bestFirst m_seedNow m_isKept m_keptLawn m_keptBalls m_keptStrength m_keptDays m_h m_depthOf m_kindOf m_sizeOf m_placeOf m_onOf m_sticksOf m_page m_savedDepth m_gameSize m_gamePlace m_gameSticks m_gameDepth m_keptDepth m_keptSize m_keptPlace m_keptOn m_keptSticks)) r) ((fun (r : Int32) => some (.int r)) r) A) args s 0 0 A) (f_X8_lastsNow_h4 m_balls m_kindOf m_sizeOf m_placeOf a1 fu x2 x3) (wM cI cC cB cQ kc mh q_depthOf q_kindOf q_sizeOf q_placeOf q_onOf q_sticksOf q_page q_savedDepth q_gameSize q_gamePlace q_gameSticks q_gameDepth q_keptDepth q_keptSize q_keptPlace q_keptOn q_keptSticks m_isLawn m_lawns m_wetness m_strength m_days m_balls m_asks m_books m_pageLength m_faultAt m_savedSize m_savedPlace m_savedSticks m_bestSize m_bestFirst m_seedNow m_isKept m_keptLawn m_keptBalls m_keptStrength m_keptDays m_h m_depthOf m_kindOf m_sizeOf m_placeOf m_onOf m_sticksOf m_page m_savedDepth m_gameSize m_gamePlace m_gameSticks m_gameDepth m_keptDepth m_keptSize m_keptPlace m_keptOn m_keptSticks) [(0, .ref mh), (1, .int a1), (2, .int x2), (3, .int x3)] 4 [] := by
    intro  fu
    induction fu with
    | zero =>
      intro x2 x3
      rewrite [f_X8_lastsNow_h4]
      exact s_none
    | succ fu ih =>
      intro x2 x3
      rewrite [f_X8_lastsNow_h4]
      refine s_iload_n K dX8_lastsNow_4 rfl 3 rfl ?_
      refine s_aload_n K dX8_lastsNow_5 rfl 0 rfl ?_
      refine s_get K 0 rfl rfl inT8 6 (Nat.le_of_ble_eq_true rfl) t_559 rfl rfl dX8_lastsNow_6 ?_
      refine s_icmp_ge (tgt := 74) K dX8_lastsNow_9 (by decide) (fun c_1 => ?_) (fun c_1 => ?_)
      · refine s_iload_n K dX8_lastsNow_74 rfl 2 rfl ?_
        exact s_iret K hret hlk rfl rfl dX8_lastsNow_75
      · refine s_aload_n K dX8_lastsNow_12 rfl 0 rfl ?_
        refine s_get K 0 rfl rfl inT8 9 (Nat.le_of_ble_eq_true rfl) t_562 rfl rfl dX8_lastsNow_13 ?_
        refine s_iload_n K dX8_lastsNow_16 rfl 3 rfl ?_
        refine s_ck (fun ho_2 => ?_)
        refine s_iald K 4 0 rfl rfl (ok_in ho_2) rfl dX8_lastsNow_17 ?_
        refine s_iconst K dX8_lastsNow_18 kic_m1 ?_
        refine s_icmp_eq (tgt := 68) K dX8_lastsNow_19 (by decide) (fun c_3 => ?_) (fun c_3 => ?_)
        · refine s_iinc (lv' := [(3, .int (x3 + 1)), (0, .ref mh), (1, .int a1), (2, .int x2)]) K dX8_lastsNow_68 3 rfl (kii_1 _) (Nat.le_of_ble_eq_true rfl) rfl ?_
          refine s_goto (tgt := 4) K dX8_lastsNow_71 (by decide) ?_
          refine s_lv (lv' := [(0, .ref mh), (1, .int a1), (2, .int x2), (3, .int (x3 + 1))]) [1, 2, 3, 0] rfl ?_
          exact ih x2 (x3 + 1)
        · refine s_aload_n K dX8_lastsNow_22 rfl 0 rfl ?_
          refine s_get K 0 rfl rfl inT8 7 (Nat.le_of_ble_eq_true rfl) t_560 rfl rfl dX8_lastsNow_23 ?_
          refine s_iload_n K dX8_lastsNow_26 rfl 3 rfl ?_
          refine s_iald K 2 0 rfl rfl (ok_in ho_2) rfl dX8_lastsNow_27 ?_
          refine s_iload_n K dX8_lastsNow_28 rfl 1 rfl ?_
          refine s_bind (fun q hq_5 => ?_)
          obtain ⟨r_4, rfl⟩ : ∃ z, z = q := ⟨_, rfl⟩
          refine s_callS0 (rest := []) (st1 := [.int r_4]) K (c_X8_loss (m_kindOf (Int32.toNatClampNeg x3)) a1 hq_5) hd_X8_loss t_799 t_800 t_10 t_801 ⟨(Nat.le_of_ble_eq_true rfl), (Nat.le_of_ble_eq_true rfl)⟩ ⟨rfl, rfl⟩ ⟨Nat.zero_le _, Nat.zero_le _⟩ rfl rfl (Nat.le_of_ble_eq_true rfl) dX8_lastsNow_29 ?_
          refine s_istore (lv' := [(4, .int r_4), (0, .ref mh), (1, .int a1), (2, .int x2), (3, .int x3)]) K dX8_lastsNow_32 (Nat.le_of_ble_eq_true rfl) rfl ?_
          refine s_aload_n K dX8_lastsNow_34 rfl 1 rfl ?_
          refine s_get K 0 rfl rfl inT8 8 (Nat.le_of_ble_eq_true rfl) t_561 rfl rfl dX8_lastsNow_35 ?_
          refine s_iload_n K dX8_lastsNow_38 rfl 4 rfl ?_
          refine s_iald K 3 0 rfl rfl (ok_in ho_2) rfl dX8_lastsNow_39 ?_
          refine s_iload K dX8_lastsNow_40 0 rfl ?_
          refine s_iadd K dX8_lastsNow_42 ?_
          refine s_iconst K dX8_lastsNow_43 kic_1 ?_
          refine s_isub K dX8_lastsNow_44 ?_
          refine s_iload K dX8_lastsNow_45 0 rfl ?_
          refine s_ck (fun hz_6 => ?_)
          refine s_idiv K dX8_lastsNow_47 hz_6 ?_
          refine s_istore (lv' := [(5, .int ((((m_sizeOf (Int32.toNatClampNeg x3)) + r_4) - 1) / r_4)), (4, .int r_4), (0, .ref mh), (1, .int a1), (2, .int x2), (3, .int x3)]) K dX8_lastsNow_48 (Nat.le_of_ble_eq_true rfl) rfl ?_
          refine s_iload_n K dX8_lastsNow_50 rfl 4 rfl ?_
          refine s_iconst K dX8_lastsNow_51 kic_m1 ?_
          refine s_icmp_eq (tgt := 61) K dX8_lastsNow_52 (by decide) (fun c_7 => ?_) (fun c_7 => ?_)
          · refine s_iload K dX8_lastsNow_61 0 rfl ?_
            refine s_goto (tgt := 67) K dX8_lastsNow_63 (by decide) ?_
            refine s_istore_n (lv' := [(2, .int ((((m_sizeOf (Int32.toNatClampNeg x3)) + r_4) - 1) / r_4)), (5, .int ((((m_sizeOf (Int32.toNatClampNeg x3)) + r_4) - 1) / r_4)), (4, .int r_4), (0, .ref mh), (1, .int a1), (3, .int x3)]) K dX8_lastsNow_67 rfl (Nat.le_of_ble_eq_true rfl) rfl ?_
            refine s_iinc (lv' := [(3, .int (x3 + 1)), (2, .int ((((m_sizeOf (Int32.toNatClampNeg x3)) + r_4) - 1) / r_4)), (5, .int ((((m_sizeOf (Int32.toNatClampNeg x3)) + r_4) - 1) / r_4)), (4, .int r_4), (0, .ref mh), (1, .int a1)]) K dX8_lastsNow_68 5 rfl (kii_1 _) (Nat.le_of_ble_eq_true rfl) rfl ?_
            refine s_goto (tgt := 4) K dX8_lastsNow_71 (by decide) ?_
            refine s_lv (lv' := [(0, .ref mh), (1, .int a1), (2, .int ((((m_sizeOf (Int32.toNatClampNeg x3)) + r_4) - 1) / r_4)), (3, .int (x3 + 1))]) [4, 5, 1, 0] rfl ?_
            exact ih ((((m_sizeOf (Int32.toNatClampNeg x3)) + r_4) - 1) / r_4) (x3 + 1)
          · refine s_iload K dX8_lastsNow_55 0 rfl ?_
            refine s_iload_n K dX8_lastsNow_57 rfl 4 rfl ?_
            refine s_icmp_ge (tgt := 66) K dX8_lastsNow_58 (by decide) (fun c_8 => ?_) (fun c_8 => ?_)
            · refine s_iload_n K dX8_lastsNow_66 rfl 4 rfl ?_
              refine s_istore_n (lv' := [(2, .int x2), (5, .int ((((m_sizeOf (Int32.toNatClampNeg x3)) + r_4) - 1) / r_4)), (4, .int r_4), (0, .ref mh), (1, .int a1), (3, .int x3)]) K dX8_lastsNow_67 rfl (Nat.le_of_ble_eq_true rfl) rfl ?_
              refine s_iinc (lv' := [(3, .int (x3 + 1)), (2, .int x2), (5, .int ((((m_sizeOf (Int32.toNatClampNeg x3)) + r_4) - 1) / r_4)), (4, .int r_4), (0, .ref mh), (1, .int a1)]) K dX8_lastsNow_68 5 rfl (kii_1 _) (Nat.le_of_ble_eq_true rfl) rfl ?_
              refine s_goto (tgt := 4) K dX8_lastsNow_71 (by decide) ?_
              refine s_lv (lv' := [(0, .ref mh), (1, .int a1), (2, .int x2), (3, .int (x3 + 1))]) [4, 5, 1, 0] rfl ?_
              exact ih x2 (x3 + 1)
            · refine s_iload K dX8_lastsNow_61 0 rfl ?_
              refine s_goto (tgt := 67) K dX8_lastsNow_63 (by decide) ?_
              refine s_istore_n (lv' := [(2, .int ((((m_sizeOf (Int32.toNatClampNeg x3)) + r_4) - 1) / r_4)), (5, .int ((((m_sizeOf (Int32.toNatClampNeg x3)) + r_4) - 1) / r_4)), (4, .int r_4), (0, .ref mh), (1, .int a1), (3, .int x3)]) K dX8_lastsNow_67 rfl (Nat.le_of_ble_eq_true rfl) rfl ?_
              refine s_iinc (lv' := [(3, .int (x3 + 1)), (2, .int ((((m_sizeOf (Int32.toNatClampNeg x3)) + r_4) - 1) / r_4)), (5, .int ((((m_sizeOf (Int32.toNatClampNeg x3)) + r_4) - 1) / r_4)), (4, .int r_4), (0, .ref mh), (1, .int a1)]) K dX8_lastsNow_68 5 rfl (kii_1 _) (Nat.le_of_ble_eq_true rfl) rfl ?_
              refine s_goto (tgt := 4) K dX8_lastsNow_71 (by decide) ?_
              refine s_lv (lv' := [(0, .ref mh), (1, .int a1), (2, .int ((((m_sizeOf (Int32.toNatClampNeg x3)) + r_4) - 1) / r_4)), (3, .int (x3 + 1))]) [4, 5, 1, 0] rfl ?_
              exact ih ((((m_sizeOf (Int32.toNatClampNeg x3)) + r_4) - 1) / r_4) (x3 + 1)
  rewrite [f_X8_lastsNow]
  refine s_iconst K dX8_lastsNow_0 kic_m1 ?_
  refine s_istore_n (lv' := [(2, .int (-1)), (0, .ref mh), (1, .int a1)]) K dX8_lastsNow_1 rfl (Nat.le_of_ble_eq_true rfl) rfl ?_
  refine s_iconst K dX8_lastsNow_2 kic_0 ?_
  refine s_istore_n (lv' := [(3, .int 0), (2, .int (-1)), (0, .ref mh), (1, .int a1)]) K dX8_lastsNow_3 rfl (Nat.le_of_ble_eq_true rfl) rfl ?_
  refine s_lv (lv' := [(0, .ref mh), (1, .int a1), (2, .int (-1)), (3, .int 0)]) [2, 3, 1, 0] rfl ?_
  exact L4 70 (-1) 0
set_option maxHeartbeats 4000000 in
set_option maxRecDepth 100000 in
theorem c_X8_lasts {l : Launch} {D : va_G} {cI cC cB cQ : ClassId} {kc : Nat → Nat} {kt : Nat} (mh q_depthOf q_kindOf q_sizeOf q_placeOf q_onOf q_sticksOf q_page q_savedDepth q_gameSize q_gamePlace q_gameSticks q_gameDepth q_keptDepth q_keptSize q_keptPlace q_keptOn q_keptSticks : Nat) (m_isLawn m_lawns m_wetness m_strength m_days m_balls m_asks m_books m_pageLength m_faultAt m_savedSize m_savedPlace m_savedSticks m_bestSize m_bestFirst : Int32) (m_seedNow : Int64) (m_isKept m_keptLawn m_keptBalls m_keptStrength m_keptDays : Int32) (m_h : Int64) (m_depthOf m_kindOf m_sizeOf m_placeOf m_onOf m_sticksOf m_page m_savedDepth m_gameSize m_gamePlace m_gameSticks m_gameDepth m_keptDepth m_keptSize m_keptPlace m_keptOn m_keptSticks : Nat → Int32) (a1 : Int32) {r : Int32} (hF : f_X8_lasts m_balls m_kindOf m_sizeOf m_placeOf a1 = some r) : CT l D (tysOf cI cC cB cQ) kc kt yX8_lasts cX8_lasts 2 (some .int) ({ frames := 3, cells := 0, slots := 0, locals := 166 } : Room) [.ref mh, .int a1] (wM cI cC cB cQ kc mh q_depthOf q_kindOf q_sizeOf q_placeOf q_onOf q_sticksOf q_page q_savedDepth q_gameSize q_gamePlace q_gameSticks q_gameDepth q_keptDepth q_keptSize q_keptPlace q_keptOn q_keptSticks m_isLawn m_lawns m_wetness m_strength m_days m_balls m_asks m_books m_pageLength m_faultAt m_savedSize m_savedPlace m_savedSticks m_bestSize m_bestFirst m_seedNow m_isKept m_keptLawn m_keptBalls m_keptStrength m_keptDays m_h m_depthOf m_kindOf m_sizeOf m_placeOf m_onOf m_sticksOf m_page m_savedDepth m_gameSize m_gamePlace m_gameSticks m_gameDepth m_keptDepth m_keptSize m_keptPlace m_keptOn m_keptSticks) ((fun (r : Int32) => (wM cI cC cB cQ kc mh q_depthOf q_kindOf q_sizeOf q_placeOf q_onOf q_sticksOf q_page q_savedDepth q_gameSize q_gamePlace q_gameSticks q_gameDepth q_keptDepth q_keptSize q_keptPlace q_keptOn q_keptSticks m_isLawn m_lawns m_wetness m_strength m_days m_balls m_asks m_books m_pageLength m_faultAt m_savedSize m_savedPlace m_savedSticks m_bestSize m_bestFirst m_seedNow m_isKept m_keptLawn m_keptBalls m_keptStrength m_keptDays m_h m_depthOf m_kindOf m_sizeOf m_placeOf m_onOf m_sticksOf m_page m_savedDepth m_gameSize m_gamePlace m_gameSticks m_gameDepth m_keptDepth m_keptSize m_keptPlace m_keptOn m_keptSticks)) r) ((fun (r : Int32) => some (.int r)) r) := by
  refine CT.of (ww := (fun (r : Int32) => (wM cI cC cB cQ kc mh q_depthOf q_kindOf q_sizeOf q_placeOf q_onOf q_sticksOf q_page q_savedDepth q_gameSize q_gamePlace q_gameSticks q_gameDepth q_keptDepth q_keptSize q_keptPlace q_keptOn q_keptSticks m_isLawn m_lawns m_wetness m_strength m_days m_balls m_asks m_books m_pageLength m_faultAt m_savedSize m_savedPlace m_savedSticks m_bestSize m_bestFirst m_seedNow m_isKept m_keptLawn m_keptBalls m_keptStrength m_keptDays m_h m_depthOf m_kindOf m_sizeOf m_placeOf m_onOf m_sticksOf m_page m_savedDepth m_gameSize m_gamePlace m_gameSticks m_gameDepth m_keptDepth m_keptSize m_keptPlace m_keptOn m_keptSticks))) (oo := (fun (r : Int32) => some (.int r))) hF RX8 rfl rfl (Nat.le_of_ble_eq_true rfl) ?_
  intro p e s m args below meth c A K hret hlk
  rewrite [f_X8_lasts]
  refine s_iload_n K dX8_lasts_0 rfl 1 rfl ?_
  refine s_iconst K dX8_lasts_1 kic_1 ?_
  refine s_bipush K dX8_lasts_2 kib_9 ?_
  refine s_bind (fun q hq_2 => ?_)
  obtain ⟨r_1, rfl⟩ : ∃ z, z = q := ⟨_, rfl⟩
  refine s_callS0 (rest := []) (st1 := [.int r_1]) K (c_X8_within a1 1 9 hq_2) hd_X8_within t_676 t_677 t_10 t_678 ⟨(Nat.le_of_ble_eq_true rfl), (Nat.le_of_ble_eq_true rfl)⟩ ⟨rfl, rfl⟩ ⟨Nat.zero_le _, Nat.zero_le _⟩ rfl rfl (Nat.le_of_ble_eq_true rfl) dX8_lasts_4 ?_
  refine s_if_eq (tgt := 18) K dX8_lasts_7 (by decide) (fun c_3 => ?_) (fun c_3 => ?_)
  · refine s_bipush K dX8_lasts_18 kib_m102 ?_
    exact s_iret K hret hlk rfl rfl dX8_lasts_20
  · refine s_aload_n K dX8_lasts_10 rfl 0 rfl ?_
    refine s_iload_n K dX8_lasts_11 rfl 1 rfl ?_
    refine s_bind (fun q hq_5 => ?_)
    obtain ⟨r_4, rfl⟩ : ∃ z, z = q := ⟨_, rfl⟩
    refine s_callV (w' := (wM cI cC cB cQ kc mh q_depthOf q_kindOf q_sizeOf q_placeOf q_onOf q_sticksOf q_page q_savedDepth q_gameSize q_gamePlace q_gameSticks q_gameDepth q_keptDepth q_keptSize q_keptPlace q_keptOn q_keptSticks m_isLawn m_lawns m_wetness m_strength m_days m_balls m_asks m_books m_pageLength m_faultAt m_savedSize m_savedPlace m_savedSticks m_bestSize m_bestFirst m_seedNow m_isKept m_keptLawn m_keptBalls m_keptStrength m_keptDays m_h m_depthOf m_kindOf m_sizeOf m_placeOf m_onOf m_sticksOf m_page m_savedDepth m_gameSize m_gamePlace m_gameSticks m_gameDepth m_keptDepth m_keptSize m_keptPlace m_keptOn m_keptSticks)) (rest := []) (st1 := [.int r_4]) K (c_X8_lastsNow mh q_depthOf q_kindOf q_sizeOf q_placeOf q_onOf q_sticksOf q_page q_savedDepth q_gameSize q_gamePlace q_gameSticks q_gameDepth q_keptDepth q_keptSize q_keptPlace q_keptOn q_keptSticks m_isLawn m_lawns m_wetness m_strength m_days m_balls m_asks m_books m_pageLength m_faultAt m_savedSize m_savedPlace m_savedSticks m_bestSize m_bestFirst m_seedNow m_isKept m_keptLawn m_keptBalls m_keptStrength m_keptDays m_h m_depthOf m_kindOf m_sizeOf m_placeOf m_onOf m_sticksOf m_page m_savedDepth m_gameSize m_gamePlace m_gameSticks m_gameDepth m_keptDepth m_keptSize m_keptPlace m_keptOn m_keptSticks a1 hq_5) rfl hd_X8_lastsNow t_853 t_855 ts_31 t_10 t_856 ⟨(Nat.le_of_ble_eq_true rfl), (Nat.le_of_ble_eq_true rfl)⟩ ⟨rfl, rfl⟩ ⟨Nat.zero_le _, Nat.zero_le _⟩ (rv_o K 0 rfl rfl) [0, 1, 2, 3, 4, 5, 6, 7, 8, 9, 10, 11, 12, 13, 14, 15, 16, 17] [] [0, 1, 2, 3, 4, 5, 6, 7, 8, 9, 10, 11, 12, 13, 14, 15, 16, 17] rfl rfl rfl rfl (by decide) rfl rfl rfl rfl (Nat.le_of_ble_eq_true rfl) dX8_lasts_12 ?_
    refine s_goto (tgt := 20) K dX8_lasts_15 (by decide) ?_
    exact s_iret K hret hlk rfl rfl dX8_lasts_20
set_option maxHeartbeats 4000000 in
set_option maxRecDepth 100000 in
theorem c_X8_bookNow {l : Launch} {D : va_G} {cI cC cB cQ : ClassId} {kc : Nat → Nat} {kt : Nat} (mh q_depthOf q_kindOf q_sizeOf q_placeOf q_onOf q_sticksOf q_page q_savedDepth q_gameSize q_gamePlace q_gameSticks q_gameDepth q_keptDepth q_keptSize q_keptPlace q_keptOn q_keptSticks : Nat) (m_isLawn m_lawns m_wetness m_strength m_days m_balls m_asks m_books m_pageLength m_faultAt m_savedSize m_savedPlace m_savedSticks m_bestSize m_bestFirst : Int32) (m_seedNow : Int64) (m_isKept m_keptLawn m_keptBalls m_keptStrength m_keptDays : Int32) (m_h : Int64) (m_depthOf m_kindOf m_sizeOf m_placeOf m_onOf m_sticksOf m_page m_savedDepth m_gameSize m_gamePlace m_gameSticks m_gameDepth m_keptDepth m_keptSize m_keptPlace m_keptOn m_keptSticks : Nat → Int32) (a1 a2 a3 a4 : Int32) {r : Int32 × Int32 × Int32 × Int32 × (Nat → Int32) × (Nat → Int32) × (Nat → Int32) × (Nat → Int32) × (Nat → Int32) × (Nat → Int32) × (Nat → Int32)} (hF : f_X8_bookNow m_wetness m_strength m_balls m_depthOf m_kindOf m_sizeOf m_placeOf m_onOf m_sticksOf m_savedDepth a1 a2 a3 a4 = some r) : CT l D (tysOf cI cC cB cQ) kc kt yX8_bookNow cX8_bookNow 8 (some .int) ({ frames := 5, cells := 0, slots := 0, locals := 295 } : Room) [.ref mh, .int a1, .int a2, .int a3, .int a4] (wM cI cC cB cQ kc mh q_depthOf q_kindOf q_sizeOf q_placeOf q_onOf q_sticksOf q_page q_savedDepth q_gameSize q_gamePlace q_gameSticks q_gameDepth q_keptDepth q_keptSize q_keptPlace q_keptOn q_keptSticks m_isLawn m_lawns m_wetness m_strength m_days m_balls m_asks m_books m_pageLength m_faultAt m_savedSize m_savedPlace m_savedSticks m_bestSize m_bestFirst m_seedNow m_isKept m_keptLawn m_keptBalls m_keptStrength m_keptDays m_h m_depthOf m_kindOf m_sizeOf m_placeOf m_onOf m_sticksOf m_page m_savedDepth m_gameSize m_gamePlace m_gameSticks m_gameDepth m_keptDepth m_keptSize m_keptPlace m_keptOn m_keptSticks) ((fun (r : Int32 × Int32 × Int32 × Int32 × (Nat → Int32) × (Nat → Int32) × (Nat → Int32) × (Nat → Int32) × (Nat → Int32) × (Nat → Int32) × (Nat → Int32)) => (wM cI cC cB cQ kc mh q_depthOf q_kindOf q_sizeOf q_placeOf q_onOf q_sticksOf q_page q_savedDepth q_gameSize q_gamePlace q_gameSticks q_gameDepth q_keptDepth q_keptSize q_keptPlace q_keptOn q_keptSticks m_isLawn m_lawns m_wetness m_strength m_days m_balls m_asks m_books m_pageLength m_faultAt (r.2.1) (r.2.2.1) (r.2.2.2.1) m_bestSize m_bestFirst m_seedNow m_isKept m_keptLawn m_keptBalls m_keptStrength m_keptDays m_h (r.2.2.2.2.1) (r.2.2.2.2.2.1) (r.2.2.2.2.2.2.1) (r.2.2.2.2.2.2.2.1) (r.2.2.2.2.2.2.2.2.1) (r.2.2.2.2.2.2.2.2.2.1) m_page (r.2.2.2.2.2.2.2.2.2.2) m_gameSize m_gamePlace m_gameSticks m_gameDepth m_keptDepth m_keptSize m_keptPlace m_keptOn m_keptSticks)) r) ((fun (r : Int32 × Int32 × Int32 × Int32 × (Nat → Int32) × (Nat → Int32) × (Nat → Int32) × (Nat → Int32) × (Nat → Int32) × (Nat → Int32) × (Nat → Int32)) => some (.int (r.1))) r) := by
  refine CT.of (ww := (fun (r : Int32 × Int32 × Int32 × Int32 × (Nat → Int32) × (Nat → Int32) × (Nat → Int32) × (Nat → Int32) × (Nat → Int32) × (Nat → Int32) × (Nat → Int32)) => (wM cI cC cB cQ kc mh q_depthOf q_kindOf q_sizeOf q_placeOf q_onOf q_sticksOf q_page q_savedDepth q_gameSize q_gamePlace q_gameSticks q_gameDepth q_keptDepth q_keptSize q_keptPlace q_keptOn q_keptSticks m_isLawn m_lawns m_wetness m_strength m_days m_balls m_asks m_books m_pageLength m_faultAt (r.2.1) (r.2.2.1) (r.2.2.2.1) m_bestSize m_bestFirst m_seedNow m_isKept m_keptLawn m_keptBalls m_keptStrength m_keptDays m_h (r.2.2.2.2.1) (r.2.2.2.2.2.1) (r.2.2.2.2.2.2.1) (r.2.2.2.2.2.2.2.1) (r.2.2.2.2.2.2.2.2.1) (r.2.2.2.2.2.2.2.2.2.1) m_page (r.2.2.2.2.2.2.2.2.2.2) m_gameSize m_gamePlace m_gameSticks m_gameDepth m_keptDepth m_keptSize m_keptPlace m_keptOn m_keptSticks))) (oo := (fun (r : Int32 × Int32 × Int32 × Int32 × (Nat → Int32) × (Nat → Int32) × (Nat → Int32) × (Nat → Int32) × (Nat → Int32) × (Nat → Int32) × (Nat → Int32)) => some (.int (r.1)))) hF RX8 rfl rfl (Nat.le_of_ble_eq_true rfl) ?_
  intro p e s m args below meth c A K hret hlk
  have L18 : ∀ (fu : Nat) (m_savedSize m_savedPlace m_savedSticks : Int32) (m_depthOf m_kindOf m_sizeOf m_placeOf m_onOf m_sticksOf m_savedDepth : Nat → Int32) (x5 x6 : Int32), Sw (ρ := Int32 × Int32 × Int32 × Int32 × (Nat → Int32) × (Nat → Int32) × (Nat → Int32) × (Nat → Int32) × (Nat → Int32) × (Nat → Int32) × (Nat → Int32)) p l e ({ frames := 5, cells := 0, slots := 0, locals := 295 } : Room) s m args below meth c 0 0 D A 8 (fun r => MQ below (CQ D ((fun (r : Int32 × Int32 × Int32 × Int32 × (Nat → Int32) × (Nat → Int32) × (Nat → Int32) × (Nat → Int32) × (Nat → Int32) × (Nat → Int32) × (Nat → Int32)) => (wM cI cC cB cQ kc mh q_depthOf q_kindOf q_sizeOf q_placeOf q_onOf q_sticksOf q_page q_savedDepth q_gameSize q_gamePlace q_gameSticks q_gameDepth q_keptDepth q_keptSize q_keptPlace q_keptOn q_keptSticks m_isLawn m_lawns m_wetness m_strength m_days m_balls m_asks m_books m_pageLength m_faultAt (r.2.1) (r.2.2.1) (r.2.2.2.1) m_bestSize m_bestFirst m_seedNow m_isKept m_keptLawn m_keptBalls m_keptStrength m_keptDays m_h (r.2.2.2.2.1) (r.2.2.2.2.2.1) (r.2.2.2.2.2.2.1) (r.2.2.2.2.2.2.2.1) (r.2.2.2.2.2.2.2.2.1) (r.2.2.2.2.2.2.2.2.2.1) m_page (r.2.2.2.2.2.2.2.2.2.2) m_gameSize m_gamePlace m_gameSticks m_gameDepth m_keptDepth m_keptSize m_keptPlace m_keptOn m_keptSticks)) r) ((fun (r : Int32 × Int32 × Int32 × Int32 × (Nat → Int32) × (Nat → Int32) × (Nat → Int32) × (Nat → Int32) × (Nat → Int32) × (Nat → Int32) × (Nat → Int32)) => some (.int (r.1))) r) A) args s 0 0 A) (f_X8_bookNow_h18 m_wetness m_strength m_balls a3 a4 fu m_savedSize m_savedPlace m_savedSticks m_depthOf m_kindOf m_sizeOf m_placeOf m_onOf m_sticksOf m_savedDepth x5 x6) (wM cI cC cB cQ kc mh q_depthOf q_kindOf q_sizeOf q_placeOf q_onOf q_sticksOf q_page q_savedDepth q_gameSize q_gamePlace q_gameSticks q_gameDepth q_keptDepth q_keptSize q_keptPlace q_keptOn q_keptSticks m_isLawn m_lawns m_wetness m_strength m_days m_balls m_asks m_books m_pageLength m_faultAt m_savedSize m_savedPlace m_savedSticks m_bestSize m_bestFirst m_seedNow m_isKept m_keptLawn m_keptBalls m_keptStrength m_keptDays m_h m_depthOf m_kindOf m_sizeOf m_placeOf m_onOf m_sticksOf m_page m_savedDepth m_gameSize m_gamePlace m_gameSticks m_gameDepth m_keptDepth m_keptSize m_keptPlace m_keptOn m_keptSticks) [(0, .ref mh), (3, .int a3), (4, .int a4), (5, .int x5), (6, .int x6)] 18 [] := by
    intro  fu
    induction fu with
    | zero =>
      intro m_savedSize m_savedPlace m_savedSticks m_depthOf m_kindOf m_sizeOf m_placeOf m_onOf m_sticksOf m_savedDepth x5 x6
      rewrite [f_X8_bookNow_h18]
      exact s_none
    | succ fu ih =>
      intro m_savedSize m_savedPlace m_savedSticks m_depthOf m_kindOf m_sizeOf m_placeOf m_onOf m_sticksOf m_savedDepth x5 x6
      rewrite [f_X8_bookNow_h18]
      refine s_iload K dX8_bookNow_18 4 rfl ?_
      refine s_iload_n K dX8_bookNow_20 rfl 1 rfl ?_
      refine s_bind (fun q hq_13 => ?_)
      obtain ⟨r_12, rfl⟩ : ∃ z, z = q := ⟨_, rfl⟩
      refine s_callS0 (rest := [.int x6]) (st1 := [.int r_12, .int x6]) K (c_X8_power a3 hq_13) hd_X8_power t_818 t_819 t_10 t_820 ⟨(Nat.le_of_ble_eq_true rfl), (Nat.le_of_ble_eq_true rfl)⟩ ⟨rfl, rfl⟩ ⟨Nat.zero_le _, Nat.zero_le _⟩ rfl rfl (Nat.le_of_ble_eq_true rfl) dX8_bookNow_21 ?_
      refine s_icmp_ge (tgt := 74) K dX8_bookNow_24 (by decide) (fun c_14 => ?_) (fun c_14 => ?_)
      · refine s_iload K dX8_bookNow_74 3 rfl ?_
        exact s_iret K hret hlk rfl rfl dX8_bookNow_76
      · refine s_aload_n K dX8_bookNow_27 rfl 0 rfl ?_
        refine s_iconst K dX8_bookNow_28 kic_4 ?_
        refine s_iload K dX8_bookNow_29 4 rfl ?_
        refine s_iload_n K dX8_bookNow_31 rfl 1 rfl ?_
        refine s_bind (fun q hq_20 => ?_)
        obtain ⟨r_15, m_depthOf_16, m_sizeOf_17, m_placeOf_18, m_sticksOf_19⟩ := q
        refine s_callV (w' := (wM cI cC cB cQ kc mh q_depthOf q_kindOf q_sizeOf q_placeOf q_onOf q_sticksOf q_page q_savedDepth q_gameSize q_gamePlace q_gameSticks q_gameDepth q_keptDepth q_keptSize q_keptPlace q_keptOn q_keptSticks m_isLawn m_lawns m_wetness m_strength m_days m_balls m_asks m_books m_pageLength m_faultAt m_savedSize m_savedPlace m_savedSticks m_bestSize m_bestFirst m_seedNow m_isKept m_keptLawn m_keptBalls m_keptStrength m_keptDays m_h m_depthOf_16 m_kindOf m_sizeOf_17 m_placeOf_18 m_onOf m_sticksOf_19 m_page m_savedDepth m_gameSize m_gamePlace m_gameSticks m_gameDepth m_keptDepth m_keptSize m_keptPlace m_keptOn m_keptSticks)) (rest := []) (st1 := [.int r_15]) K (c_X8_rollsBy mh q_depthOf q_kindOf q_sizeOf q_placeOf q_onOf q_sticksOf q_page q_savedDepth q_gameSize q_gamePlace q_gameSticks q_gameDepth q_keptDepth q_keptSize q_keptPlace q_keptOn q_keptSticks m_isLawn m_lawns m_wetness m_strength m_days m_balls m_asks m_books m_pageLength m_faultAt m_savedSize m_savedPlace m_savedSticks m_bestSize m_bestFirst m_seedNow m_isKept m_keptLawn m_keptBalls m_keptStrength m_keptDays m_h m_depthOf m_kindOf m_sizeOf m_placeOf m_onOf m_sticksOf m_page m_savedDepth m_gameSize m_gamePlace m_gameSticks m_gameDepth m_keptDepth m_keptSize m_keptPlace m_keptOn m_keptSticks 4 x6 a3 hq_20) rfl hd_X8_rollsBy t_821 t_823 ts_26 t_10 t_824 ⟨(Nat.le_of_ble_eq_true rfl), (Nat.le_of_ble_eq_true rfl)⟩ ⟨rfl, rfl⟩ ⟨Nat.zero_le _, Nat.zero_le _⟩ (rv_o K 0 rfl rfl) [0, 1, 2, 3, 4, 5, 6, 7, 8, 9, 10, 11, 12, 13, 14, 15, 16, 17] [] [0, 1, 2, 3, 4, 5, 6, 7, 8, 9, 10, 11, 12, 13, 14, 15, 16, 17] rfl rfl rfl rfl (by decide) rfl rfl rfl rfl (Nat.le_of_ble_eq_true rfl) dX8_bookNow_32 ?_
        refine s_istore (lv' := [(7, .int r_15), (0, .ref mh), (3, .int a3), (4, .int a4), (5, .int x5), (6, .int x6)]) K dX8_bookNow_35 (Nat.le_of_ble_eq_true rfl) rfl ?_
        refine s_iload K dX8_bookNow_37 4 rfl ?_
        refine s_iload K dX8_bookNow_39 0 rfl ?_
        refine s_if_eq (tgt := 59) K dX8_bookNow_41 (by decide) (fun c_21 => ?_) (fun c_21 => ?_)
        · refine s_iconst K dX8_bookNow_59 kic_0 ?_
          refine s_iadd K dX8_bookNow_60 ?_
          refine s_istore (lv' := [(5, .int (x5 + 0)), (7, .int r_15), (0, .ref mh), (3, .int a3), (4, .int a4), (6, .int x6)]) K dX8_bookNow_61 (Nat.le_of_ble_eq_true rfl) rfl ?_
          refine s_aload_n K dX8_bookNow_63 rfl 2 rfl ?_
          refine s_iconst K dX8_bookNow_64 kic_4 ?_
          refine s_bind (fun q hq_26 => ?_)
          obtain ⟨m_depthOf_22, m_sizeOf_23, m_placeOf_24, m_sticksOf_25⟩ := q
          refine s_callV (w' := (wM cI cC cB cQ kc mh q_depthOf q_kindOf q_sizeOf q_placeOf q_onOf q_sticksOf q_page q_savedDepth q_gameSize q_gamePlace q_gameSticks q_gameDepth q_keptDepth q_keptSize q_keptPlace q_keptOn q_keptSticks m_isLawn m_lawns m_wetness m_strength m_days m_balls m_asks m_books m_pageLength m_faultAt m_savedSize m_savedPlace m_savedSticks m_bestSize m_bestFirst m_seedNow m_isKept m_keptLawn m_keptBalls m_keptStrength m_keptDays m_h m_depthOf_22 m_kindOf m_sizeOf_23 m_placeOf_24 m_onOf m_sticksOf_25 m_page m_savedDepth m_gameSize m_gamePlace m_gameSticks m_gameDepth m_keptDepth m_keptSize m_keptPlace m_keptOn m_keptSticks)) (rest := []) (st1 := []) K (c_X8_back mh q_depthOf q_kindOf q_sizeOf q_placeOf q_onOf q_sticksOf q_page q_savedDepth q_gameSize q_gamePlace q_gameSticks q_gameDepth q_keptDepth q_keptSize q_keptPlace q_keptOn q_keptSticks m_isLawn m_lawns m_wetness m_strength m_days m_balls m_asks m_books m_pageLength m_faultAt m_savedSize m_savedPlace m_savedSticks m_bestSize m_bestFirst m_seedNow m_isKept m_keptLawn m_keptBalls m_keptStrength m_keptDays m_h m_depthOf_16 m_kindOf m_sizeOf_17 m_placeOf_18 m_onOf m_sticksOf_19 m_page m_savedDepth m_gameSize m_gamePlace m_gameSticks m_gameDepth m_keptDepth m_keptSize m_keptPlace m_keptOn m_keptSticks 4 hq_26) rfl hd_X8_back t_825 t_827 ts_27 t_10 t_828 ⟨(Nat.le_of_ble_eq_true rfl), (Nat.le_of_ble_eq_true rfl)⟩ ⟨rfl, rfl⟩ ⟨Nat.zero_le _, Nat.zero_le _⟩ (rv_o K 0 rfl rfl) [0, 1, 2, 3, 4, 5, 6, 7, 8, 9, 10, 11, 12, 13, 14, 15, 16, 17] [] [0, 1, 2, 3, 4, 5, 6, 7, 8, 9, 10, 11, 12, 13, 14, 15, 16, 17] rfl rfl rfl rfl (by decide) rfl rfl rfl rfl (Nat.le_of_ble_eq_true rfl) dX8_bookNow_65 ?_
          refine s_iinc (lv' := [(6, .int (x6 + 1)), (5, .int (x5 + 0)), (7, .int r_15), (0, .ref mh), (3, .int a3), (4, .int a4)]) K dX8_bookNow_68 5 rfl (kii_1 _) (Nat.le_of_ble_eq_true rfl) rfl ?_
          refine s_goto (tgt := 18) K dX8_bookNow_71 (by decide) ?_
          refine s_lv (lv' := [(0, .ref mh), (3, .int a3), (4, .int a4), (5, .int (x5 + 0)), (6, .int (x6 + 1))]) [3, 4, 5, 1, 0] rfl ?_
          exact ih m_savedSize m_savedPlace m_savedSticks m_depthOf_22 m_kindOf m_sizeOf_23 m_placeOf_24 m_onOf m_sticksOf_25 m_savedDepth (x5 + 0) (x6 + 1)
        · refine s_aload_n K dX8_bookNow_44 rfl 1 rfl ?_
          refine s_get K 0 rfl rfl inT8 8 (Nat.le_of_ble_eq_true rfl) t_561 rfl rfl dX8_bookNow_45 ?_
          refine s_iconst K dX8_bookNow_48 kic_4 ?_
          refine s_iald K 3 0 rfl rfl kin_4_5 kcl_4 dX8_bookNow_49 ?_
          refine s_iload K dX8_bookNow_50 3 rfl ?_
          refine s_icmp_ne (tgt := 59) K dX8_bookNow_52 (by decide) (fun c_27 => ?_) (fun c_27 => ?_)
          · refine s_iconst K dX8_bookNow_55 kic_1 ?_
            refine s_goto (tgt := 60) K dX8_bookNow_56 (by decide) ?_
            refine s_iadd K dX8_bookNow_60 ?_
            refine s_istore (lv' := [(5, .int (x5 + 1)), (7, .int r_15), (0, .ref mh), (3, .int a3), (4, .int a4), (6, .int x6)]) K dX8_bookNow_61 (Nat.le_of_ble_eq_true rfl) rfl ?_
            refine s_aload_n K dX8_bookNow_63 rfl 2 rfl ?_
            refine s_iconst K dX8_bookNow_64 kic_4 ?_
            refine s_bind (fun q hq_32 => ?_)
            obtain ⟨m_depthOf_28, m_sizeOf_29, m_placeOf_30, m_sticksOf_31⟩ := q
            refine s_callV (w' := (wM cI cC cB cQ kc mh q_depthOf q_kindOf q_sizeOf q_placeOf q_onOf q_sticksOf q_page q_savedDepth q_gameSize q_gamePlace q_gameSticks q_gameDepth q_keptDepth q_keptSize q_keptPlace q_keptOn q_keptSticks m_isLawn m_lawns m_wetness m_strength m_days m_balls m_asks m_books m_pageLength m_faultAt m_savedSize m_savedPlace m_savedSticks m_bestSize m_bestFirst m_seedNow m_isKept m_keptLawn m_keptBalls m_keptStrength m_keptDays m_h m_depthOf_28 m_kindOf m_sizeOf_29 m_placeOf_30 m_onOf m_sticksOf_31 m_page m_savedDepth m_gameSize m_gamePlace m_gameSticks m_gameDepth m_keptDepth m_keptSize m_keptPlace m_keptOn m_keptSticks)) (rest := []) (st1 := []) K (c_X8_back mh q_depthOf q_kindOf q_sizeOf q_placeOf q_onOf q_sticksOf q_page q_savedDepth q_gameSize q_gamePlace q_gameSticks q_gameDepth q_keptDepth q_keptSize q_keptPlace q_keptOn q_keptSticks m_isLawn m_lawns m_wetness m_strength m_days m_balls m_asks m_books m_pageLength m_faultAt m_savedSize m_savedPlace m_savedSticks m_bestSize m_bestFirst m_seedNow m_isKept m_keptLawn m_keptBalls m_keptStrength m_keptDays m_h m_depthOf_16 m_kindOf m_sizeOf_17 m_placeOf_18 m_onOf m_sticksOf_19 m_page m_savedDepth m_gameSize m_gamePlace m_gameSticks m_gameDepth m_keptDepth m_keptSize m_keptPlace m_keptOn m_keptSticks 4 hq_32) rfl hd_X8_back t_825 t_827 ts_27 t_10 t_828 ⟨(Nat.le_of_ble_eq_true rfl), (Nat.le_of_ble_eq_true rfl)⟩ ⟨rfl, rfl⟩ ⟨Nat.zero_le _, Nat.zero_le _⟩ (rv_o K 0 rfl rfl) [0, 1, 2, 3, 4, 5, 6, 7, 8, 9, 10, 11, 12, 13, 14, 15, 16, 17] [] [0, 1, 2, 3, 4, 5, 6, 7, 8, 9, 10, 11, 12, 13, 14, 15, 16, 17] rfl rfl rfl rfl (by decide) rfl rfl rfl rfl (Nat.le_of_ble_eq_true rfl) dX8_bookNow_65 ?_
            refine s_iinc (lv' := [(6, .int (x6 + 1)), (5, .int (x5 + 1)), (7, .int r_15), (0, .ref mh), (3, .int a3), (4, .int a4)]) K dX8_bookNow_68 5 rfl (kii_1 _) (Nat.le_of_ble_eq_true rfl) rfl ?_
            refine s_goto (tgt := 18) K dX8_bookNow_71 (by decide) ?_
            refine s_lv (lv' := [(0, .ref mh), (3, .int a3), (4, .int a4), (5, .int (x5 + 1)), (6, .int (x6 + 1))]) [3, 4, 5, 1, 0] rfl ?_
            exact ih m_savedSize m_savedPlace m_savedSticks m_depthOf_28 m_kindOf m_sizeOf_29 m_placeOf_30 m_onOf m_sticksOf_31 m_savedDepth (x5 + 1) (x6 + 1)
          · refine s_iconst K dX8_bookNow_59 kic_0 ?_
            refine s_iadd K dX8_bookNow_60 ?_
            refine s_istore (lv' := [(5, .int (x5 + 0)), (7, .int r_15), (0, .ref mh), (3, .int a3), (4, .int a4), (6, .int x6)]) K dX8_bookNow_61 (Nat.le_of_ble_eq_true rfl) rfl ?_
            refine s_aload_n K dX8_bookNow_63 rfl 2 rfl ?_
            refine s_iconst K dX8_bookNow_64 kic_4 ?_
            refine s_bind (fun q hq_37 => ?_)
            obtain ⟨m_depthOf_33, m_sizeOf_34, m_placeOf_35, m_sticksOf_36⟩ := q
            refine s_callV (w' := (wM cI cC cB cQ kc mh q_depthOf q_kindOf q_sizeOf q_placeOf q_onOf q_sticksOf q_page q_savedDepth q_gameSize q_gamePlace q_gameSticks q_gameDepth q_keptDepth q_keptSize q_keptPlace q_keptOn q_keptSticks m_isLawn m_lawns m_wetness m_strength m_days m_balls m_asks m_books m_pageLength m_faultAt m_savedSize m_savedPlace m_savedSticks m_bestSize m_bestFirst m_seedNow m_isKept m_keptLawn m_keptBalls m_keptStrength m_keptDays m_h m_depthOf_33 m_kindOf m_sizeOf_34 m_placeOf_35 m_onOf m_sticksOf_36 m_page m_savedDepth m_gameSize m_gamePlace m_gameSticks m_gameDepth m_keptDepth m_keptSize m_keptPlace m_keptOn m_keptSticks)) (rest := []) (st1 := []) K (c_X8_back mh q_depthOf q_kindOf q_sizeOf q_placeOf q_onOf q_sticksOf q_page q_savedDepth q_gameSize q_gamePlace q_gameSticks q_gameDepth q_keptDepth q_keptSize q_keptPlace q_keptOn q_keptSticks m_isLawn m_lawns m_wetness m_strength m_days m_balls m_asks m_books m_pageLength m_faultAt m_savedSize m_savedPlace m_savedSticks m_bestSize m_bestFirst m_seedNow m_isKept m_keptLawn m_keptBalls m_keptStrength m_keptDays m_h m_depthOf_16 m_kindOf m_sizeOf_17 m_placeOf_18 m_onOf m_sticksOf_19 m_page m_savedDepth m_gameSize m_gamePlace m_gameSticks m_gameDepth m_keptDepth m_keptSize m_keptPlace m_keptOn m_keptSticks 4 hq_37) rfl hd_X8_back t_825 t_827 ts_27 t_10 t_828 ⟨(Nat.le_of_ble_eq_true rfl), (Nat.le_of_ble_eq_true rfl)⟩ ⟨rfl, rfl⟩ ⟨Nat.zero_le _, Nat.zero_le _⟩ (rv_o K 0 rfl rfl) [0, 1, 2, 3, 4, 5, 6, 7, 8, 9, 10, 11, 12, 13, 14, 15, 16, 17] [] [0, 1, 2, 3, 4, 5, 6, 7, 8, 9, 10, 11, 12, 13, 14, 15, 16, 17] rfl rfl rfl rfl (by decide) rfl rfl rfl rfl (Nat.le_of_ble_eq_true rfl) dX8_bookNow_65 ?_
            refine s_iinc (lv' := [(6, .int (x6 + 1)), (5, .int (x5 + 0)), (7, .int r_15), (0, .ref mh), (3, .int a3), (4, .int a4)]) K dX8_bookNow_68 5 rfl (kii_1 _) (Nat.le_of_ble_eq_true rfl) rfl ?_
            refine s_goto (tgt := 18) K dX8_bookNow_71 (by decide) ?_
            refine s_lv (lv' := [(0, .ref mh), (3, .int a3), (4, .int a4), (5, .int (x5 + 0)), (6, .int (x6 + 1))]) [3, 4, 5, 1, 0] rfl ?_
            exact ih m_savedSize m_savedPlace m_savedSticks m_depthOf_33 m_kindOf m_sizeOf_34 m_placeOf_35 m_onOf m_sticksOf_36 m_savedDepth (x5 + 0) (x6 + 1)
  rewrite [f_X8_bookNow]
  refine s_iconst K dX8_bookNow_0 kic_0 ?_
  refine s_istore (lv' := [(5, .int 0), (0, .ref mh), (1, .int a1), (2, .int a2), (3, .int a3), (4, .int a4)]) K dX8_bookNow_1 (Nat.le_of_ble_eq_true rfl) rfl ?_
  refine s_aload_n K dX8_bookNow_3 rfl 1 rfl ?_
  refine s_iconst K dX8_bookNow_4 kic_4 ?_
  refine s_iload_n K dX8_bookNow_5 rfl 2 rfl ?_
  refine s_iload_n K dX8_bookNow_6 rfl 3 rfl ?_
  refine s_bind (fun q hq_6 => ?_)
  obtain ⟨m_kindOf_1, m_sizeOf_2, m_placeOf_3, m_onOf_4, m_sticksOf_5⟩ := q
  refine s_callV (w' := (wM cI cC cB cQ kc mh q_depthOf q_kindOf q_sizeOf q_placeOf q_onOf q_sticksOf q_page q_savedDepth q_gameSize q_gamePlace q_gameSticks q_gameDepth q_keptDepth q_keptSize q_keptPlace q_keptOn q_keptSticks m_isLawn m_lawns m_wetness m_strength m_days m_balls m_asks m_books m_pageLength m_faultAt m_savedSize m_savedPlace m_savedSticks m_bestSize m_bestFirst m_seedNow m_isKept m_keptLawn m_keptBalls m_keptStrength m_keptDays m_h m_depthOf m_kindOf_1 m_sizeOf_2 m_placeOf_3 m_onOf_4 m_sticksOf_5 m_page m_savedDepth m_gameSize m_gamePlace m_gameSticks m_gameDepth m_keptDepth m_keptSize m_keptPlace m_keptOn m_keptSticks)) (rest := []) (st1 := []) K (c_X8_lay mh q_depthOf q_kindOf q_sizeOf q_placeOf q_onOf q_sticksOf q_page q_savedDepth q_gameSize q_gamePlace q_gameSticks q_gameDepth q_keptDepth q_keptSize q_keptPlace q_keptOn q_keptSticks m_isLawn m_lawns m_wetness m_strength m_days m_balls m_asks m_books m_pageLength m_faultAt m_savedSize m_savedPlace m_savedSticks m_bestSize m_bestFirst m_seedNow m_isKept m_keptLawn m_keptBalls m_keptStrength m_keptDays m_h m_depthOf m_kindOf m_sizeOf m_placeOf m_onOf m_sticksOf m_page m_savedDepth m_gameSize m_gamePlace m_gameSticks m_gameDepth m_keptDepth m_keptSize m_keptPlace m_keptOn m_keptSticks 4 a1 a2 hq_6) rfl hd_X8_lay t_725 t_727 ts_12 t_10 t_728 ⟨(Nat.le_of_ble_eq_true rfl), (Nat.le_of_ble_eq_true rfl)⟩ ⟨rfl, rfl⟩ ⟨Nat.zero_le _, Nat.zero_le _⟩ (rv_o K 0 rfl rfl) [0, 1, 2, 3, 4, 5, 6, 7, 8, 9, 10, 11, 12, 13, 14, 15, 16, 17] [] [0, 1, 2, 3, 4, 5, 6, 7, 8, 9, 10, 11, 12, 13, 14, 15, 16, 17] rfl rfl rfl rfl (by decide) rfl rfl rfl rfl (Nat.le_of_ble_eq_true rfl) dX8_bookNow_7 ?_
  refine s_aload_n K dX8_bookNow_10 rfl 1 rfl ?_
  refine s_iconst K dX8_bookNow_11 kic_4 ?_
  refine s_bind (fun q hq_11 => ?_)
  obtain ⟨m_savedSize_7, m_savedPlace_8, m_savedSticks_9, m_savedDepth_10⟩ := q
  refine s_callV (w' := (wM cI cC cB cQ kc mh q_depthOf q_kindOf q_sizeOf q_placeOf q_onOf q_sticksOf q_page q_savedDepth q_gameSize q_gamePlace q_gameSticks q_gameDepth q_keptDepth q_keptSize q_keptPlace q_keptOn q_keptSticks m_isLawn m_lawns m_wetness m_strength m_days m_balls m_asks m_books m_pageLength m_faultAt m_savedSize_7 m_savedPlace_8 m_savedSticks_9 m_bestSize m_bestFirst m_seedNow m_isKept m_keptLawn m_keptBalls m_keptStrength m_keptDays m_h m_depthOf m_kindOf_1 m_sizeOf_2 m_placeOf_3 m_onOf_4 m_sticksOf_5 m_page m_savedDepth_10 m_gameSize m_gamePlace m_gameSticks m_gameDepth m_keptDepth m_keptSize m_keptPlace m_keptOn m_keptSticks)) (rest := []) (st1 := []) K (c_X8_save mh q_depthOf q_kindOf q_sizeOf q_placeOf q_onOf q_sticksOf q_page q_savedDepth q_gameSize q_gamePlace q_gameSticks q_gameDepth q_keptDepth q_keptSize q_keptPlace q_keptOn q_keptSticks m_isLawn m_lawns m_wetness m_strength m_days m_balls m_asks m_books m_pageLength m_faultAt m_savedSize m_savedPlace m_savedSticks m_bestSize m_bestFirst m_seedNow m_isKept m_keptLawn m_keptBalls m_keptStrength m_keptDays m_h m_depthOf m_kindOf_1 m_sizeOf_2 m_placeOf_3 m_onOf_4 m_sticksOf_5 m_page m_savedDepth m_gameSize m_gamePlace m_gameSticks m_gameDepth m_keptDepth m_keptSize m_keptPlace m_keptOn m_keptSticks 4 hq_11) rfl hd_X8_save t_814 t_816 ts_25 t_10 t_817 ⟨(Nat.le_of_ble_eq_true rfl), (Nat.le_of_ble_eq_true rfl)⟩ ⟨rfl, rfl⟩ ⟨Nat.zero_le _, Nat.zero_le _⟩ (rv_o K 0 rfl rfl) [0, 1, 2, 3, 4, 5, 6, 7, 8, 9, 10, 11, 12, 13, 14, 15, 16, 17] [] [0, 1, 2, 3, 4, 5, 6, 7, 8, 9, 10, 11, 12, 13, 14, 15, 16, 17] rfl rfl rfl rfl (by decide) rfl rfl rfl rfl (Nat.le_of_ble_eq_true rfl) dX8_bookNow_12 ?_
  refine s_iconst K dX8_bookNow_15 kic_0 ?_
  refine s_istore (lv' := [(6, .int 0), (5, .int 0), (0, .ref mh), (1, .int a1), (2, .int a2), (3, .int a3), (4, .int a4)]) K dX8_bookNow_16 (Nat.le_of_ble_eq_true rfl) rfl ?_
  refine s_lv (lv' := [(0, .ref mh), (3, .int a3), (4, .int a4), (5, .int 0), (6, .int 0)]) [2, 5, 6, 1, 0] rfl ?_
  exact L18 1100 m_savedSize_7 m_savedPlace_8 m_savedSticks_9 m_depthOf m_kindOf_1 m_sizeOf_2 m_placeOf_3 m_onOf_4 m_sticksOf_5 m_savedDepth_10 0 0
set_option maxHeartbeats 4000000 in
set_option maxRecDepth 100000 in
theorem c_X8_book {l : Launch} {D : va_G} {cI cC cB cQ : ClassId} {kc : Nat → Nat} {kt : Nat} (mh q_depthOf q_kindOf q_sizeOf q_placeOf q_onOf q_sticksOf q_page q_savedDepth q_gameSize q_gamePlace q_gameSticks q_gameDepth q_keptDepth q_keptSize q_keptPlace q_keptOn q_keptSticks : Nat) (m_isLawn m_lawns m_wetness m_strength m_days m_balls m_asks m_books m_pageLength m_faultAt m_savedSize m_savedPlace m_savedSticks m_bestSize m_bestFirst : Int32) (m_seedNow : Int64) (m_isKept m_keptLawn m_keptBalls m_keptStrength m_keptDays : Int32) (m_h : Int64) (m_depthOf m_kindOf m_sizeOf m_placeOf m_onOf m_sticksOf m_page m_savedDepth m_gameSize m_gamePlace m_gameSticks m_gameDepth m_keptDepth m_keptSize m_keptPlace m_keptOn m_keptSticks : Nat → Int32) (a1 a2 a3 a4 : Int32) {r : Int32 × Int32 × Int32 × Int32 × Int32 × (Nat → Int32) × (Nat → Int32) × (Nat → Int32) × (Nat → Int32) × (Nat → Int32) × (Nat → Int32) × (Nat → Int32)} (hF : f_X8_book m_isLawn m_wetness m_strength m_balls m_books m_savedSize m_savedPlace m_savedSticks m_depthOf m_kindOf m_sizeOf m_placeOf m_onOf m_sticksOf m_savedDepth a1 a2 a3 a4 = some r) : CT l D (tysOf cI cC cB cQ) kc kt yX8_book cX8_book 5 (some .int) ({ frames := 6, cells := 0, slots := 0, locals := 362 } : Room) [.ref mh, .int a1, .int a2, .int a3, .int a4] (wM cI cC cB cQ kc mh q_depthOf q_kindOf q_sizeOf q_placeOf q_onOf q_sticksOf q_page q_savedDepth q_gameSize q_gamePlace q_gameSticks q_gameDepth q_keptDepth q_keptSize q_keptPlace q_keptOn q_keptSticks m_isLawn m_lawns m_wetness m_strength m_days m_balls m_asks m_books m_pageLength m_faultAt m_savedSize m_savedPlace m_savedSticks m_bestSize m_bestFirst m_seedNow m_isKept m_keptLawn m_keptBalls m_keptStrength m_keptDays m_h m_depthOf m_kindOf m_sizeOf m_placeOf m_onOf m_sticksOf m_page m_savedDepth m_gameSize m_gamePlace m_gameSticks m_gameDepth m_keptDepth m_keptSize m_keptPlace m_keptOn m_keptSticks) ((fun (r : Int32 × Int32 × Int32 × Int32 × Int32 × (Nat → Int32) × (Nat → Int32) × (Nat → Int32) × (Nat → Int32) × (Nat → Int32) × (Nat → Int32) × (Nat → Int32)) => (wM cI cC cB cQ kc mh q_depthOf q_kindOf q_sizeOf q_placeOf q_onOf q_sticksOf q_page q_savedDepth q_gameSize q_gamePlace q_gameSticks q_gameDepth q_keptDepth q_keptSize q_keptPlace q_keptOn q_keptSticks m_isLawn m_lawns m_wetness m_strength m_days m_balls m_asks (r.2.1) m_pageLength m_faultAt (r.2.2.1) (r.2.2.2.1) (r.2.2.2.2.1) m_bestSize m_bestFirst m_seedNow m_isKept m_keptLawn m_keptBalls m_keptStrength m_keptDays m_h (r.2.2.2.2.2.1) (r.2.2.2.2.2.2.1) (r.2.2.2.2.2.2.2.1) (r.2.2.2.2.2.2.2.2.1) (r.2.2.2.2.2.2.2.2.2.1) (r.2.2.2.2.2.2.2.2.2.2.1) m_page (r.2.2.2.2.2.2.2.2.2.2.2) m_gameSize m_gamePlace m_gameSticks m_gameDepth m_keptDepth m_keptSize m_keptPlace m_keptOn m_keptSticks)) r) ((fun (r : Int32 × Int32 × Int32 × Int32 × Int32 × (Nat → Int32) × (Nat → Int32) × (Nat → Int32) × (Nat → Int32) × (Nat → Int32) × (Nat → Int32) × (Nat → Int32)) => some (.int (r.1))) r) := by
  refine CT.of (ww := (fun (r : Int32 × Int32 × Int32 × Int32 × Int32 × (Nat → Int32) × (Nat → Int32) × (Nat → Int32) × (Nat → Int32) × (Nat → Int32) × (Nat → Int32) × (Nat → Int32)) => (wM cI cC cB cQ kc mh q_depthOf q_kindOf q_sizeOf q_placeOf q_onOf q_sticksOf q_page q_savedDepth q_gameSize q_gamePlace q_gameSticks q_gameDepth q_keptDepth q_keptSize q_keptPlace q_keptOn q_keptSticks m_isLawn m_lawns m_wetness m_strength m_days m_balls m_asks (r.2.1) m_pageLength m_faultAt (r.2.2.1) (r.2.2.2.1) (r.2.2.2.2.1) m_bestSize m_bestFirst m_seedNow m_isKept m_keptLawn m_keptBalls m_keptStrength m_keptDays m_h (r.2.2.2.2.2.1) (r.2.2.2.2.2.2.1) (r.2.2.2.2.2.2.2.1) (r.2.2.2.2.2.2.2.2.1) (r.2.2.2.2.2.2.2.2.2.1) (r.2.2.2.2.2.2.2.2.2.2.1) m_page (r.2.2.2.2.2.2.2.2.2.2.2) m_gameSize m_gamePlace m_gameSticks m_gameDepth m_keptDepth m_keptSize m_keptPlace m_keptOn m_keptSticks))) (oo := (fun (r : Int32 × Int32 × Int32 × Int32 × Int32 × (Nat → Int32) × (Nat → Int32) × (Nat → Int32) × (Nat → Int32) × (Nat → Int32) × (Nat → Int32) × (Nat → Int32)) => some (.int (r.1)))) hF RX8 rfl rfl (Nat.le_of_ble_eq_true rfl) ?_
  intro p e s m args below meth c A K hret hlk
  rewrite [f_X8_book]
  refine s_iload_n K dX8_book_0 rfl 1 rfl ?_
  refine s_iconst K dX8_book_1 kic_0 ?_
  refine s_iconst K dX8_book_2 kic_4 ?_
  refine s_bind (fun q hq_2 => ?_)
  obtain ⟨r_1, rfl⟩ : ∃ z, z = q := ⟨_, rfl⟩
  refine s_callS0 (rest := []) (st1 := [.int r_1]) K (c_X8_within a1 0 4 hq_2) hd_X8_within t_676 t_677 t_10 t_678 ⟨(Nat.le_of_ble_eq_true rfl), (Nat.le_of_ble_eq_true rfl)⟩ ⟨rfl, rfl⟩ ⟨Nat.zero_le _, Nat.zero_le _⟩ rfl rfl (Nat.le_of_ble_eq_true rfl) dX8_book_3 ?_
  refine s_if_ne (tgt := 12) K dX8_book_6 (by decide) (fun c_3 => ?_) (fun c_3 => ?_)
  · refine s_bipush K dX8_book_9 kib_m102 ?_
    exact s_iret K hret hlk rfl rfl dX8_book_11
  · refine s_iload_n K dX8_book_12 rfl 2 rfl ?_
    refine s_bind (fun q hq_5 => ?_)
    obtain ⟨r_4, rfl⟩ : ∃ z, z = q := ⟨_, rfl⟩
    refine s_callS0 (rest := []) (st1 := [.int r_4]) K (c_X8_isPlace a2 hq_5) hd_X8_isPlace t_703 t_704 t_10 t_705 ⟨(Nat.le_of_ble_eq_true rfl), (Nat.le_of_ble_eq_true rfl)⟩ ⟨rfl, rfl⟩ ⟨Nat.zero_le _, Nat.zero_le _⟩ rfl rfl (Nat.le_of_ble_eq_true rfl) dX8_book_13 ?_
    refine s_if_ne (tgt := 22) K dX8_book_16 (by decide) (fun c_6 => ?_) (fun c_6 => ?_)
    · refine s_bipush K dX8_book_19 kib_m101 ?_
      exact s_iret K hret hlk rfl rfl dX8_book_21
    · refine s_iload_n K dX8_book_22 rfl 3 rfl ?_
      refine s_iconst K dX8_book_23 kic_0 ?_
      refine s_iconst K dX8_book_24 kic_5 ?_
      refine s_bind (fun q hq_8 => ?_)
      obtain ⟨r_7, rfl⟩ : ∃ z, z = q := ⟨_, rfl⟩
      refine s_callS0 (rest := []) (st1 := [.int r_7]) K (c_X8_within a3 0 5 hq_8) hd_X8_within t_676 t_677 t_10 t_678 ⟨(Nat.le_of_ble_eq_true rfl), (Nat.le_of_ble_eq_true rfl)⟩ ⟨rfl, rfl⟩ ⟨Nat.zero_le _, Nat.zero_le _⟩ rfl rfl (Nat.le_of_ble_eq_true rfl) dX8_book_25 ?_
      refine s_if_eq (tgt := 42) K dX8_book_28 (by decide) (fun c_9 => ?_) (fun c_9 => ?_)
      · refine s_bipush K dX8_book_42 kib_m102 ?_
        exact s_iret K hret hlk rfl rfl dX8_book_44
      · refine s_iload K dX8_book_31 4 rfl ?_
        refine s_iconst K dX8_book_33 kic_0 ?_
        refine s_bipush K dX8_book_34 kib_99 ?_
        refine s_bind (fun q hq_11 => ?_)
        obtain ⟨r_10, rfl⟩ : ∃ z, z = q := ⟨_, rfl⟩
        refine s_callS0 (rest := []) (st1 := [.int r_10]) K (c_X8_within a4 0 99 hq_11) hd_X8_within t_676 t_677 t_10 t_678 ⟨(Nat.le_of_ble_eq_true rfl), (Nat.le_of_ble_eq_true rfl)⟩ ⟨rfl, rfl⟩ ⟨Nat.zero_le _, Nat.zero_le _⟩ rfl rfl (Nat.le_of_ble_eq_true rfl) dX8_book_36 ?_
        refine s_if_ne (tgt := 45) K dX8_book_39 (by decide) (fun c_12 => ?_) (fun c_12 => ?_)
        · refine s_bipush K dX8_book_42 kib_m102 ?_
          exact s_iret K hret hlk rfl rfl dX8_book_44
        · refine s_aload_n K dX8_book_45 rfl 0 rfl ?_
          refine s_get K 0 rfl rfl inT8 0 (Nat.le_of_ble_eq_true rfl) t_553 rfl rfl dX8_book_46 ?_
          refine s_if_eq (tgt := 61) K dX8_book_49 (by decide) (fun c_13 => ?_) (fun c_13 => ?_)
          · refine s_bipush K dX8_book_61 kib_m103 ?_
            exact s_iret K hret hlk rfl rfl dX8_book_63
          · refine s_aload_n K dX8_book_52 rfl 0 rfl ?_
            refine s_get K 0 rfl rfl inT8 13 (Nat.le_of_ble_eq_true rfl) t_566 rfl rfl dX8_book_53 ?_
            refine s_bipush K dX8_book_56 kib_60 ?_
            refine s_icmp_ne (tgt := 64) K dX8_book_58 (by decide) (fun c_14 => ?_) (fun c_14 => ?_)
            · refine s_bipush K dX8_book_61 kib_m103 ?_
              exact s_iret K hret hlk rfl rfl dX8_book_63
            · refine s_aload_n K dX8_book_64 rfl 0 rfl ?_
              refine s_dup K dX8_book_65 rfl ?_
              refine s_get K 0 rfl rfl inT8 13 (Nat.le_of_ble_eq_true rfl) t_566 rfl rfl dX8_book_66 ?_
              refine s_iconst K dX8_book_69 kic_1 ?_
              refine s_iadd K dX8_book_70 ?_
              refine s_put (w' := (wM cI cC cB cQ kc mh q_depthOf q_kindOf q_sizeOf q_placeOf q_onOf q_sticksOf q_page q_savedDepth q_gameSize q_gamePlace q_gameSticks q_gameDepth q_keptDepth q_keptSize q_keptPlace q_keptOn q_keptSticks m_isLawn m_lawns m_wetness m_strength m_days m_balls m_asks (m_books + 1) m_pageLength m_faultAt m_savedSize m_savedPlace m_savedSticks m_bestSize m_bestFirst m_seedNow m_isKept m_keptLawn m_keptBalls m_keptStrength m_keptDays m_h m_depthOf m_kindOf m_sizeOf m_placeOf m_onOf m_sticksOf m_page m_savedDepth m_gameSize m_gamePlace m_gameSticks m_gameDepth m_keptDepth m_keptSize m_keptPlace m_keptOn m_keptSticks)) K 0 rfl rfl inT8 tyX8_ok nmX8 13 (Nat.le_of_ble_eq_true rfl) t_566 rfl rfl rfl rfl (Nat.le_of_ble_eq_true rfl) rfl dX8_book_71 ?_
              refine s_aload_n K dX8_book_74 rfl 0 rfl ?_
              refine s_iload_n K dX8_book_75 rfl 1 rfl ?_
              refine s_iload_n K dX8_book_76 rfl 2 rfl ?_
              refine s_iload_n K dX8_book_77 rfl 3 rfl ?_
              refine s_iload K dX8_book_78 4 rfl ?_
              refine s_bind (fun q hq_26 => ?_)
              obtain ⟨r_15, m_savedSize_16, m_savedPlace_17, m_savedSticks_18, m_depthOf_19, m_kindOf_20, m_sizeOf_21, m_placeOf_22, m_onOf_23, m_sticksOf_24, m_savedDepth_25⟩ := q
              refine s_callV (w' := (wM cI cC cB cQ kc mh q_depthOf q_kindOf q_sizeOf q_placeOf q_onOf q_sticksOf q_page q_savedDepth q_gameSize q_gamePlace q_gameSticks q_gameDepth q_keptDepth q_keptSize q_keptPlace q_keptOn q_keptSticks m_isLawn m_lawns m_wetness m_strength m_days m_balls m_asks (m_books + 1) m_pageLength m_faultAt m_savedSize_16 m_savedPlace_17 m_savedSticks_18 m_bestSize m_bestFirst m_seedNow m_isKept m_keptLawn m_keptBalls m_keptStrength m_keptDays m_h m_depthOf_19 m_kindOf_20 m_sizeOf_21 m_placeOf_22 m_onOf_23 m_sticksOf_24 m_page m_savedDepth_25 m_gameSize m_gamePlace m_gameSticks m_gameDepth m_keptDepth m_keptSize m_keptPlace m_keptOn m_keptSticks)) (rest := []) (st1 := [.int r_15]) K (c_X8_bookNow mh q_depthOf q_kindOf q_sizeOf q_placeOf q_onOf q_sticksOf q_page q_savedDepth q_gameSize q_gamePlace q_gameSticks q_gameDepth q_keptDepth q_keptSize q_keptPlace q_keptOn q_keptSticks m_isLawn m_lawns m_wetness m_strength m_days m_balls m_asks (m_books + 1) m_pageLength m_faultAt m_savedSize m_savedPlace m_savedSticks m_bestSize m_bestFirst m_seedNow m_isKept m_keptLawn m_keptBalls m_keptStrength m_keptDays m_h m_depthOf m_kindOf m_sizeOf m_placeOf m_onOf m_sticksOf m_page m_savedDepth m_gameSize m_gamePlace m_gameSticks m_gameDepth m_keptDepth m_keptSize m_keptPlace m_keptOn m_keptSticks a1 a2 a3 a4 hq_26) rfl hd_X8_bookNow t_861 t_863 ts_32 t_10 t_864 ⟨(Nat.le_of_ble_eq_true rfl), (Nat.le_of_ble_eq_true rfl)⟩ ⟨rfl, rfl⟩ ⟨Nat.zero_le _, Nat.zero_le _⟩ (rv_o K 0 rfl rfl) [0, 1, 2, 3, 4, 5, 6, 7, 8, 9, 10, 11, 12, 13, 14, 15, 16, 17] [] [0, 1, 2, 3, 4, 5, 6, 7, 8, 9, 10, 11, 12, 13, 14, 15, 16, 17] rfl rfl rfl rfl (by decide) rfl rfl rfl rfl (Nat.le_of_ble_eq_true rfl) dX8_book_80 ?_
              exact s_iret K hret hlk rfl rfl dX8_book_83
set_option maxHeartbeats 4000000 in
set_option maxRecDepth 100000 in
theorem c_X8_draw {l : Launch} {D : va_G} {cI cC cB cQ : ClassId} {kc : Nat → Nat} {kt : Nat} (mh q_depthOf q_kindOf q_sizeOf q_placeOf q_onOf q_sticksOf q_page q_savedDepth q_gameSize q_gamePlace q_gameSticks q_gameDepth q_keptDepth q_keptSize q_keptPlace q_keptOn q_keptSticks : Nat) (m_isLawn m_lawns m_wetness m_strength m_days m_balls m_asks m_books m_pageLength m_faultAt m_savedSize m_savedPlace m_savedSticks m_bestSize m_bestFirst : Int32) (m_seedNow : Int64) (m_isKept m_keptLawn m_keptBalls m_keptStrength m_keptDays : Int32) (m_h : Int64) (m_depthOf m_kindOf m_sizeOf m_placeOf m_onOf m_sticksOf m_page m_savedDepth m_gameSize m_gamePlace m_gameSticks m_gameDepth m_keptDepth m_keptSize m_keptPlace m_keptOn m_keptSticks : Nat → Int32) (a1 : Int32) {r : Int32 × Int64} (hF : f_X8_draw m_seedNow a1 = some r) : CT l D (tysOf cI cC cB cQ) kc kt yX8_draw cX8_draw 2 (some .int) ({ frames := 1, cells := 0, slots := 0, locals := 40 } : Room) [.ref mh, .int a1] (wM cI cC cB cQ kc mh q_depthOf q_kindOf q_sizeOf q_placeOf q_onOf q_sticksOf q_page q_savedDepth q_gameSize q_gamePlace q_gameSticks q_gameDepth q_keptDepth q_keptSize q_keptPlace q_keptOn q_keptSticks m_isLawn m_lawns m_wetness m_strength m_days m_balls m_asks m_books m_pageLength m_faultAt m_savedSize m_savedPlace m_savedSticks m_bestSize m_bestFirst m_seedNow m_isKept m_keptLawn m_keptBalls m_keptStrength m_keptDays m_h m_depthOf m_kindOf m_sizeOf m_placeOf m_onOf m_sticksOf m_page m_savedDepth m_gameSize m_gamePlace m_gameSticks m_gameDepth m_keptDepth m_keptSize m_keptPlace m_keptOn m_keptSticks) ((fun (r : Int32 × Int64) => (wM cI cC cB cQ kc mh q_depthOf q_kindOf q_sizeOf q_placeOf q_onOf q_sticksOf q_page q_savedDepth q_gameSize q_gamePlace q_gameSticks q_gameDepth q_keptDepth q_keptSize q_keptPlace q_keptOn q_keptSticks m_isLawn m_lawns m_wetness m_strength m_days m_balls m_asks m_books m_pageLength m_faultAt m_savedSize m_savedPlace m_savedSticks m_bestSize m_bestFirst (r.2) m_isKept m_keptLawn m_keptBalls m_keptStrength m_keptDays m_h m_depthOf m_kindOf m_sizeOf m_placeOf m_onOf m_sticksOf m_page m_savedDepth m_gameSize m_gamePlace m_gameSticks m_gameDepth m_keptDepth m_keptSize m_keptPlace m_keptOn m_keptSticks)) r) ((fun (r : Int32 × Int64) => some (.int (r.1))) r) := by
  refine CT.of (ww := (fun (r : Int32 × Int64) => (wM cI cC cB cQ kc mh q_depthOf q_kindOf q_sizeOf q_placeOf q_onOf q_sticksOf q_page q_savedDepth q_gameSize q_gamePlace q_gameSticks q_gameDepth q_keptDepth q_keptSize q_keptPlace q_keptOn q_keptSticks m_isLawn m_lawns m_wetness m_strength m_days m_balls m_asks m_books m_pageLength m_faultAt m_savedSize m_savedPlace m_savedSticks m_bestSize m_bestFirst (r.2) m_isKept m_keptLawn m_keptBalls m_keptStrength m_keptDays m_h m_depthOf m_kindOf m_sizeOf m_placeOf m_onOf m_sticksOf m_page m_savedDepth m_gameSize m_gamePlace m_gameSticks m_gameDepth m_keptDepth m_keptSize m_keptPlace m_keptOn m_keptSticks))) (oo := (fun (r : Int32 × Int64) => some (.int (r.1)))) hF RX8 rfl rfl (Nat.le_of_ble_eq_true rfl) ?_
  intro p e s m args below meth c A K hret hlk
  rewrite [f_X8_draw]
  refine s_aload_n K dX8_draw_0 rfl 0 rfl ?_
  refine s_ldc2 K dX8_draw_1 t_877 ?_
  refine s_aload_n K dX8_draw_4 rfl 0 rfl ?_
  refine s_get K 0 rfl rfl inT8 23 (Nat.le_of_ble_eq_true rfl) t_576 rfl rfl dX8_draw_5 ?_
  refine s_lmul K dX8_draw_8 ?_
  refine s_ldc2 K dX8_draw_9 t_878 ?_
  refine s_ladd K dX8_draw_12 ?_
  refine s_ldc2 K dX8_draw_13 t_879 ?_
  refine s_land K dX8_draw_16 ?_
  refine s_put (w' := (wM cI cC cB cQ kc mh q_depthOf q_kindOf q_sizeOf q_placeOf q_onOf q_sticksOf q_page q_savedDepth q_gameSize q_gamePlace q_gameSticks q_gameDepth q_keptDepth q_keptSize q_keptPlace q_keptOn q_keptSticks m_isLawn m_lawns m_wetness m_strength m_days m_balls m_asks m_books m_pageLength m_faultAt m_savedSize m_savedPlace m_savedSticks m_bestSize m_bestFirst (((1103515245 * m_seedNow) + 12345) &&& 2147483647) m_isKept m_keptLawn m_keptBalls m_keptStrength m_keptDays m_h m_depthOf m_kindOf m_sizeOf m_placeOf m_onOf m_sticksOf m_page m_savedDepth m_gameSize m_gamePlace m_gameSticks m_gameDepth m_keptDepth m_keptSize m_keptPlace m_keptOn m_keptSticks)) K 0 rfl rfl inT8 tyX8_ok nmX8 23 (Nat.le_of_ble_eq_true rfl) t_576 rfl rfl rfl rfl (Nat.le_of_ble_eq_true rfl) rfl dX8_draw_17 ?_
  refine s_aload_n K dX8_draw_20 rfl 0 rfl ?_
  refine s_get K 0 rfl rfl inT8 23 (Nat.le_of_ble_eq_true rfl) t_576 rfl rfl dX8_draw_21 ?_
  refine s_ldc2 K dX8_draw_24 t_880 ?_
  refine s_ldiv K dX8_draw_27 knzl_65536 ?_
  refine s_iload_n K dX8_draw_28 rfl 1 rfl ?_
  refine s_i2l K dX8_draw_29 ?_
  refine s_ck (fun hz_1 => ?_)
  refine s_lrem K dX8_draw_30 hz_1 ?_
  refine s_l2i K dX8_draw_31 ?_
  exact s_iret K hret hlk rfl rfl dX8_draw_32
set_option maxHeartbeats 4000000 in
set_option maxRecDepth 100000 in
theorem c_X8_sizeAll {l : Launch} {D : va_G} {cI cC cB cQ : ClassId} {kc : Nat → Nat} {kt : Nat} (mh q_depthOf q_kindOf q_sizeOf q_placeOf q_onOf q_sticksOf q_page q_savedDepth q_gameSize q_gamePlace q_gameSticks q_gameDepth q_keptDepth q_keptSize q_keptPlace q_keptOn q_keptSticks : Nat) (m_isLawn m_lawns m_wetness m_strength m_days m_balls m_asks m_books m_pageLength m_faultAt m_savedSize m_savedPlace m_savedSticks m_bestSize m_bestFirst : Int32) (m_seedNow : Int64) (m_isKept m_keptLawn m_keptBalls m_keptStrength m_keptDays : Int32) (m_h : Int64) (m_depthOf m_kindOf m_sizeOf m_placeOf m_onOf m_sticksOf m_page m_savedDepth m_gameSize m_gamePlace m_gameSticks m_gameDepth m_keptDepth m_keptSize m_keptPlace m_keptOn m_keptSticks : Nat → Int32) {r : Int32} (hF : f_X8_sizeAll m_balls m_sizeOf = some r) : CT l D (tysOf cI cC cB cQ) kc kt yX8_sizeAll cX8_sizeAll 3 (some .int) ({ frames := 1, cells := 0, slots := 0, locals := 40 } : Room) [.ref mh] (wM cI cC cB cQ kc mh q_depthOf q_kindOf q_sizeOf q_placeOf q_onOf q_sticksOf q_page q_savedDepth q_gameSize q_gamePlace q_gameSticks q_gameDepth q_keptDepth q_keptSize q_keptPlace q_keptOn q_keptSticks m_isLawn m_lawns m_wetness m_strength m_days m_balls m_asks m_books m_pageLength m_faultAt m_savedSize m_savedPlace m_savedSticks m_bestSize m_bestFirst m_seedNow m_isKept m_keptLawn m_keptBalls m_keptStrength m_keptDays m_h m_depthOf m_kindOf m_sizeOf m_placeOf m_onOf m_sticksOf m_page m_savedDepth m_gameSize m_gamePlace m_gameSticks m_gameDepth m_keptDepth m_keptSize m_keptPlace m_keptOn m_keptSticks) ((fun (r : Int32) => (wM cI cC cB cQ kc mh q_depthOf q_kindOf q_sizeOf q_placeOf q_onOf q_sticksOf q_page q_savedDepth q_gameSize q_gamePlace q_gameSticks q_gameDepth q_keptDepth q_keptSize q_keptPlace q_keptOn q_keptSticks m_isLawn m_lawns m_wetness m_strength m_days m_balls m_asks m_books m_pageLength m_faultAt m_savedSize m_savedPlace m_savedSticks m_bestSize m_bestFirst m_seedNow m_isKept m_keptLawn m_keptBalls m_keptStrength m_keptDays m_h m_depthOf m_kindOf m_sizeOf m_placeOf m_onOf m_sticksOf m_page m_savedDepth m_gameSize m_gamePlace m_gameSticks m_gameDepth m_keptDepth m_keptSize m_keptPlace m_keptOn m_keptSticks)) r) ((fun (r : Int32) => some (.int r)) r) := by
  refine CT.of (ww := (fun (r : Int32) => (wM cI cC cB cQ kc mh q_depthOf q_kindOf q_sizeOf q_placeOf q_onOf q_sticksOf q_page q_savedDepth q_gameSize q_gamePlace q_gameSticks q_gameDepth q_keptDepth q_keptSize q_keptPlace q_keptOn q_keptSticks m_isLawn m_lawns m_wetness m_strength m_days m_balls m_asks m_books m_pageLength m_faultAt m_savedSize m_savedPlace m_savedSticks m_bestSize m_bestFirst m_seedNow m_isKept m_keptLawn m_keptBalls m_keptStrength m_keptDays m_h m_depthOf m_kindOf m_sizeOf m_placeOf m_onOf m_sticksOf m_page m_savedDepth m_gameSize m_gamePlace m_gameSticks m_gameDepth m_keptDepth m_keptSize m_keptPlace m_keptOn m_keptSticks))) (oo := (fun (r : Int32) => some (.int r))) hF RX8 rfl rfl (Nat.le_of_ble_eq_true rfl) ?_
  intro p e s m args below meth c A K hret hlk
  have L4 : ∀ (fu : Nat) (x1 x2 : Int32), Sw (ρ := Int32) p l e ({ frames := 1, cells := 0, slots := 0, locals := 40 } : Room) s m args below meth c 0 0 D A 3 (fun r => MQ below (CQ D ((fun (r : Int32) => (wM cI cC cB cQ kc mh q_depthOf q_kindOf q_sizeOf q_placeOf q_onOf q_sticksOf q_page q_savedDepth q_gameSize q_gamePlace q_gameSticks q_gameDepth q_keptDepth q_keptSize q_keptPlace q_keptOn q_keptSticks m_isLawn m_lawns m_wetness m_strength m_days m_balls m_asks m_books m_pageLength m_faultAt m_savedSize m_savedPlace m_savedSticks m_bestSize m_bestFirst m_seedNow m_isKept m_keptLawn m_keptBalls m_keptStrength m_keptDays m_h m_depthOf m_kindOf m_sizeOf m_placeOf m_onOf m_sticksOf m_page m_savedDepth m_gameSize m_gamePlace m_gameSticks m_gameDepth m_keptDepth m_keptSize m_keptPlace m_keptOn m_keptSticks)) r) ((fun (r : Int32) => some (.int r)) r) A) args s 0 0 A) (f_X8_sizeAll_h4 m_balls m_sizeOf fu x1 x2) (wM cI cC cB cQ kc mh q_depthOf q_kindOf q_sizeOf q_placeOf q_onOf q_sticksOf q_page q_savedDepth q_gameSize q_gamePlace q_gameSticks q_gameDepth q_keptDepth q_keptSize q_keptPlace q_keptOn q_keptSticks m_isLawn m_lawns m_wetness m_strength m_days m_balls m_asks m_books m_pageLength m_faultAt m_savedSize m_savedPlace m_savedSticks m_bestSize m_bestFirst m_seedNow m_isKept m_keptLawn m_keptBalls m_keptStrength m_keptDays m_h m_depthOf m_kindOf m_sizeOf m_placeOf m_onOf m_sticksOf m_page m_savedDepth m_gameSize m_gamePlace m_gameSticks m_gameDepth m_keptDepth m_keptSize m_keptPlace m_keptOn m_keptSticks) [(0, .ref mh), (1, .int x1), (2, .int x2)] 4 [] := by
    intro  fu
    induction fu with
    | zero =>
      intro x1 x2
      rewrite [f_X8_sizeAll_h4]
      exact s_none
    | succ fu ih =>
      intro x1 x2
      rewrite [f_X8_sizeAll_h4]
      refine s_iload_n K dX8_sizeAll_4 rfl 2 rfl ?_
      refine s_aload_n K dX8_sizeAll_5 rfl 0 rfl ?_
      refine s_get K 0 rfl rfl inT8 6 (Nat.le_of_ble_eq_true rfl) t_559 rfl rfl dX8_sizeAll_6 ?_
      refine s_icmp_ge (tgt := 27) K dX8_sizeAll_9 (by decide) (fun c_1 => ?_) (fun c_1 => ?_)
      · refine s_iload_n K dX8_sizeAll_27 rfl 1 rfl ?_
        exact s_iret K hret hlk rfl rfl dX8_sizeAll_28
      · refine s_iload_n K dX8_sizeAll_12 rfl 1 rfl ?_
        refine s_aload_n K dX8_sizeAll_13 rfl 0 rfl ?_
        refine s_get K 0 rfl rfl inT8 8 (Nat.le_of_ble_eq_true rfl) t_561 rfl rfl dX8_sizeAll_14 ?_
        refine s_iload_n K dX8_sizeAll_17 rfl 2 rfl ?_
        refine s_ck (fun ho_2 => ?_)
        refine s_iald K 3 0 rfl rfl (ok_in ho_2) rfl dX8_sizeAll_18 ?_
        refine s_iadd K dX8_sizeAll_19 ?_
        refine s_istore_n (lv' := [(1, .int (x1 + (m_sizeOf (Int32.toNatClampNeg x2)))), (0, .ref mh), (2, .int x2)]) K dX8_sizeAll_20 rfl (Nat.le_of_ble_eq_true rfl) rfl ?_
        refine s_iinc (lv' := [(2, .int (x2 + 1)), (1, .int (x1 + (m_sizeOf (Int32.toNatClampNeg x2)))), (0, .ref mh)]) K dX8_sizeAll_21 2 rfl (kii_1 _) (Nat.le_of_ble_eq_true rfl) rfl ?_
        refine s_goto (tgt := 4) K dX8_sizeAll_24 (by decide) ?_
        refine s_lv (lv' := [(0, .ref mh), (1, .int (x1 + (m_sizeOf (Int32.toNatClampNeg x2)))), (2, .int (x2 + 1))]) [2, 1, 0] rfl ?_
        exact ih (x1 + (m_sizeOf (Int32.toNatClampNeg x2))) (x2 + 1)
  rewrite [f_X8_sizeAll]
  refine s_iconst K dX8_sizeAll_0 kic_0 ?_
  refine s_istore_n (lv' := [(1, .int 0), (0, .ref mh)]) K dX8_sizeAll_1 rfl (Nat.le_of_ble_eq_true rfl) rfl ?_
  refine s_iconst K dX8_sizeAll_2 kic_0 ?_
  refine s_istore_n (lv' := [(2, .int 0), (1, .int 0), (0, .ref mh)]) K dX8_sizeAll_3 rfl (Nat.le_of_ble_eq_true rfl) rfl ?_
  refine s_lv (lv' := [(0, .ref mh), (1, .int 0), (2, .int 0)]) [2, 1, 0] rfl ?_
  exact L4 70 0 0
set_option maxHeartbeats 4000000 in
set_option maxRecDepth 100000 in
theorem c_X8_gamesNow {l : Launch} {D : va_G} {cI cC cB cQ : ClassId} {kc : Nat → Nat} {kt : Nat} (mh q_depthOf q_kindOf q_sizeOf q_placeOf q_onOf q_sticksOf q_page q_savedDepth q_gameSize q_gamePlace q_gameSticks q_gameDepth q_keptDepth q_keptSize q_keptPlace q_keptOn q_keptSticks : Nat) (m_isLawn m_lawns m_wetness m_strength m_days m_balls m_asks m_books m_pageLength m_faultAt m_savedSize m_savedPlace m_savedSticks m_bestSize m_bestFirst : Int32) (m_seedNow : Int64) (m_isKept m_keptLawn m_keptBalls m_keptStrength m_keptDays : Int32) (m_h : Int64) (m_depthOf m_kindOf m_sizeOf m_placeOf m_onOf m_sticksOf m_page m_savedDepth m_gameSize m_gamePlace m_gameSticks m_gameDepth m_keptDepth m_keptSize m_keptPlace m_keptOn m_keptSticks : Nat → Int32) (a1 a2 a3 : Int32) {r : Int32 × Int64 × (Nat → Int32) × (Nat → Int32) × (Nat → Int32) × (Nat → Int32) × (Nat → Int32) × (Nat → Int32) × (Nat → Int32) × (Nat → Int32)} (hF : f_X8_gamesNow m_isLawn m_wetness m_strength m_balls m_depthOf m_kindOf m_sizeOf m_placeOf m_onOf m_sticksOf m_gameSize m_gamePlace m_gameSticks m_gameDepth a1 a2 a3 = some r) : CT l D (tysOf cI cC cB cQ) kc kt yX8_gamesNow cX8_gamesNow 8 (some .int) ({ frames := 4, cells := 0, slots := 0, locals := 228 } : Room) [.ref mh, .int a1, .int a2, .int a3] (wM cI cC cB cQ kc mh q_depthOf q_kindOf q_sizeOf q_placeOf q_onOf q_sticksOf q_page q_savedDepth q_gameSize q_gamePlace q_gameSticks q_gameDepth q_keptDepth q_keptSize q_keptPlace q_keptOn q_keptSticks m_isLawn m_lawns m_wetness m_strength m_days m_balls m_asks m_books m_pageLength m_faultAt m_savedSize m_savedPlace m_savedSticks m_bestSize m_bestFirst m_seedNow m_isKept m_keptLawn m_keptBalls m_keptStrength m_keptDays m_h m_depthOf m_kindOf m_sizeOf m_placeOf m_onOf m_sticksOf m_page m_savedDepth m_gameSize m_gamePlace m_gameSticks m_gameDepth m_keptDepth m_keptSize m_keptPlace m_keptOn m_keptSticks) ((fun (r : Int32 × Int64 × (Nat → Int32) × (Nat → Int32) × (Nat → Int32) × (Nat → Int32) × (Nat → Int32) × (Nat → Int32) × (Nat → Int32) × (Nat → Int32)) => (wM cI cC cB cQ kc mh q_depthOf q_kindOf q_sizeOf q_placeOf q_onOf q_sticksOf q_page q_savedDepth q_gameSize q_gamePlace q_gameSticks q_gameDepth q_keptDepth q_keptSize q_keptPlace q_keptOn q_keptSticks m_isLawn m_lawns m_wetness m_strength m_days m_balls m_asks m_books m_pageLength m_faultAt m_savedSize m_savedPlace m_savedSticks m_bestSize m_bestFirst (r.2.1) m_isKept m_keptLawn m_keptBalls m_keptStrength m_keptDays m_h (r.2.2.1) m_kindOf (r.2.2.2.1) (r.2.2.2.2.1) m_onOf (r.2.2.2.2.2.1) m_page m_savedDepth (r.2.2.2.2.2.2.1) (r.2.2.2.2.2.2.2.1) (r.2.2.2.2.2.2.2.2.1) (r.2.2.2.2.2.2.2.2.2) m_keptDepth m_keptSize m_keptPlace m_keptOn m_keptSticks)) r) ((fun (r : Int32 × Int64 × (Nat → Int32) × (Nat → Int32) × (Nat → Int32) × (Nat → Int32) × (Nat → Int32) × (Nat → Int32) × (Nat → Int32) × (Nat → Int32)) => some (.int (r.1))) r) := by
  refine CT.of (ww := (fun (r : Int32 × Int64 × (Nat → Int32) × (Nat → Int32) × (Nat → Int32) × (Nat → Int32) × (Nat → Int32) × (Nat → Int32) × (Nat → Int32) × (Nat → Int32)) => (wM cI cC cB cQ kc mh q_depthOf q_kindOf q_sizeOf q_placeOf q_onOf q_sticksOf q_page q_savedDepth q_gameSize q_gamePlace q_gameSticks q_gameDepth q_keptDepth q_keptSize q_keptPlace q_keptOn q_keptSticks m_isLawn m_lawns m_wetness m_strength m_days m_balls m_asks m_books m_pageLength m_faultAt m_savedSize m_savedPlace m_savedSticks m_bestSize m_bestFirst (r.2.1) m_isKept m_keptLawn m_keptBalls m_keptStrength m_keptDays m_h (r.2.2.1) m_kindOf (r.2.2.2.1) (r.2.2.2.2.1) m_onOf (r.2.2.2.2.2.1) m_page m_savedDepth (r.2.2.2.2.2.2.1) (r.2.2.2.2.2.2.2.1) (r.2.2.2.2.2.2.2.2.1) (r.2.2.2.2.2.2.2.2.2) m_keptDepth m_keptSize m_keptPlace m_keptOn m_keptSticks))) (oo := (fun (r : Int32 × Int64 × (Nat → Int32) × (Nat → Int32) × (Nat → Int32) × (Nat → Int32) × (Nat → Int32) × (Nat → Int32) × (Nat → Int32) × (Nat → Int32)) => some (.int (r.1)))) hF RX8 rfl rfl (Nat.le_of_ble_eq_true rfl) ?_
  intro p e s m args below meth c A K hret hlk
  have L226 : ∀ (fu : Nat) (m_seedNow : Int64) (m_depthOf m_sizeOf m_placeOf m_sticksOf m_gameSize m_gamePlace m_gameSticks m_gameDepth : Nat → Int32) (x5 x6 : Int32), Sw (ρ := Int32 × Int64 × (Nat → Int32) × (Nat → Int32) × (Nat → Int32) × (Nat → Int32) × (Nat → Int32) × (Nat → Int32) × (Nat → Int32) × (Nat → Int32)) p l e ({ frames := 4, cells := 0, slots := 0, locals := 228 } : Room) s m args below meth c 0 0 D A 8 (fun r => MQ below (CQ D ((fun (r : Int32 × Int64 × (Nat → Int32) × (Nat → Int32) × (Nat → Int32) × (Nat → Int32) × (Nat → Int32) × (Nat → Int32) × (Nat → Int32) × (Nat → Int32)) => (wM cI cC cB cQ kc mh q_depthOf q_kindOf q_sizeOf q_placeOf q_onOf q_sticksOf q_page q_savedDepth q_gameSize q_gamePlace q_gameSticks q_gameDepth q_keptDepth q_keptSize q_keptPlace q_keptOn q_keptSticks m_isLawn m_lawns m_wetness m_strength m_days m_balls m_asks m_books m_pageLength m_faultAt m_savedSize m_savedPlace m_savedSticks m_bestSize m_bestFirst (r.2.1) m_isKept m_keptLawn m_keptBalls m_keptStrength m_keptDays m_h (r.2.2.1) m_kindOf (r.2.2.2.1) (r.2.2.2.2.1) m_onOf (r.2.2.2.2.2.1) m_page m_savedDepth (r.2.2.2.2.2.2.1) (r.2.2.2.2.2.2.2.1) (r.2.2.2.2.2.2.2.2.1) (r.2.2.2.2.2.2.2.2.2) m_keptDepth m_keptSize m_keptPlace m_keptOn m_keptSticks)) r) ((fun (r : Int32 × Int64 × (Nat → Int32) × (Nat → Int32) × (Nat → Int32) × (Nat → Int32) × (Nat → Int32) × (Nat → Int32) × (Nat → Int32) × (Nat → Int32)) => some (.int (r.1))) r) A) args s 0 0 A) (f_X8_gamesNow_h226 m_balls fu m_seedNow m_depthOf m_sizeOf m_placeOf m_sticksOf m_gameSize m_gamePlace m_gameSticks m_gameDepth x5 x6) (wM cI cC cB cQ kc mh q_depthOf q_kindOf q_sizeOf q_placeOf q_onOf q_sticksOf q_page q_savedDepth q_gameSize q_gamePlace q_gameSticks q_gameDepth q_keptDepth q_keptSize q_keptPlace q_keptOn q_keptSticks m_isLawn m_lawns m_wetness m_strength m_days m_balls m_asks m_books m_pageLength m_faultAt m_savedSize m_savedPlace m_savedSticks m_bestSize m_bestFirst m_seedNow m_isKept m_keptLawn m_keptBalls m_keptStrength m_keptDays m_h m_depthOf m_kindOf m_sizeOf m_placeOf m_onOf m_sticksOf m_page m_savedDepth m_gameSize m_gamePlace m_gameSticks m_gameDepth m_keptDepth m_keptSize m_keptPlace m_keptOn m_keptSticks) [(0, .ref mh), (5, .int x5), (6, .int x6)] 226 [] := by
    intro  fu
    induction fu with
    | zero =>
      intro m_seedNow m_depthOf m_sizeOf m_placeOf m_sticksOf m_gameSize m_gamePlace m_gameSticks m_gameDepth x5 x6
      rewrite [f_X8_gamesNow_h226]
      exact s_none
    | succ fu ih =>
      intro m_seedNow m_depthOf m_sizeOf m_placeOf m_sticksOf m_gameSize m_gamePlace m_gameSticks m_gameDepth x5 x6
      rewrite [f_X8_gamesNow_h226]
      refine s_iload K dX8_gamesNow_226 2 rfl ?_
      refine s_aload_n K dX8_gamesNow_228 rfl 0 rfl ?_
      refine s_get K 0 rfl rfl inT8 6 (Nat.le_of_ble_eq_true rfl) t_559 rfl rfl dX8_gamesNow_229 ?_
      refine s_icmp_ge (tgt := 283) K dX8_gamesNow_232 (by decide) (fun c_30 => ?_) (fun c_30 => ?_)
      · refine s_iload K dX8_gamesNow_283 1 rfl ?_
        exact s_iret K hret hlk rfl rfl dX8_gamesNow_285
      · refine s_aload_n K dX8_gamesNow_235 rfl 0 rfl ?_
        refine s_get K 0 rfl rfl inT8 8 (Nat.le_of_ble_eq_true rfl) t_561 rfl rfl dX8_gamesNow_236 ?_
        refine s_iload K dX8_gamesNow_239 2 rfl ?_
        refine s_aload_n K dX8_gamesNow_241 rfl 0 rfl ?_
        refine s_get K 0 rfl rfl inT8 24 (Nat.le_of_ble_eq_true rfl) t_577 rfl rfl dX8_gamesNow_242 ?_
        refine s_iload K dX8_gamesNow_245 2 rfl ?_
        refine s_ck (fun ho_31 => ?_)
        refine s_iald K 9 0 rfl rfl (ok_in ho_31) rfl dX8_gamesNow_247 ?_
        refine s_ck (fun ho_32 => ?_)
        refine s_iast (w' := (wM cI cC cB cQ kc mh q_depthOf q_kindOf q_sizeOf q_placeOf q_onOf q_sticksOf q_page q_savedDepth q_gameSize q_gamePlace q_gameSticks q_gameDepth q_keptDepth q_keptSize q_keptPlace q_keptOn q_keptSticks m_isLawn m_lawns m_wetness m_strength m_days m_balls m_asks m_books m_pageLength m_faultAt m_savedSize m_savedPlace m_savedSticks m_bestSize m_bestFirst m_seedNow m_isKept m_keptLawn m_keptBalls m_keptStrength m_keptDays m_h m_depthOf m_kindOf (upd m_sizeOf (Int32.toNatClampNeg x6) (m_gameSize (Int32.toNatClampNeg x6))) m_placeOf m_onOf m_sticksOf m_page m_savedDepth m_gameSize m_gamePlace m_gameSticks m_gameDepth m_keptDepth m_keptSize m_keptPlace m_keptOn m_keptSticks)) K 3 0 rfl rfl (ok_in ho_32) rfl rfl dX8_gamesNow_248 ?_
        refine s_aload_n K dX8_gamesNow_249 rfl 0 rfl ?_
        refine s_get K 0 rfl rfl inT8 9 (Nat.le_of_ble_eq_true rfl) t_562 rfl rfl dX8_gamesNow_250 ?_
        refine s_iload K dX8_gamesNow_253 2 rfl ?_
        refine s_aload_n K dX8_gamesNow_255 rfl 0 rfl ?_
        refine s_get K 0 rfl rfl inT8 25 (Nat.le_of_ble_eq_true rfl) t_578 rfl rfl dX8_gamesNow_256 ?_
        refine s_iload K dX8_gamesNow_259 2 rfl ?_
        refine s_iald K 10 0 rfl rfl (ok_in ho_31) rfl dX8_gamesNow_261 ?_
        refine s_iast (w' := (wM cI cC cB cQ kc mh q_depthOf q_kindOf q_sizeOf q_placeOf q_onOf q_sticksOf q_page q_savedDepth q_gameSize q_gamePlace q_gameSticks q_gameDepth q_keptDepth q_keptSize q_keptPlace q_keptOn q_keptSticks m_isLawn m_lawns m_wetness m_strength m_days m_balls m_asks m_books m_pageLength m_faultAt m_savedSize m_savedPlace m_savedSticks m_bestSize m_bestFirst m_seedNow m_isKept m_keptLawn m_keptBalls m_keptStrength m_keptDays m_h m_depthOf m_kindOf (upd m_sizeOf (Int32.toNatClampNeg x6) (m_gameSize (Int32.toNatClampNeg x6))) (upd m_placeOf (Int32.toNatClampNeg x6) (m_gamePlace (Int32.toNatClampNeg x6))) m_onOf m_sticksOf m_page m_savedDepth m_gameSize m_gamePlace m_gameSticks m_gameDepth m_keptDepth m_keptSize m_keptPlace m_keptOn m_keptSticks)) K 4 0 rfl rfl (ok_in ho_32) rfl rfl dX8_gamesNow_262 ?_
        refine s_aload_n K dX8_gamesNow_263 rfl 0 rfl ?_
        refine s_get K 0 rfl rfl inT8 11 (Nat.le_of_ble_eq_true rfl) t_564 rfl rfl dX8_gamesNow_264 ?_
        refine s_iload K dX8_gamesNow_267 2 rfl ?_
        refine s_aload_n K dX8_gamesNow_269 rfl 0 rfl ?_
        refine s_get K 0 rfl rfl inT8 26 (Nat.le_of_ble_eq_true rfl) t_579 rfl rfl dX8_gamesNow_270 ?_
        refine s_iload K dX8_gamesNow_273 2 rfl ?_
        refine s_iald K 11 0 rfl rfl (ok_in ho_31) rfl dX8_gamesNow_275 ?_
        refine s_iast (w' := (wM cI cC cB cQ kc mh q_depthOf q_kindOf q_sizeOf q_placeOf q_onOf q_sticksOf q_page q_savedDepth q_gameSize q_gamePlace q_gameSticks q_gameDepth q_keptDepth q_keptSize q_keptPlace q_keptOn q_keptSticks m_isLawn m_lawns m_wetness m_strength m_days m_balls m_asks m_books m_pageLength m_faultAt m_savedSize m_savedPlace m_savedSticks m_bestSize m_bestFirst m_seedNow m_isKept m_keptLawn m_keptBalls m_keptStrength m_keptDays m_h m_depthOf m_kindOf (upd m_sizeOf (Int32.toNatClampNeg x6) (m_gameSize (Int32.toNatClampNeg x6))) (upd m_placeOf (Int32.toNatClampNeg x6) (m_gamePlace (Int32.toNatClampNeg x6))) m_onOf (upd m_sticksOf (Int32.toNatClampNeg x6) (m_gameSticks (Int32.toNatClampNeg x6))) m_page m_savedDepth m_gameSize m_gamePlace m_gameSticks m_gameDepth m_keptDepth m_keptSize m_keptPlace m_keptOn m_keptSticks)) K 6 0 rfl rfl (ok_in ho_32) rfl rfl dX8_gamesNow_276 ?_
        refine s_iinc (lv' := [(6, .int (x6 + 1)), (0, .ref mh), (5, .int x5)]) K dX8_gamesNow_277 2 rfl (kii_1 _) (Nat.le_of_ble_eq_true rfl) rfl ?_
        refine s_goto (tgt := 226) K dX8_gamesNow_280 (by decide) ?_
        refine s_lv (lv' := [(0, .ref mh), (5, .int x5), (6, .int (x6 + 1))]) [1, 2, 0] rfl ?_
        exact ih m_seedNow m_depthOf (upd m_sizeOf (Int32.toNatClampNeg x6) (m_gameSize (Int32.toNatClampNeg x6))) (upd m_placeOf (Int32.toNatClampNeg x6) (m_gamePlace (Int32.toNatClampNeg x6))) (upd m_sticksOf (Int32.toNatClampNeg x6) (m_gameSticks (Int32.toNatClampNeg x6))) m_gameSize m_gamePlace m_gameSticks m_gameDepth x5 (x6 + 1)
  have L196 : ∀ (fu : Nat) (m_seedNow : Int64) (m_depthOf m_sizeOf m_placeOf m_sticksOf m_gameSize m_gamePlace m_gameSticks m_gameDepth : Nat → Int32) (x5 x6 : Int32), Sw (ρ := Int32 × Int64 × (Nat → Int32) × (Nat → Int32) × (Nat → Int32) × (Nat → Int32) × (Nat → Int32) × (Nat → Int32) × (Nat → Int32) × (Nat → Int32)) p l e ({ frames := 4, cells := 0, slots := 0, locals := 228 } : Room) s m args below meth c 0 0 D A 8 (fun r => MQ below (CQ D ((fun (r : Int32 × Int64 × (Nat → Int32) × (Nat → Int32) × (Nat → Int32) × (Nat → Int32) × (Nat → Int32) × (Nat → Int32) × (Nat → Int32) × (Nat → Int32)) => (wM cI cC cB cQ kc mh q_depthOf q_kindOf q_sizeOf q_placeOf q_onOf q_sticksOf q_page q_savedDepth q_gameSize q_gamePlace q_gameSticks q_gameDepth q_keptDepth q_keptSize q_keptPlace q_keptOn q_keptSticks m_isLawn m_lawns m_wetness m_strength m_days m_balls m_asks m_books m_pageLength m_faultAt m_savedSize m_savedPlace m_savedSticks m_bestSize m_bestFirst (r.2.1) m_isKept m_keptLawn m_keptBalls m_keptStrength m_keptDays m_h (r.2.2.1) m_kindOf (r.2.2.2.1) (r.2.2.2.2.1) m_onOf (r.2.2.2.2.2.1) m_page m_savedDepth (r.2.2.2.2.2.2.1) (r.2.2.2.2.2.2.2.1) (r.2.2.2.2.2.2.2.2.1) (r.2.2.2.2.2.2.2.2.2) m_keptDepth m_keptSize m_keptPlace m_keptOn m_keptSticks)) r) ((fun (r : Int32 × Int64 × (Nat → Int32) × (Nat → Int32) × (Nat → Int32) × (Nat → Int32) × (Nat → Int32) × (Nat → Int32) × (Nat → Int32) × (Nat → Int32)) => some (.int (r.1))) r) A) args s 0 0 A) (f_X8_gamesNow_h196 m_balls fu m_seedNow m_depthOf m_sizeOf m_placeOf m_sticksOf m_gameSize m_gamePlace m_gameSticks m_gameDepth x5 x6) (wM cI cC cB cQ kc mh q_depthOf q_kindOf q_sizeOf q_placeOf q_onOf q_sticksOf q_page q_savedDepth q_gameSize q_gamePlace q_gameSticks q_gameDepth q_keptDepth q_keptSize q_keptPlace q_keptOn q_keptSticks m_isLawn m_lawns m_wetness m_strength m_days m_balls m_asks m_books m_pageLength m_faultAt m_savedSize m_savedPlace m_savedSticks m_bestSize m_bestFirst m_seedNow m_isKept m_keptLawn m_keptBalls m_keptStrength m_keptDays m_h m_depthOf m_kindOf m_sizeOf m_placeOf m_onOf m_sticksOf m_page m_savedDepth m_gameSize m_gamePlace m_gameSticks m_gameDepth m_keptDepth m_keptSize m_keptPlace m_keptOn m_keptSticks) [(0, .ref mh), (5, .int x5), (6, .int x6)] 196 [] := by
    intro  fu
    induction fu with
    | zero =>
      intro m_seedNow m_depthOf m_sizeOf m_placeOf m_sticksOf m_gameSize m_gamePlace m_gameSticks m_gameDepth x5 x6
      rewrite [f_X8_gamesNow_h196]
      exact s_none
    | succ fu ih =>
      intro m_seedNow m_depthOf m_sizeOf m_placeOf m_sticksOf m_gameSize m_gamePlace m_gameSticks m_gameDepth x5 x6
      rewrite [f_X8_gamesNow_h196]
      refine s_iload K dX8_gamesNow_196 2 rfl ?_
      refine s_bipush K dX8_gamesNow_198 kib_20 ?_
      refine s_icmp_ge (tgt := 223) K dX8_gamesNow_200 (by decide) (fun c_28 => ?_) (fun c_28 => ?_)
      · refine s_iconst K dX8_gamesNow_223 kic_0 ?_
        refine s_istore (lv' := [(6, .int 0), (0, .ref mh), (5, .int x5)]) K dX8_gamesNow_224 (Nat.le_of_ble_eq_true rfl) rfl ?_
        refine s_lv (lv' := [(0, .ref mh), (5, .int x5), (6, .int 0)]) [1, 2, 0] rfl ?_
        exact L226 70 m_seedNow m_depthOf m_sizeOf m_placeOf m_sticksOf m_gameSize m_gamePlace m_gameSticks m_gameDepth x5 0
      · refine s_aload_n K dX8_gamesNow_203 rfl 0 rfl ?_
        refine s_get K 0 rfl rfl inT8 2 (Nat.le_of_ble_eq_true rfl) t_555 rfl rfl dX8_gamesNow_204 ?_
        refine s_iload K dX8_gamesNow_207 2 rfl ?_
        refine s_aload_n K dX8_gamesNow_209 rfl 0 rfl ?_
        refine s_get K 0 rfl rfl inT8 27 (Nat.le_of_ble_eq_true rfl) t_580 rfl rfl dX8_gamesNow_210 ?_
        refine s_iload K dX8_gamesNow_213 2 rfl ?_
        refine s_ck (fun ho_29 => ?_)
        refine s_iald K 12 0 rfl rfl (ok_in ho_29) rfl dX8_gamesNow_215 ?_
        refine s_iast (w' := (wM cI cC cB cQ kc mh q_depthOf q_kindOf q_sizeOf q_placeOf q_onOf q_sticksOf q_page q_savedDepth q_gameSize q_gamePlace q_gameSticks q_gameDepth q_keptDepth q_keptSize q_keptPlace q_keptOn q_keptSticks m_isLawn m_lawns m_wetness m_strength m_days m_balls m_asks m_books m_pageLength m_faultAt m_savedSize m_savedPlace m_savedSticks m_bestSize m_bestFirst m_seedNow m_isKept m_keptLawn m_keptBalls m_keptStrength m_keptDays m_h (upd m_depthOf (Int32.toNatClampNeg x6) (m_gameDepth (Int32.toNatClampNeg x6))) m_kindOf m_sizeOf m_placeOf m_onOf m_sticksOf m_page m_savedDepth m_gameSize m_gamePlace m_gameSticks m_gameDepth m_keptDepth m_keptSize m_keptPlace m_keptOn m_keptSticks)) K 1 0 rfl rfl (ok_in ho_29) rfl rfl dX8_gamesNow_216 ?_
        refine s_iinc (lv' := [(6, .int (x6 + 1)), (0, .ref mh), (5, .int x5)]) K dX8_gamesNow_217 2 rfl (kii_1 _) (Nat.le_of_ble_eq_true rfl) rfl ?_
        refine s_goto (tgt := 196) K dX8_gamesNow_220 (by decide) ?_
        refine s_lv (lv' := [(0, .ref mh), (5, .int x5), (6, .int (x6 + 1))]) [1, 2, 0] rfl ?_
        exact ih m_seedNow (upd m_depthOf (Int32.toNatClampNeg x6) (m_gameDepth (Int32.toNatClampNeg x6))) m_sizeOf m_placeOf m_sticksOf m_gameSize m_gamePlace m_gameSticks m_gameDepth x5 (x6 + 1)
  have L102 : ∀ (fu : Nat) (m_seedNow : Int64) (m_depthOf m_sizeOf m_placeOf m_sticksOf m_gameSize m_gamePlace m_gameSticks m_gameDepth : Nat → Int32) (x4 x5 : Int32), Sw (ρ := Int32 × Int64 × (Nat → Int32) × (Nat → Int32) × (Nat → Int32) × (Nat → Int32) × (Nat → Int32) × (Nat → Int32) × (Nat → Int32) × (Nat → Int32)) p l e ({ frames := 4, cells := 0, slots := 0, locals := 228 } : Room) s m args below meth c 0 0 D A 8 (fun r => MQ below (CQ D ((fun (r : Int32 × Int64 × (Nat → Int32) × (Nat → Int32) × (Nat → Int32) × (Nat → Int32) × (Nat → Int32) × (Nat → Int32) × (Nat → Int32) × (Nat → Int32)) => (wM cI cC cB cQ kc mh q_depthOf q_kindOf q_sizeOf q_placeOf q_onOf q_sticksOf q_page q_savedDepth q_gameSize q_gamePlace q_gameSticks q_gameDepth q_keptDepth q_keptSize q_keptPlace q_keptOn q_keptSticks m_isLawn m_lawns m_wetness m_strength m_days m_balls m_asks m_books m_pageLength m_faultAt m_savedSize m_savedPlace m_savedSticks m_bestSize m_bestFirst (r.2.1) m_isKept m_keptLawn m_keptBalls m_keptStrength m_keptDays m_h (r.2.2.1) m_kindOf (r.2.2.2.1) (r.2.2.2.2.1) m_onOf (r.2.2.2.2.2.1) m_page m_savedDepth (r.2.2.2.2.2.2.1) (r.2.2.2.2.2.2.2.1) (r.2.2.2.2.2.2.2.2.1) (r.2.2.2.2.2.2.2.2.2) m_keptDepth m_keptSize m_keptPlace m_keptOn m_keptSticks)) r) ((fun (r : Int32 × Int64 × (Nat → Int32) × (Nat → Int32) × (Nat → Int32) × (Nat → Int32) × (Nat → Int32) × (Nat → Int32) × (Nat → Int32) × (Nat → Int32)) => some (.int (r.1))) r) A) args s 0 0 A) (f_X8_gamesNow_h102 m_isLawn m_wetness m_strength m_balls m_kindOf m_onOf a1 a3 fu m_seedNow m_depthOf m_sizeOf m_placeOf m_sticksOf m_gameSize m_gamePlace m_gameSticks m_gameDepth x4 x5) (wM cI cC cB cQ kc mh q_depthOf q_kindOf q_sizeOf q_placeOf q_onOf q_sticksOf q_page q_savedDepth q_gameSize q_gamePlace q_gameSticks q_gameDepth q_keptDepth q_keptSize q_keptPlace q_keptOn q_keptSticks m_isLawn m_lawns m_wetness m_strength m_days m_balls m_asks m_books m_pageLength m_faultAt m_savedSize m_savedPlace m_savedSticks m_bestSize m_bestFirst m_seedNow m_isKept m_keptLawn m_keptBalls m_keptStrength m_keptDays m_h m_depthOf m_kindOf m_sizeOf m_placeOf m_onOf m_sticksOf m_page m_savedDepth m_gameSize m_gamePlace m_gameSticks m_gameDepth m_keptDepth m_keptSize m_keptPlace m_keptOn m_keptSticks) [(0, .ref mh), (1, .int a1), (3, .int a3), (4, .int x4), (5, .int x5)] 102 [] := by
    intro  fu
    induction fu with
    | zero =>
      intro m_seedNow m_depthOf m_sizeOf m_placeOf m_sticksOf m_gameSize m_gamePlace m_gameSticks m_gameDepth x4 x5
      rewrite [f_X8_gamesNow_h102]
      exact s_none
    | succ fu ih =>
      intro m_seedNow m_depthOf m_sizeOf m_placeOf m_sticksOf m_gameSize m_gamePlace m_gameSticks m_gameDepth x4 x5
      rewrite [f_X8_gamesNow_h102]
      refine s_iload K dX8_gamesNow_102 4 rfl ?_
      refine s_iload_n K dX8_gamesNow_104 rfl 1 rfl ?_
      refine s_icmp_ge (tgt := 153) K dX8_gamesNow_105 (by decide) (fun c_6 => ?_) (fun c_6 => ?_)
      · refine s_iload_n K dX8_gamesNow_153 rfl 2 rfl ?_
        refine s_if_ne (tgt := 164) K dX8_gamesNow_154 (by decide) (fun c_7 => ?_) (fun c_7 => ?_)
        · refine s_aload_n K dX8_gamesNow_157 rfl 0 rfl ?_
          refine s_bind (fun q hq_9 => ?_)
          obtain ⟨r_8, rfl⟩ : ∃ z, z = q := ⟨_, rfl⟩
          refine s_callV (w' := (wM cI cC cB cQ kc mh q_depthOf q_kindOf q_sizeOf q_placeOf q_onOf q_sticksOf q_page q_savedDepth q_gameSize q_gamePlace q_gameSticks q_gameDepth q_keptDepth q_keptSize q_keptPlace q_keptOn q_keptSticks m_isLawn m_lawns m_wetness m_strength m_days m_balls m_asks m_books m_pageLength m_faultAt m_savedSize m_savedPlace m_savedSticks m_bestSize m_bestFirst m_seedNow m_isKept m_keptLawn m_keptBalls m_keptStrength m_keptDays m_h m_depthOf m_kindOf m_sizeOf m_placeOf m_onOf m_sticksOf m_page m_savedDepth m_gameSize m_gamePlace m_gameSticks m_gameDepth m_keptDepth m_keptSize m_keptPlace m_keptOn m_keptSticks)) (rest := []) (st1 := [.int r_8]) K (c_X8_sizeAll mh q_depthOf q_kindOf q_sizeOf q_placeOf q_onOf q_sticksOf q_page q_savedDepth q_gameSize q_gamePlace q_gameSticks q_gameDepth q_keptDepth q_keptSize q_keptPlace q_keptOn q_keptSticks m_isLawn m_lawns m_wetness m_strength m_days m_balls m_asks m_books m_pageLength m_faultAt m_savedSize m_savedPlace m_savedSticks m_bestSize m_bestFirst m_seedNow m_isKept m_keptLawn m_keptBalls m_keptStrength m_keptDays m_h m_depthOf m_kindOf m_sizeOf m_placeOf m_onOf m_sticksOf m_page m_savedDepth m_gameSize m_gamePlace m_gameSticks m_gameDepth m_keptDepth m_keptSize m_keptPlace m_keptOn m_keptSticks hq_9) rfl hd_X8_sizeAll t_881 t_883 ts_35 t_10 t_884 ⟨(Nat.le_of_ble_eq_true rfl), (Nat.le_of_ble_eq_true rfl)⟩ ⟨rfl, rfl⟩ ⟨Nat.zero_le _, Nat.zero_le _⟩ (rv_o K 0 rfl rfl) [0, 1, 2, 3, 4, 5, 6, 7, 8, 9, 10, 11, 12, 13, 14, 15, 16, 17] [] [0, 1, 2, 3, 4, 5, 6, 7, 8, 9, 10, 11, 12, 13, 14, 15, 16, 17] rfl rfl rfl rfl (by decide) rfl rfl rfl rfl (Nat.le_of_ble_eq_true rfl) dX8_gamesNow_158 ?_
          refine s_goto (tgt := 191) K dX8_gamesNow_161 (by decide) ?_
          refine s_istore (lv' := [(5, .int r_8), (0, .ref mh), (1, .int a1), (3, .int a3), (4, .int x4)]) K dX8_gamesNow_191 (Nat.le_of_ble_eq_true rfl) rfl ?_
          refine s_iconst K dX8_gamesNow_193 kic_0 ?_
          refine s_istore (lv' := [(6, .int 0), (5, .int r_8), (0, .ref mh), (1, .int a1), (3, .int a3), (4, .int x4)]) K dX8_gamesNow_194 (Nat.le_of_ble_eq_true rfl) rfl ?_
          refine s_lv (lv' := [(0, .ref mh), (5, .int r_8), (6, .int 0)]) [2, 1, 0] rfl ?_
          exact L196 70 m_seedNow m_depthOf m_sizeOf m_placeOf m_sticksOf m_gameSize m_gamePlace m_gameSticks m_gameDepth r_8 0
        · refine s_iload_n K dX8_gamesNow_164 rfl 2 rfl ?_
          refine s_iconst K dX8_gamesNow_165 kic_1 ?_
          refine s_icmp_ne (tgt := 174) K dX8_gamesNow_166 (by decide) (fun c_10 => ?_) (fun c_10 => ?_)
          · refine s_iload K dX8_gamesNow_169 3 rfl ?_
            refine s_goto (tgt := 191) K dX8_gamesNow_171 (by decide) ?_
            refine s_istore (lv' := [(5, .int x4), (0, .ref mh), (1, .int a1), (3, .int a3), (4, .int x4)]) K dX8_gamesNow_191 (Nat.le_of_ble_eq_true rfl) rfl ?_
            refine s_iconst K dX8_gamesNow_193 kic_0 ?_
            refine s_istore (lv' := [(6, .int 0), (5, .int x4), (0, .ref mh), (1, .int a1), (3, .int a3), (4, .int x4)]) K dX8_gamesNow_194 (Nat.le_of_ble_eq_true rfl) rfl ?_
            refine s_lv (lv' := [(0, .ref mh), (5, .int x4), (6, .int 0)]) [2, 1, 0] rfl ?_
            exact L196 70 m_seedNow m_depthOf m_sizeOf m_placeOf m_sticksOf m_gameSize m_gamePlace m_gameSticks m_gameDepth x4 0
          · refine s_iload_n K dX8_gamesNow_174 rfl 2 rfl ?_
            refine s_iconst K dX8_gamesNow_175 kic_2 ?_
            refine s_icmp_ne (tgt := 186) K dX8_gamesNow_176 (by decide) (fun c_11 => ?_) (fun c_11 => ?_)
            · refine s_aload_n K dX8_gamesNow_179 rfl 0 rfl ?_
              refine s_bind (fun q hq_13 => ?_)
              obtain ⟨r_12, rfl⟩ : ∃ z, z = q := ⟨_, rfl⟩
              refine s_callV (w' := (wM cI cC cB cQ kc mh q_depthOf q_kindOf q_sizeOf q_placeOf q_onOf q_sticksOf q_page q_savedDepth q_gameSize q_gamePlace q_gameSticks q_gameDepth q_keptDepth q_keptSize q_keptPlace q_keptOn q_keptSticks m_isLawn m_lawns m_wetness m_strength m_days m_balls m_asks m_books m_pageLength m_faultAt m_savedSize m_savedPlace m_savedSticks m_bestSize m_bestFirst m_seedNow m_isKept m_keptLawn m_keptBalls m_keptStrength m_keptDays m_h m_depthOf m_kindOf m_sizeOf m_placeOf m_onOf m_sticksOf m_page m_savedDepth m_gameSize m_gamePlace m_gameSticks m_gameDepth m_keptDepth m_keptSize m_keptPlace m_keptOn m_keptSticks)) (rest := []) (st1 := [.int r_12]) K (c_X8_depthAll mh q_depthOf q_kindOf q_sizeOf q_placeOf q_onOf q_sticksOf q_page q_savedDepth q_gameSize q_gamePlace q_gameSticks q_gameDepth q_keptDepth q_keptSize q_keptPlace q_keptOn q_keptSticks m_isLawn m_lawns m_wetness m_strength m_days m_balls m_asks m_books m_pageLength m_faultAt m_savedSize m_savedPlace m_savedSticks m_bestSize m_bestFirst m_seedNow m_isKept m_keptLawn m_keptBalls m_keptStrength m_keptDays m_h m_depthOf m_kindOf m_sizeOf m_placeOf m_onOf m_sticksOf m_page m_savedDepth m_gameSize m_gamePlace m_gameSticks m_gameDepth m_keptDepth m_keptSize m_keptPlace m_keptOn m_keptSticks hq_13) rfl hd_X8_depthAll t_695 t_697 ts_9 t_10 t_698 ⟨(Nat.le_of_ble_eq_true rfl), (Nat.le_of_ble_eq_true rfl)⟩ ⟨rfl, rfl⟩ ⟨Nat.zero_le _, Nat.zero_le _⟩ (rv_o K 0 rfl rfl) [0, 1, 2, 3, 4, 5, 6, 7, 8, 9, 10, 11, 12, 13, 14, 15, 16, 17] [] [0, 1, 2, 3, 4, 5, 6, 7, 8, 9, 10, 11, 12, 13, 14, 15, 16, 17] rfl rfl rfl rfl (by decide) rfl rfl rfl rfl (Nat.le_of_ble_eq_true rfl) dX8_gamesNow_180 ?_
              refine s_goto (tgt := 191) K dX8_gamesNow_183 (by decide) ?_
              refine s_istore (lv' := [(5, .int r_12), (0, .ref mh), (1, .int a1), (3, .int a3), (4, .int x4)]) K dX8_gamesNow_191 (Nat.le_of_ble_eq_true rfl) rfl ?_
              refine s_iconst K dX8_gamesNow_193 kic_0 ?_
              refine s_istore (lv' := [(6, .int 0), (5, .int r_12), (0, .ref mh), (1, .int a1), (3, .int a3), (4, .int x4)]) K dX8_gamesNow_194 (Nat.le_of_ble_eq_true rfl) rfl ?_
              refine s_lv (lv' := [(0, .ref mh), (5, .int r_12), (6, .int 0)]) [2, 1, 0] rfl ?_
              exact L196 70 m_seedNow m_depthOf m_sizeOf m_placeOf m_sticksOf m_gameSize m_gamePlace m_gameSticks m_gameDepth r_12 0
            · refine s_aload_n K dX8_gamesNow_186 rfl 0 rfl ?_
              refine s_get K 0 rfl rfl inT8 23 (Nat.le_of_ble_eq_true rfl) t_576 rfl rfl dX8_gamesNow_187 ?_
              refine s_l2i K dX8_gamesNow_190 ?_
              refine s_istore (lv' := [(5, .int (Int64.toInt32 m_seedNow)), (0, .ref mh), (1, .int a1), (3, .int a3), (4, .int x4)]) K dX8_gamesNow_191 (Nat.le_of_ble_eq_true rfl) rfl ?_
              refine s_iconst K dX8_gamesNow_193 kic_0 ?_
              refine s_istore (lv' := [(6, .int 0), (5, .int (Int64.toInt32 m_seedNow)), (0, .ref mh), (1, .int a1), (3, .int a3), (4, .int x4)]) K dX8_gamesNow_194 (Nat.le_of_ble_eq_true rfl) rfl ?_
              refine s_lv (lv' := [(0, .ref mh), (5, .int (Int64.toInt32 m_seedNow)), (6, .int 0)]) [2, 1, 0] rfl ?_
              exact L196 70 m_seedNow m_depthOf m_sizeOf m_placeOf m_sticksOf m_gameSize m_gamePlace m_gameSticks m_gameDepth (Int64.toInt32 m_seedNow) 0
      · refine s_aload_n K dX8_gamesNow_108 rfl 0 rfl ?_
        refine s_aload_n K dX8_gamesNow_109 rfl 0 rfl ?_
        refine s_get K 0 rfl rfl inT8 6 (Nat.le_of_ble_eq_true rfl) t_559 rfl rfl dX8_gamesNow_110 ?_
        refine s_bind (fun q hq_16 => ?_)
        obtain ⟨r_14, m_seedNow_15⟩ := q
        refine s_callV (w' := (wM cI cC cB cQ kc mh q_depthOf q_kindOf q_sizeOf q_placeOf q_onOf q_sticksOf q_page q_savedDepth q_gameSize q_gamePlace q_gameSticks q_gameDepth q_keptDepth q_keptSize q_keptPlace q_keptOn q_keptSticks m_isLawn m_lawns m_wetness m_strength m_days m_balls m_asks m_books m_pageLength m_faultAt m_savedSize m_savedPlace m_savedSticks m_bestSize m_bestFirst m_seedNow_15 m_isKept m_keptLawn m_keptBalls m_keptStrength m_keptDays m_h m_depthOf m_kindOf m_sizeOf m_placeOf m_onOf m_sticksOf m_page m_savedDepth m_gameSize m_gamePlace m_gameSticks m_gameDepth m_keptDepth m_keptSize m_keptPlace m_keptOn m_keptSticks)) (rest := []) (st1 := [.int r_14]) K (c_X8_draw mh q_depthOf q_kindOf q_sizeOf q_placeOf q_onOf q_sticksOf q_page q_savedDepth q_gameSize q_gamePlace q_gameSticks q_gameDepth q_keptDepth q_keptSize q_keptPlace q_keptOn q_keptSticks m_isLawn m_lawns m_wetness m_strength m_days m_balls m_asks m_books m_pageLength m_faultAt m_savedSize m_savedPlace m_savedSticks m_bestSize m_bestFirst m_seedNow m_isKept m_keptLawn m_keptBalls m_keptStrength m_keptDays m_h m_depthOf m_kindOf m_sizeOf m_placeOf m_onOf m_sticksOf m_page m_savedDepth m_gameSize m_gamePlace m_gameSticks m_gameDepth m_keptDepth m_keptSize m_keptPlace m_keptOn m_keptSticks m_balls hq_16) rfl hd_X8_draw t_873 t_875 ts_34 t_10 t_876 ⟨(Nat.le_of_ble_eq_true rfl), (Nat.le_of_ble_eq_true rfl)⟩ ⟨rfl, rfl⟩ ⟨Nat.zero_le _, Nat.zero_le _⟩ (rv_o K 0 rfl rfl) [0, 1, 2, 3, 4, 5, 6, 7, 8, 9, 10, 11, 12, 13, 14, 15, 16, 17] [] [0, 1, 2, 3, 4, 5, 6, 7, 8, 9, 10, 11, 12, 13, 14, 15, 16, 17] rfl rfl rfl rfl (by decide) rfl rfl rfl rfl (Nat.le_of_ble_eq_true rfl) dX8_gamesNow_113 ?_
        refine s_istore (lv' := [(6, .int r_14), (0, .ref mh), (1, .int a1), (3, .int a3), (4, .int x4), (5, .int x5)]) K dX8_gamesNow_116 (Nat.le_of_ble_eq_true rfl) rfl ?_
        refine s_aload_n K dX8_gamesNow_118 rfl 1 rfl ?_
        refine s_iconst K dX8_gamesNow_119 kic_4 ?_
        refine s_bind (fun q hq_19 => ?_)
        obtain ⟨r_17, m_seedNow_18⟩ := q
        refine s_callV (w' := (wM cI cC cB cQ kc mh q_depthOf q_kindOf q_sizeOf q_placeOf q_onOf q_sticksOf q_page q_savedDepth q_gameSize q_gamePlace q_gameSticks q_gameDepth q_keptDepth q_keptSize q_keptPlace q_keptOn q_keptSticks m_isLawn m_lawns m_wetness m_strength m_days m_balls m_asks m_books m_pageLength m_faultAt m_savedSize m_savedPlace m_savedSticks m_bestSize m_bestFirst m_seedNow_18 m_isKept m_keptLawn m_keptBalls m_keptStrength m_keptDays m_h m_depthOf m_kindOf m_sizeOf m_placeOf m_onOf m_sticksOf m_page m_savedDepth m_gameSize m_gamePlace m_gameSticks m_gameDepth m_keptDepth m_keptSize m_keptPlace m_keptOn m_keptSticks)) (rest := []) (st1 := [.int r_17]) K (c_X8_draw mh q_depthOf q_kindOf q_sizeOf q_placeOf q_onOf q_sticksOf q_page q_savedDepth q_gameSize q_gamePlace q_gameSticks q_gameDepth q_keptDepth q_keptSize q_keptPlace q_keptOn q_keptSticks m_isLawn m_lawns m_wetness m_strength m_days m_balls m_asks m_books m_pageLength m_faultAt m_savedSize m_savedPlace m_savedSticks m_bestSize m_bestFirst m_seedNow_15 m_isKept m_keptLawn m_keptBalls m_keptStrength m_keptDays m_h m_depthOf m_kindOf m_sizeOf m_placeOf m_onOf m_sticksOf m_page m_savedDepth m_gameSize m_gamePlace m_gameSticks m_gameDepth m_keptDepth m_keptSize m_keptPlace m_keptOn m_keptSticks 4 hq_19) rfl hd_X8_draw t_873 t_875 ts_34 t_10 t_876 ⟨(Nat.le_of_ble_eq_true rfl), (Nat.le_of_ble_eq_true rfl)⟩ ⟨rfl, rfl⟩ ⟨Nat.zero_le _, Nat.zero_le _⟩ (rv_o K 0 rfl rfl) [0, 1, 2, 3, 4, 5, 6, 7, 8, 9, 10, 11, 12, 13, 14, 15, 16, 17] [] [0, 1, 2, 3, 4, 5, 6, 7, 8, 9, 10, 11, 12, 13, 14, 15, 16, 17] rfl rfl rfl rfl (by decide) rfl rfl rfl rfl (Nat.le_of_ble_eq_true rfl) dX8_gamesNow_120 ?_
        refine s_istore (lv' := [(7, .int r_17), (6, .int r_14), (0, .ref mh), (1, .int a1), (3, .int a3), (4, .int x4), (5, .int x5)]) K dX8_gamesNow_123 (Nat.le_of_ble_eq_true rfl) rfl ?_
        refine s_aload_n K dX8_gamesNow_125 rfl 2 rfl ?_
        refine s_iload K dX8_gamesNow_126 1 rfl ?_
        refine s_iload K dX8_gamesNow_128 0 rfl ?_
        refine s_bind (fun q hq_21 => ?_)
        obtain ⟨r_20, rfl⟩ : ∃ z, z = q := ⟨_, rfl⟩
        refine s_callV (w' := (wM cI cC cB cQ kc mh q_depthOf q_kindOf q_sizeOf q_placeOf q_onOf q_sticksOf q_page q_savedDepth q_gameSize q_gamePlace q_gameSticks q_gameDepth q_keptDepth q_keptSize q_keptPlace q_keptOn q_keptSticks m_isLawn m_lawns m_wetness m_strength m_days m_balls m_asks m_books m_pageLength m_faultAt m_savedSize m_savedPlace m_savedSticks m_bestSize m_bestFirst m_seedNow_18 m_isKept m_keptLawn m_keptBalls m_keptStrength m_keptDays m_h m_depthOf m_kindOf m_sizeOf m_placeOf m_onOf m_sticksOf m_page m_savedDepth m_gameSize m_gamePlace m_gameSticks m_gameDepth m_keptDepth m_keptSize m_keptPlace m_keptOn m_keptSticks)) (rest := []) (st1 := [.int r_20]) K (c_X8_mayRoll mh q_depthOf q_kindOf q_sizeOf q_placeOf q_onOf q_sticksOf q_page q_savedDepth q_gameSize q_gamePlace q_gameSticks q_gameDepth q_keptDepth q_keptSize q_keptPlace q_keptOn q_keptSticks m_isLawn m_lawns m_wetness m_strength m_days m_balls m_asks m_books m_pageLength m_faultAt m_savedSize m_savedPlace m_savedSticks m_bestSize m_bestFirst m_seedNow_18 m_isKept m_keptLawn m_keptBalls m_keptStrength m_keptDays m_h m_depthOf m_kindOf m_sizeOf m_placeOf m_onOf m_sticksOf m_page m_savedDepth m_gameSize m_gamePlace m_gameSticks m_gameDepth m_keptDepth m_keptSize m_keptPlace m_keptOn m_keptSticks r_14 r_17 hq_21) rfl hd_X8_mayRoll t_757 t_759 ts_17 t_10 t_760 ⟨(Nat.le_of_ble_eq_true rfl), (Nat.le_of_ble_eq_true rfl)⟩ ⟨rfl, rfl⟩ ⟨Nat.zero_le _, Nat.zero_le _⟩ (rv_o K 0 rfl rfl) [0, 1, 2, 3, 4, 5, 6, 7, 8, 9, 10, 11, 12, 13, 14, 15, 16, 17] [] [0, 1, 2, 3, 4, 5, 6, 7, 8, 9, 10, 11, 12, 13, 14, 15, 16, 17] rfl rfl rfl rfl (by decide) rfl rfl rfl rfl (Nat.le_of_ble_eq_true rfl) dX8_gamesNow_130 ?_
        refine s_if_eq (tgt := 147) K dX8_gamesNow_133 (by decide) (fun c_22 => ?_) (fun c_22 => ?_)
        · refine s_iinc (lv' := [(5, .int (x5 + 1)), (7, .int r_17), (6, .int r_14), (0, .ref mh), (1, .int a1), (3, .int a3), (4, .int x4)]) K dX8_gamesNow_147 6 rfl (kii_1 _) (Nat.le_of_ble_eq_true rfl) rfl ?_
          refine s_goto (tgt := 102) K dX8_gamesNow_150 (by decide) ?_
          refine s_lv (lv' := [(0, .ref mh), (1, .int a1), (3, .int a3), (4, .int x4), (5, .int (x5 + 1))]) [3, 4, 5, 6, 0] rfl ?_
          exact ih m_seedNow_18 m_depthOf m_sizeOf m_placeOf m_sticksOf m_gameSize m_gamePlace m_gameSticks m_gameDepth x4 (x5 + 1)
        · refine s_aload_n K dX8_gamesNow_136 rfl 2 rfl ?_
          refine s_iload K dX8_gamesNow_137 1 rfl ?_
          refine s_iload K dX8_gamesNow_139 0 rfl ?_
          refine s_bind (fun q hq_27 => ?_)
          obtain ⟨m_depthOf_23, m_sizeOf_24, m_placeOf_25, m_sticksOf_26⟩ := q
          refine s_callV (w' := (wM cI cC cB cQ kc mh q_depthOf q_kindOf q_sizeOf q_placeOf q_onOf q_sticksOf q_page q_savedDepth q_gameSize q_gamePlace q_gameSticks q_gameDepth q_keptDepth q_keptSize q_keptPlace q_keptOn q_keptSticks m_isLawn m_lawns m_wetness m_strength m_days m_balls m_asks m_books m_pageLength m_faultAt m_savedSize m_savedPlace m_savedSticks m_bestSize m_bestFirst m_seedNow_18 m_isKept m_keptLawn m_keptBalls m_keptStrength m_keptDays m_h m_depthOf_23 m_kindOf m_sizeOf_24 m_placeOf_25 m_onOf m_sticksOf_26 m_page m_savedDepth m_gameSize m_gamePlace m_gameSticks m_gameDepth m_keptDepth m_keptSize m_keptPlace m_keptOn m_keptSticks)) (rest := []) (st1 := []) K (c_X8_doRoll mh q_depthOf q_kindOf q_sizeOf q_placeOf q_onOf q_sticksOf q_page q_savedDepth q_gameSize q_gamePlace q_gameSticks q_gameDepth q_keptDepth q_keptSize q_keptPlace q_keptOn q_keptSticks m_isLawn m_lawns m_wetness m_strength m_days m_balls m_asks m_books m_pageLength m_faultAt m_savedSize m_savedPlace m_savedSticks m_bestSize m_bestFirst m_seedNow_18 m_isKept m_keptLawn m_keptBalls m_keptStrength m_keptDays m_h m_depthOf m_kindOf m_sizeOf m_placeOf m_onOf m_sticksOf m_page m_savedDepth m_gameSize m_gamePlace m_gameSticks m_gameDepth m_keptDepth m_keptSize m_keptPlace m_keptOn m_keptSticks r_14 r_17 hq_27) rfl hd_X8_doRoll t_776 t_778 ts_20 t_10 t_779 ⟨(Nat.le_of_ble_eq_true rfl), (Nat.le_of_ble_eq_true rfl)⟩ ⟨rfl, rfl⟩ ⟨Nat.zero_le _, Nat.zero_le _⟩ (rv_o K 0 rfl rfl) [0, 1, 2, 3, 4, 5, 6, 7, 8, 9, 10, 11, 12, 13, 14, 15, 16, 17] [] [0, 1, 2, 3, 4, 5, 6, 7, 8, 9, 10, 11, 12, 13, 14, 15, 16, 17] rfl rfl rfl rfl (by decide) rfl rfl rfl rfl (Nat.le_of_ble_eq_true rfl) dX8_gamesNow_141 ?_
          refine s_iinc (lv' := [(4, .int (x4 + 1)), (7, .int r_17), (6, .int r_14), (0, .ref mh), (1, .int a1), (3, .int a3), (5, .int x5)]) K dX8_gamesNow_144 5 rfl (kii_1 _) (Nat.le_of_ble_eq_true rfl) rfl ?_
          refine s_iinc (lv' := [(5, .int (x5 + 1)), (4, .int (x4 + 1)), (7, .int r_17), (6, .int r_14), (0, .ref mh), (1, .int a1), (3, .int a3)]) K dX8_gamesNow_147 6 rfl (kii_1 _) (Nat.le_of_ble_eq_true rfl) rfl ?_
          refine s_goto (tgt := 102) K dX8_gamesNow_150 (by decide) ?_
          refine s_lv (lv' := [(0, .ref mh), (1, .int a1), (3, .int a3), (4, .int (x4 + 1)), (5, .int (x5 + 1))]) [4, 5, 6, 1, 0] rfl ?_
          exact ih m_seedNow_18 m_depthOf_23 m_sizeOf_24 m_placeOf_25 m_sticksOf_26 m_gameSize m_gamePlace m_gameSticks m_gameDepth (x4 + 1) (x5 + 1)
  have L33 : ∀ (fu : Nat) (m_gameSize m_gamePlace m_gameSticks m_gameDepth : Nat → Int32) (x4 : Int32), Sw (ρ := Int32 × Int64 × (Nat → Int32) × (Nat → Int32) × (Nat → Int32) × (Nat → Int32) × (Nat → Int32) × (Nat → Int32) × (Nat → Int32) × (Nat → Int32)) p l e ({ frames := 4, cells := 0, slots := 0, locals := 228 } : Room) s m args below meth c 0 0 D A 8 (fun r => MQ below (CQ D ((fun (r : Int32 × Int64 × (Nat → Int32) × (Nat → Int32) × (Nat → Int32) × (Nat → Int32) × (Nat → Int32) × (Nat → Int32) × (Nat → Int32) × (Nat → Int32)) => (wM cI cC cB cQ kc mh q_depthOf q_kindOf q_sizeOf q_placeOf q_onOf q_sticksOf q_page q_savedDepth q_gameSize q_gamePlace q_gameSticks q_gameDepth q_keptDepth q_keptSize q_keptPlace q_keptOn q_keptSticks m_isLawn m_lawns m_wetness m_strength m_days m_balls m_asks m_books m_pageLength m_faultAt m_savedSize m_savedPlace m_savedSticks m_bestSize m_bestFirst (r.2.1) m_isKept m_keptLawn m_keptBalls m_keptStrength m_keptDays m_h (r.2.2.1) m_kindOf (r.2.2.2.1) (r.2.2.2.2.1) m_onOf (r.2.2.2.2.2.1) m_page m_savedDepth (r.2.2.2.2.2.2.1) (r.2.2.2.2.2.2.2.1) (r.2.2.2.2.2.2.2.2.1) (r.2.2.2.2.2.2.2.2.2) m_keptDepth m_keptSize m_keptPlace m_keptOn m_keptSticks)) r) ((fun (r : Int32 × Int64 × (Nat → Int32) × (Nat → Int32) × (Nat → Int32) × (Nat → Int32) × (Nat → Int32) × (Nat → Int32) × (Nat → Int32) × (Nat → Int32)) => some (.int (r.1))) r) A) args s 0 0 A) (f_X8_gamesNow_h33 m_isLawn m_wetness m_strength m_balls m_depthOf m_kindOf m_sizeOf m_placeOf m_onOf m_sticksOf a1 a2 a3 fu m_gameSize m_gamePlace m_gameSticks m_gameDepth x4) (wM cI cC cB cQ kc mh q_depthOf q_kindOf q_sizeOf q_placeOf q_onOf q_sticksOf q_page q_savedDepth q_gameSize q_gamePlace q_gameSticks q_gameDepth q_keptDepth q_keptSize q_keptPlace q_keptOn q_keptSticks m_isLawn m_lawns m_wetness m_strength m_days m_balls m_asks m_books m_pageLength m_faultAt m_savedSize m_savedPlace m_savedSticks m_bestSize m_bestFirst m_seedNow m_isKept m_keptLawn m_keptBalls m_keptStrength m_keptDays m_h m_depthOf m_kindOf m_sizeOf m_placeOf m_onOf m_sticksOf m_page m_savedDepth m_gameSize m_gamePlace m_gameSticks m_gameDepth m_keptDepth m_keptSize m_keptPlace m_keptOn m_keptSticks) [(0, .ref mh), (1, .int a1), (2, .int a2), (3, .int a3), (4, .int x4)] 33 [] := by
    intro  fu
    induction fu with
    | zero =>
      intro m_gameSize m_gamePlace m_gameSticks m_gameDepth x4
      rewrite [f_X8_gamesNow_h33]
      exact s_none
    | succ fu ih =>
      intro m_gameSize m_gamePlace m_gameSticks m_gameDepth x4
      rewrite [f_X8_gamesNow_h33]
      refine s_iload K dX8_gamesNow_33 4 rfl ?_
      refine s_aload_n K dX8_gamesNow_35 rfl 0 rfl ?_
      refine s_get K 0 rfl rfl inT8 6 (Nat.le_of_ble_eq_true rfl) t_559 rfl rfl dX8_gamesNow_36 ?_
      refine s_icmp_ge (tgt := 90) K dX8_gamesNow_39 (by decide) (fun c_3 => ?_) (fun c_3 => ?_)
      · refine s_aload_n K dX8_gamesNow_90 rfl 0 rfl ?_
        refine s_iload_n K dX8_gamesNow_91 rfl 2 rfl ?_
        refine s_i2l K dX8_gamesNow_92 ?_
        refine s_put (w' := (wM cI cC cB cQ kc mh q_depthOf q_kindOf q_sizeOf q_placeOf q_onOf q_sticksOf q_page q_savedDepth q_gameSize q_gamePlace q_gameSticks q_gameDepth q_keptDepth q_keptSize q_keptPlace q_keptOn q_keptSticks m_isLawn m_lawns m_wetness m_strength m_days m_balls m_asks m_books m_pageLength m_faultAt m_savedSize m_savedPlace m_savedSticks m_bestSize m_bestFirst (Int32.toInt64 a2) m_isKept m_keptLawn m_keptBalls m_keptStrength m_keptDays m_h m_depthOf m_kindOf m_sizeOf m_placeOf m_onOf m_sticksOf m_page m_savedDepth m_gameSize m_gamePlace m_gameSticks m_gameDepth m_keptDepth m_keptSize m_keptPlace m_keptOn m_keptSticks)) K 0 rfl rfl inT8 tyX8_ok nmX8 23 (Nat.le_of_ble_eq_true rfl) t_576 rfl rfl rfl rfl (Nat.le_of_ble_eq_true rfl) rfl dX8_gamesNow_93 ?_
        refine s_iconst K dX8_gamesNow_96 kic_0 ?_
        refine s_istore (lv' := [(4, .int 0), (0, .ref mh), (1, .int a1), (2, .int a2), (3, .int a3)]) K dX8_gamesNow_97 (Nat.le_of_ble_eq_true rfl) rfl ?_
        refine s_iconst K dX8_gamesNow_99 kic_0 ?_
        refine s_istore (lv' := [(5, .int 0), (4, .int 0), (0, .ref mh), (1, .int a1), (2, .int a2), (3, .int a3)]) K dX8_gamesNow_100 (Nat.le_of_ble_eq_true rfl) rfl ?_
        refine s_lv (lv' := [(0, .ref mh), (1, .int a1), (3, .int a3), (4, .int 0), (5, .int 0)]) [2, 3, 5, 1, 0] rfl ?_
        exact L102 70 (Int32.toInt64 a2) m_depthOf m_sizeOf m_placeOf m_sticksOf m_gameSize m_gamePlace m_gameSticks m_gameDepth 0 0
      · refine s_aload_n K dX8_gamesNow_42 rfl 0 rfl ?_
        refine s_get K 0 rfl rfl inT8 24 (Nat.le_of_ble_eq_true rfl) t_577 rfl rfl dX8_gamesNow_43 ?_
        refine s_iload K dX8_gamesNow_46 4 rfl ?_
        refine s_aload_n K dX8_gamesNow_48 rfl 0 rfl ?_
        refine s_get K 0 rfl rfl inT8 8 (Nat.le_of_ble_eq_true rfl) t_561 rfl rfl dX8_gamesNow_49 ?_
        refine s_iload K dX8_gamesNow_52 4 rfl ?_
        refine s_ck (fun ho_4 => ?_)
        refine s_iald K 3 0 rfl rfl (ok_in ho_4) rfl dX8_gamesNow_54 ?_
        refine s_ck (fun ho_5 => ?_)
        refine s_iast (w' := (wM cI cC cB cQ kc mh q_depthOf q_kindOf q_sizeOf q_placeOf q_onOf q_sticksOf q_page q_savedDepth q_gameSize q_gamePlace q_gameSticks q_gameDepth q_keptDepth q_keptSize q_keptPlace q_keptOn q_keptSticks m_isLawn m_lawns m_wetness m_strength m_days m_balls m_asks m_books m_pageLength m_faultAt m_savedSize m_savedPlace m_savedSticks m_bestSize m_bestFirst m_seedNow m_isKept m_keptLawn m_keptBalls m_keptStrength m_keptDays m_h m_depthOf m_kindOf m_sizeOf m_placeOf m_onOf m_sticksOf m_page m_savedDepth (upd m_gameSize (Int32.toNatClampNeg x4) (m_sizeOf (Int32.toNatClampNeg x4))) m_gamePlace m_gameSticks m_gameDepth m_keptDepth m_keptSize m_keptPlace m_keptOn m_keptSticks)) K 9 0 rfl rfl (ok_in ho_5) rfl rfl dX8_gamesNow_55 ?_
        refine s_aload_n K dX8_gamesNow_56 rfl 0 rfl ?_
        refine s_get K 0 rfl rfl inT8 25 (Nat.le_of_ble_eq_true rfl) t_578 rfl rfl dX8_gamesNow_57 ?_
        refine s_iload K dX8_gamesNow_60 4 rfl ?_
        refine s_aload_n K dX8_gamesNow_62 rfl 0 rfl ?_
        refine s_get K 0 rfl rfl inT8 9 (Nat.le_of_ble_eq_true rfl) t_562 rfl rfl dX8_gamesNow_63 ?_
        refine s_iload K dX8_gamesNow_66 4 rfl ?_
        refine s_iald K 4 0 rfl rfl (ok_in ho_4) rfl dX8_gamesNow_68 ?_
        refine s_iast (w' := (wM cI cC cB cQ kc mh q_depthOf q_kindOf q_sizeOf q_placeOf q_onOf q_sticksOf q_page q_savedDepth q_gameSize q_gamePlace q_gameSticks q_gameDepth q_keptDepth q_keptSize q_keptPlace q_keptOn q_keptSticks m_isLawn m_lawns m_wetness m_strength m_days m_balls m_asks m_books m_pageLength m_faultAt m_savedSize m_savedPlace m_savedSticks m_bestSize m_bestFirst m_seedNow m_isKept m_keptLawn m_keptBalls m_keptStrength m_keptDays m_h m_depthOf m_kindOf m_sizeOf m_placeOf m_onOf m_sticksOf m_page m_savedDepth (upd m_gameSize (Int32.toNatClampNeg x4) (m_sizeOf (Int32.toNatClampNeg x4))) (upd m_gamePlace (Int32.toNatClampNeg x4) (m_placeOf (Int32.toNatClampNeg x4))) m_gameSticks m_gameDepth m_keptDepth m_keptSize m_keptPlace m_keptOn m_keptSticks)) K 10 0 rfl rfl (ok_in ho_5) rfl rfl dX8_gamesNow_69 ?_
        refine s_aload_n K dX8_gamesNow_70 rfl 0 rfl ?_
        refine s_get K 0 rfl rfl inT8 26 (Nat.le_of_ble_eq_true rfl) t_579 rfl rfl dX8_gamesNow_71 ?_
        refine s_iload K dX8_gamesNow_74 4 rfl ?_
        refine s_aload_n K dX8_gamesNow_76 rfl 0 rfl ?_
        refine s_get K 0 rfl rfl inT8 11 (Nat.le_of_ble_eq_true rfl) t_564 rfl rfl dX8_gamesNow_77 ?_
        refine s_iload K dX8_gamesNow_80 4 rfl ?_
        refine s_iald K 6 0 rfl rfl (ok_in ho_4) rfl dX8_gamesNow_82 ?_
        refine s_iast (w' := (wM cI cC cB cQ kc mh q_depthOf q_kindOf q_sizeOf q_placeOf q_onOf q_sticksOf q_page q_savedDepth q_gameSize q_gamePlace q_gameSticks q_gameDepth q_keptDepth q_keptSize q_keptPlace q_keptOn q_keptSticks m_isLawn m_lawns m_wetness m_strength m_days m_balls m_asks m_books m_pageLength m_faultAt m_savedSize m_savedPlace m_savedSticks m_bestSize m_bestFirst m_seedNow m_isKept m_keptLawn m_keptBalls m_keptStrength m_keptDays m_h m_depthOf m_kindOf m_sizeOf m_placeOf m_onOf m_sticksOf m_page m_savedDepth (upd m_gameSize (Int32.toNatClampNeg x4) (m_sizeOf (Int32.toNatClampNeg x4))) (upd m_gamePlace (Int32.toNatClampNeg x4) (m_placeOf (Int32.toNatClampNeg x4))) (upd m_gameSticks (Int32.toNatClampNeg x4) (m_sticksOf (Int32.toNatClampNeg x4))) m_gameDepth m_keptDepth m_keptSize m_keptPlace m_keptOn m_keptSticks)) K 11 0 rfl rfl (ok_in ho_5) rfl rfl dX8_gamesNow_83 ?_
        refine s_iinc (lv' := [(4, .int (x4 + 1)), (0, .ref mh), (1, .int a1), (2, .int a2), (3, .int a3)]) K dX8_gamesNow_84 4 rfl (kii_1 _) (Nat.le_of_ble_eq_true rfl) rfl ?_
        refine s_goto (tgt := 33) K dX8_gamesNow_87 (by decide) ?_
        refine s_lv (lv' := [(0, .ref mh), (1, .int a1), (2, .int a2), (3, .int a3), (4, .int (x4 + 1))]) [1, 2, 3, 4, 0] rfl ?_
        exact ih (upd m_gameSize (Int32.toNatClampNeg x4) (m_sizeOf (Int32.toNatClampNeg x4))) (upd m_gamePlace (Int32.toNatClampNeg x4) (m_placeOf (Int32.toNatClampNeg x4))) (upd m_gameSticks (Int32.toNatClampNeg x4) (m_sticksOf (Int32.toNatClampNeg x4))) m_gameDepth (x4 + 1)
  have L3 : ∀ (fu : Nat) (m_gameDepth : Nat → Int32) (x4 : Int32), Sw (ρ := Int32 × Int64 × (Nat → Int32) × (Nat → Int32) × (Nat → Int32) × (Nat → Int32) × (Nat → Int32) × (Nat → Int32) × (Nat → Int32) × (Nat → Int32)) p l e ({ frames := 4, cells := 0, slots := 0, locals := 228 } : Room) s m args below meth c 0 0 D A 8 (fun r => MQ below (CQ D ((fun (r : Int32 × Int64 × (Nat → Int32) × (Nat → Int32) × (Nat → Int32) × (Nat → Int32) × (Nat → Int32) × (Nat → Int32) × (Nat → Int32) × (Nat → Int32)) => (wM cI cC cB cQ kc mh q_depthOf q_kindOf q_sizeOf q_placeOf q_onOf q_sticksOf q_page q_savedDepth q_gameSize q_gamePlace q_gameSticks q_gameDepth q_keptDepth q_keptSize q_keptPlace q_keptOn q_keptSticks m_isLawn m_lawns m_wetness m_strength m_days m_balls m_asks m_books m_pageLength m_faultAt m_savedSize m_savedPlace m_savedSticks m_bestSize m_bestFirst (r.2.1) m_isKept m_keptLawn m_keptBalls m_keptStrength m_keptDays m_h (r.2.2.1) m_kindOf (r.2.2.2.1) (r.2.2.2.2.1) m_onOf (r.2.2.2.2.2.1) m_page m_savedDepth (r.2.2.2.2.2.2.1) (r.2.2.2.2.2.2.2.1) (r.2.2.2.2.2.2.2.2.1) (r.2.2.2.2.2.2.2.2.2) m_keptDepth m_keptSize m_keptPlace m_keptOn m_keptSticks)) r) ((fun (r : Int32 × Int64 × (Nat → Int32) × (Nat → Int32) × (Nat → Int32) × (Nat → Int32) × (Nat → Int32) × (Nat → Int32) × (Nat → Int32) × (Nat → Int32)) => some (.int (r.1))) r) A) args s 0 0 A) (f_X8_gamesNow_h3 m_isLawn m_wetness m_strength m_balls m_depthOf m_kindOf m_sizeOf m_placeOf m_onOf m_sticksOf m_gameSize m_gamePlace m_gameSticks a1 a2 a3 fu m_gameDepth x4) (wM cI cC cB cQ kc mh q_depthOf q_kindOf q_sizeOf q_placeOf q_onOf q_sticksOf q_page q_savedDepth q_gameSize q_gamePlace q_gameSticks q_gameDepth q_keptDepth q_keptSize q_keptPlace q_keptOn q_keptSticks m_isLawn m_lawns m_wetness m_strength m_days m_balls m_asks m_books m_pageLength m_faultAt m_savedSize m_savedPlace m_savedSticks m_bestSize m_bestFirst m_seedNow m_isKept m_keptLawn m_keptBalls m_keptStrength m_keptDays m_h m_depthOf m_kindOf m_sizeOf m_placeOf m_onOf m_sticksOf m_page m_savedDepth m_gameSize m_gamePlace m_gameSticks m_gameDepth m_keptDepth m_keptSize m_keptPlace m_keptOn m_keptSticks) [(0, .ref mh), (1, .int a1), (2, .int a2), (3, .int a3), (4, .int x4)] 3 [] := by
    intro  fu
    induction fu with
    | zero =>
      intro m_gameDepth x4
      rewrite [f_X8_gamesNow_h3]
      exact s_none
    | succ fu ih =>
      intro m_gameDepth x4
      rewrite [f_X8_gamesNow_h3]
      refine s_iload K dX8_gamesNow_3 4 rfl ?_
      refine s_bipush K dX8_gamesNow_5 kib_20 ?_
      refine s_icmp_ge (tgt := 30) K dX8_gamesNow_7 (by decide) (fun c_1 => ?_) (fun c_1 => ?_)
      · refine s_iconst K dX8_gamesNow_30 kic_0 ?_
        refine s_istore (lv' := [(4, .int 0), (0, .ref mh), (1, .int a1), (2, .int a2), (3, .int a3)]) K dX8_gamesNow_31 (Nat.le_of_ble_eq_true rfl) rfl ?_
        refine s_lv (lv' := [(0, .ref mh), (1, .int a1), (2, .int a2), (3, .int a3), (4, .int 0)]) [1, 2, 3, 4, 0] rfl ?_
        exact L33 70 m_gameSize m_gamePlace m_gameSticks m_gameDepth 0
      · refine s_aload_n K dX8_gamesNow_10 rfl 0 rfl ?_
        refine s_get K 0 rfl rfl inT8 27 (Nat.le_of_ble_eq_true rfl) t_580 rfl rfl dX8_gamesNow_11 ?_
        refine s_iload K dX8_gamesNow_14 4 rfl ?_
        refine s_aload_n K dX8_gamesNow_16 rfl 0 rfl ?_
        refine s_get K 0 rfl rfl inT8 2 (Nat.le_of_ble_eq_true rfl) t_555 rfl rfl dX8_gamesNow_17 ?_
        refine s_iload K dX8_gamesNow_20 4 rfl ?_
        refine s_ck (fun ho_2 => ?_)
        refine s_iald K 1 0 rfl rfl (ok_in ho_2) rfl dX8_gamesNow_22 ?_
        refine s_iast (w' := (wM cI cC cB cQ kc mh q_depthOf q_kindOf q_sizeOf q_placeOf q_onOf q_sticksOf q_page q_savedDepth q_gameSize q_gamePlace q_gameSticks q_gameDepth q_keptDepth q_keptSize q_keptPlace q_keptOn q_keptSticks m_isLawn m_lawns m_wetness m_strength m_days m_balls m_asks m_books m_pageLength m_faultAt m_savedSize m_savedPlace m_savedSticks m_bestSize m_bestFirst m_seedNow m_isKept m_keptLawn m_keptBalls m_keptStrength m_keptDays m_h m_depthOf m_kindOf m_sizeOf m_placeOf m_onOf m_sticksOf m_page m_savedDepth m_gameSize m_gamePlace m_gameSticks (upd m_gameDepth (Int32.toNatClampNeg x4) (m_depthOf (Int32.toNatClampNeg x4))) m_keptDepth m_keptSize m_keptPlace m_keptOn m_keptSticks)) K 12 0 rfl rfl (ok_in ho_2) rfl rfl dX8_gamesNow_23 ?_
        refine s_iinc (lv' := [(4, .int (x4 + 1)), (0, .ref mh), (1, .int a1), (2, .int a2), (3, .int a3)]) K dX8_gamesNow_24 4 rfl (kii_1 _) (Nat.le_of_ble_eq_true rfl) rfl ?_
        refine s_goto (tgt := 3) K dX8_gamesNow_27 (by decide) ?_
        refine s_lv (lv' := [(0, .ref mh), (1, .int a1), (2, .int a2), (3, .int a3), (4, .int (x4 + 1))]) [1, 2, 3, 4, 0] rfl ?_
        exact ih (upd m_gameDepth (Int32.toNatClampNeg x4) (m_depthOf (Int32.toNatClampNeg x4))) (x4 + 1)
  rewrite [f_X8_gamesNow]
  refine s_iconst K dX8_gamesNow_0 kic_0 ?_
  refine s_istore (lv' := [(4, .int 0), (0, .ref mh), (1, .int a1), (2, .int a2), (3, .int a3)]) K dX8_gamesNow_1 (Nat.le_of_ble_eq_true rfl) rfl ?_
  refine s_lv (lv' := [(0, .ref mh), (1, .int a1), (2, .int a2), (3, .int a3), (4, .int 0)]) [1, 2, 3, 4, 0] rfl ?_
  exact L3 70 m_gameDepth 0
set_option maxHeartbeats 4000000 in
set_option maxRecDepth 100000 in
theorem c_X8_games {l : Launch} {D : va_G} {cI cC cB cQ : ClassId} {kc : Nat → Nat} {kt : Nat} (mh q_depthOf q_kindOf q_sizeOf q_placeOf q_onOf q_sticksOf q_page q_savedDepth q_gameSize q_gamePlace q_gameSticks q_gameDepth q_keptDepth q_keptSize q_keptPlace q_keptOn q_keptSticks : Nat) (m_isLawn m_lawns m_wetness m_strength m_days m_balls m_asks m_books m_pageLength m_faultAt m_savedSize m_savedPlace m_savedSticks m_bestSize m_bestFirst : Int32) (m_seedNow : Int64) (m_isKept m_keptLawn m_keptBalls m_keptStrength m_keptDays : Int32) (m_h : Int64) (m_depthOf m_kindOf m_sizeOf m_placeOf m_onOf m_sticksOf m_page m_savedDepth m_gameSize m_gamePlace m_gameSticks m_gameDepth m_keptDepth m_keptSize m_keptPlace m_keptOn m_keptSticks : Nat → Int32) (a1 a2 a3 : Int32) {r : Int32 × Int64 × (Nat → Int32) × (Nat → Int32) × (Nat → Int32) × (Nat → Int32) × (Nat → Int32) × (Nat → Int32) × (Nat → Int32) × (Nat → Int32)} (hF : f_X8_games m_isLawn m_wetness m_strength m_balls m_seedNow m_depthOf m_kindOf m_sizeOf m_placeOf m_onOf m_sticksOf m_gameSize m_gamePlace m_gameSticks m_gameDepth a1 a2 a3 = some r) : CT l D (tysOf cI cC cB cQ) kc kt yX8_games cX8_games 4 (some .int) ({ frames := 5, cells := 0, slots := 0, locals := 295 } : Room) [.ref mh, .int a1, .int a2, .int a3] (wM cI cC cB cQ kc mh q_depthOf q_kindOf q_sizeOf q_placeOf q_onOf q_sticksOf q_page q_savedDepth q_gameSize q_gamePlace q_gameSticks q_gameDepth q_keptDepth q_keptSize q_keptPlace q_keptOn q_keptSticks m_isLawn m_lawns m_wetness m_strength m_days m_balls m_asks m_books m_pageLength m_faultAt m_savedSize m_savedPlace m_savedSticks m_bestSize m_bestFirst m_seedNow m_isKept m_keptLawn m_keptBalls m_keptStrength m_keptDays m_h m_depthOf m_kindOf m_sizeOf m_placeOf m_onOf m_sticksOf m_page m_savedDepth m_gameSize m_gamePlace m_gameSticks m_gameDepth m_keptDepth m_keptSize m_keptPlace m_keptOn m_keptSticks) ((fun (r : Int32 × Int64 × (Nat → Int32) × (Nat → Int32) × (Nat → Int32) × (Nat → Int32) × (Nat → Int32) × (Nat → Int32) × (Nat → Int32) × (Nat → Int32)) => (wM cI cC cB cQ kc mh q_depthOf q_kindOf q_sizeOf q_placeOf q_onOf q_sticksOf q_page q_savedDepth q_gameSize q_gamePlace q_gameSticks q_gameDepth q_keptDepth q_keptSize q_keptPlace q_keptOn q_keptSticks m_isLawn m_lawns m_wetness m_strength m_days m_balls m_asks m_books m_pageLength m_faultAt m_savedSize m_savedPlace m_savedSticks m_bestSize m_bestFirst (r.2.1) m_isKept m_keptLawn m_keptBalls m_keptStrength m_keptDays m_h (r.2.2.1) m_kindOf (r.2.2.2.1) (r.2.2.2.2.1) m_onOf (r.2.2.2.2.2.1) m_page m_savedDepth (r.2.2.2.2.2.2.1) (r.2.2.2.2.2.2.2.1) (r.2.2.2.2.2.2.2.2.1) (r.2.2.2.2.2.2.2.2.2) m_keptDepth m_keptSize m_keptPlace m_keptOn m_keptSticks)) r) ((fun (r : Int32 × Int64 × (Nat → Int32) × (Nat → Int32) × (Nat → Int32) × (Nat → Int32) × (Nat → Int32) × (Nat → Int32) × (Nat → Int32) × (Nat → Int32)) => some (.int (r.1))) r) := by
  refine CT.of (ww := (fun (r : Int32 × Int64 × (Nat → Int32) × (Nat → Int32) × (Nat → Int32) × (Nat → Int32) × (Nat → Int32) × (Nat → Int32) × (Nat → Int32) × (Nat → Int32)) => (wM cI cC cB cQ kc mh q_depthOf q_kindOf q_sizeOf q_placeOf q_onOf q_sticksOf q_page q_savedDepth q_gameSize q_gamePlace q_gameSticks q_gameDepth q_keptDepth q_keptSize q_keptPlace q_keptOn q_keptSticks m_isLawn m_lawns m_wetness m_strength m_days m_balls m_asks m_books m_pageLength m_faultAt m_savedSize m_savedPlace m_savedSticks m_bestSize m_bestFirst (r.2.1) m_isKept m_keptLawn m_keptBalls m_keptStrength m_keptDays m_h (r.2.2.1) m_kindOf (r.2.2.2.1) (r.2.2.2.2.1) m_onOf (r.2.2.2.2.2.1) m_page m_savedDepth (r.2.2.2.2.2.2.1) (r.2.2.2.2.2.2.2.1) (r.2.2.2.2.2.2.2.2.1) (r.2.2.2.2.2.2.2.2.2) m_keptDepth m_keptSize m_keptPlace m_keptOn m_keptSticks))) (oo := (fun (r : Int32 × Int64 × (Nat → Int32) × (Nat → Int32) × (Nat → Int32) × (Nat → Int32) × (Nat → Int32) × (Nat → Int32) × (Nat → Int32) × (Nat → Int32)) => some (.int (r.1)))) hF RX8 rfl rfl (Nat.le_of_ble_eq_true rfl) ?_
  intro p e s m args below meth c A K hret hlk
  rewrite [f_X8_games]
  refine s_iload_n K dX8_games_0 rfl 1 rfl ?_
  refine s_iconst K dX8_games_1 kic_1 ?_
  refine s_bipush K dX8_games_2 kib_60 ?_
  refine s_bind (fun q hq_2 => ?_)
  obtain ⟨r_1, rfl⟩ : ∃ z, z = q := ⟨_, rfl⟩
  refine s_callS0 (rest := []) (st1 := [.int r_1]) K (c_X8_within a1 1 60 hq_2) hd_X8_within t_676 t_677 t_10 t_678 ⟨(Nat.le_of_ble_eq_true rfl), (Nat.le_of_ble_eq_true rfl)⟩ ⟨rfl, rfl⟩ ⟨Nat.zero_le _, Nat.zero_le _⟩ rfl rfl (Nat.le_of_ble_eq_true rfl) dX8_games_4 ?_
  refine s_if_eq (tgt := 23) K dX8_games_7 (by decide) (fun c_3 => ?_) (fun c_3 => ?_)
  · refine s_bipush K dX8_games_23 kib_m102 ?_
    exact s_iret K hret hlk rfl rfl dX8_games_25
  · refine s_iload_n K dX8_games_10 rfl 2 rfl ?_
    refine s_if_lt (tgt := 23) K dX8_games_11 (by decide) (fun c_4 => ?_) (fun c_4 => ?_)
    · refine s_bipush K dX8_games_23 kib_m102 ?_
      exact s_iret K hret hlk rfl rfl dX8_games_25
    · refine s_iload_n K dX8_games_14 rfl 3 rfl ?_
      refine s_iconst K dX8_games_15 kic_0 ?_
      refine s_iconst K dX8_games_16 kic_3 ?_
      refine s_bind (fun q hq_6 => ?_)
      obtain ⟨r_5, rfl⟩ : ∃ z, z = q := ⟨_, rfl⟩
      refine s_callS0 (rest := []) (st1 := [.int r_5]) K (c_X8_within a3 0 3 hq_6) hd_X8_within t_676 t_677 t_10 t_678 ⟨(Nat.le_of_ble_eq_true rfl), (Nat.le_of_ble_eq_true rfl)⟩ ⟨rfl, rfl⟩ ⟨Nat.zero_le _, Nat.zero_le _⟩ rfl rfl (Nat.le_of_ble_eq_true rfl) dX8_games_17 ?_
      refine s_if_ne (tgt := 26) K dX8_games_20 (by decide) (fun c_7 => ?_) (fun c_7 => ?_)
      · refine s_bipush K dX8_games_23 kib_m102 ?_
        exact s_iret K hret hlk rfl rfl dX8_games_25
      · refine s_aload_n K dX8_games_26 rfl 0 rfl ?_
        refine s_get K 0 rfl rfl inT8 0 (Nat.le_of_ble_eq_true rfl) t_553 rfl rfl dX8_games_27 ?_
        refine s_if_eq (tgt := 50) K dX8_games_30 (by decide) (fun c_8 => ?_) (fun c_8 => ?_)
        · refine s_bipush K dX8_games_50 kib_m103 ?_
          exact s_iret K hret hlk rfl rfl dX8_games_52
        · refine s_aload_n K dX8_games_33 rfl 0 rfl ?_
          refine s_get K 0 rfl rfl inT8 6 (Nat.le_of_ble_eq_true rfl) t_559 rfl rfl dX8_games_34 ?_
          refine s_if_le (tgt := 50) K dX8_games_37 (by decide) (fun c_9 => ?_) (fun c_9 => ?_)
          · refine s_bipush K dX8_games_50 kib_m103 ?_
            exact s_iret K hret hlk rfl rfl dX8_games_52
          · refine s_aload_n K dX8_games_40 rfl 0 rfl ?_
            refine s_iload_n K dX8_games_41 rfl 1 rfl ?_
            refine s_iload_n K dX8_games_42 rfl 2 rfl ?_
            refine s_iload_n K dX8_games_43 rfl 3 rfl ?_
            refine s_bind (fun q hq_20 => ?_)
            obtain ⟨r_10, m_seedNow_11, m_depthOf_12, m_sizeOf_13, m_placeOf_14, m_sticksOf_15, m_gameSize_16, m_gamePlace_17, m_gameSticks_18, m_gameDepth_19⟩ := q
            refine s_callV (w' := (wM cI cC cB cQ kc mh q_depthOf q_kindOf q_sizeOf q_placeOf q_onOf q_sticksOf q_page q_savedDepth q_gameSize q_gamePlace q_gameSticks q_gameDepth q_keptDepth q_keptSize q_keptPlace q_keptOn q_keptSticks m_isLawn m_lawns m_wetness m_strength m_days m_balls m_asks m_books m_pageLength m_faultAt m_savedSize m_savedPlace m_savedSticks m_bestSize m_bestFirst m_seedNow_11 m_isKept m_keptLawn m_keptBalls m_keptStrength m_keptDays m_h m_depthOf_12 m_kindOf m_sizeOf_13 m_placeOf_14 m_onOf m_sticksOf_15 m_page m_savedDepth m_gameSize_16 m_gamePlace_17 m_gameSticks_18 m_gameDepth_19 m_keptDepth m_keptSize m_keptPlace m_keptOn m_keptSticks)) (rest := []) (st1 := [.int r_10]) K (c_X8_gamesNow mh q_depthOf q_kindOf q_sizeOf q_placeOf q_onOf q_sticksOf q_page q_savedDepth q_gameSize q_gamePlace q_gameSticks q_gameDepth q_keptDepth q_keptSize q_keptPlace q_keptOn q_keptSticks m_isLawn m_lawns m_wetness m_strength m_days m_balls m_asks m_books m_pageLength m_faultAt m_savedSize m_savedPlace m_savedSticks m_bestSize m_bestFirst m_seedNow m_isKept m_keptLawn m_keptBalls m_keptStrength m_keptDays m_h m_depthOf m_kindOf m_sizeOf m_placeOf m_onOf m_sticksOf m_page m_savedDepth m_gameSize m_gamePlace m_gameSticks m_gameDepth m_keptDepth m_keptSize m_keptPlace m_keptOn m_keptSticks a1 a2 a3 hq_20) rfl hd_X8_gamesNow t_869 t_871 ts_33 t_10 t_872 ⟨(Nat.le_of_ble_eq_true rfl), (Nat.le_of_ble_eq_true rfl)⟩ ⟨rfl, rfl⟩ ⟨Nat.zero_le _, Nat.zero_le _⟩ (rv_o K 0 rfl rfl) [0, 1, 2, 3, 4, 5, 6, 7, 8, 9, 10, 11, 12, 13, 14, 15, 16, 17] [] [0, 1, 2, 3, 4, 5, 6, 7, 8, 9, 10, 11, 12, 13, 14, 15, 16, 17] rfl rfl rfl rfl (by decide) rfl rfl rfl rfl (Nat.le_of_ble_eq_true rfl) dX8_games_44 ?_
            refine s_goto (tgt := 52) K dX8_games_47 (by decide) ?_
            exact s_iret K hret hlk rfl rfl dX8_games_52
set_option maxHeartbeats 4000000 in
set_option maxRecDepth 100000 in
theorem c_X8_image {l : Launch} {D : va_G} {cI cC cB cQ : ClassId} {kc : Nat → Nat} {kt : Nat} (mh q_depthOf q_kindOf q_sizeOf q_placeOf q_onOf q_sticksOf q_page q_savedDepth q_gameSize q_gamePlace q_gameSticks q_gameDepth q_keptDepth q_keptSize q_keptPlace q_keptOn q_keptSticks : Nat) (m_isLawn m_lawns m_wetness m_strength m_days m_balls m_asks m_books m_pageLength m_faultAt m_savedSize m_savedPlace m_savedSticks m_bestSize m_bestFirst : Int32) (m_seedNow : Int64) (m_isKept m_keptLawn m_keptBalls m_keptStrength m_keptDays : Int32) (m_h : Int64) (m_depthOf m_kindOf m_sizeOf m_placeOf m_onOf m_sticksOf m_page m_savedDepth m_gameSize m_gamePlace m_gameSticks m_gameDepth m_keptDepth m_keptSize m_keptPlace m_keptOn m_keptSticks : Nat → Int32) {r : Int32 × Int32 × Int32 × Int32 × Int32 × Int32 × (Nat → Int32) × (Nat → Int32) × (Nat → Int32) × (Nat → Int32) × (Nat → Int32)} (hF : f_X8_image m_isLawn m_lawns m_strength m_days m_balls m_isKept m_keptLawn m_keptBalls m_keptStrength m_keptDays m_depthOf m_sizeOf m_placeOf m_onOf m_sticksOf m_keptDepth m_keptSize m_keptPlace m_keptOn m_keptSticks = some r) : CT l D (tysOf cI cC cB cQ) kc kt yX8_image cX8_image 2 (some .int) ({ frames := 1, cells := 0, slots := 0, locals := 40 } : Room) [.ref mh] (wM cI cC cB cQ kc mh q_depthOf q_kindOf q_sizeOf q_placeOf q_onOf q_sticksOf q_page q_savedDepth q_gameSize q_gamePlace q_gameSticks q_gameDepth q_keptDepth q_keptSize q_keptPlace q_keptOn q_keptSticks m_isLawn m_lawns m_wetness m_strength m_days m_balls m_asks m_books m_pageLength m_faultAt m_savedSize m_savedPlace m_savedSticks m_bestSize m_bestFirst m_seedNow m_isKept m_keptLawn m_keptBalls m_keptStrength m_keptDays m_h m_depthOf m_kindOf m_sizeOf m_placeOf m_onOf m_sticksOf m_page m_savedDepth m_gameSize m_gamePlace m_gameSticks m_gameDepth m_keptDepth m_keptSize m_keptPlace m_keptOn m_keptSticks) ((fun (r : Int32 × Int32 × Int32 × Int32 × Int32 × Int32 × (Nat → Int32) × (Nat → Int32) × (Nat → Int32) × (Nat → Int32) × (Nat → Int32)) => (wM cI cC cB cQ kc mh q_depthOf q_kindOf q_sizeOf q_placeOf q_onOf q_sticksOf q_page q_savedDepth q_gameSize q_gamePlace q_gameSticks q_gameDepth q_keptDepth q_keptSize q_keptPlace q_keptOn q_keptSticks m_isLawn m_lawns m_wetness m_strength m_days m_balls m_asks m_books m_pageLength m_faultAt m_savedSize m_savedPlace m_savedSticks m_bestSize m_bestFirst m_seedNow (r.2.1) (r.2.2.1) (r.2.2.2.1) (r.2.2.2.2.1) (r.2.2.2.2.2.1) m_h m_depthOf m_kindOf m_sizeOf m_placeOf m_onOf m_sticksOf m_page m_savedDepth m_gameSize m_gamePlace m_gameSticks m_gameDepth (r.2.2.2.2.2.2.1) (r.2.2.2.2.2.2.2.1) (r.2.2.2.2.2.2.2.2.1) (r.2.2.2.2.2.2.2.2.2.1) (r.2.2.2.2.2.2.2.2.2.2))) r) ((fun (r : Int32 × Int32 × Int32 × Int32 × Int32 × Int32 × (Nat → Int32) × (Nat → Int32) × (Nat → Int32) × (Nat → Int32) × (Nat → Int32)) => some (.int (r.1))) r) := by
  refine CT.of (ww := (fun (r : Int32 × Int32 × Int32 × Int32 × Int32 × Int32 × (Nat → Int32) × (Nat → Int32) × (Nat → Int32) × (Nat → Int32) × (Nat → Int32)) => (wM cI cC cB cQ kc mh q_depthOf q_kindOf q_sizeOf q_placeOf q_onOf q_sticksOf q_page q_savedDepth q_gameSize q_gamePlace q_gameSticks q_gameDepth q_keptDepth q_keptSize q_keptPlace q_keptOn q_keptSticks m_isLawn m_lawns m_wetness m_strength m_days m_balls m_asks m_books m_pageLength m_faultAt m_savedSize m_savedPlace m_savedSticks m_bestSize m_bestFirst m_seedNow (r.2.1) (r.2.2.1) (r.2.2.2.1) (r.2.2.2.2.1) (r.2.2.2.2.2.1) m_h m_depthOf m_kindOf m_sizeOf m_placeOf m_onOf m_sticksOf m_page m_savedDepth m_gameSize m_gamePlace m_gameSticks m_gameDepth (r.2.2.2.2.2.2.1) (r.2.2.2.2.2.2.2.1) (r.2.2.2.2.2.2.2.2.1) (r.2.2.2.2.2.2.2.2.2.1) (r.2.2.2.2.2.2.2.2.2.2)))) (oo := (fun (r : Int32 × Int32 × Int32 × Int32 × Int32 × Int32 × (Nat → Int32) × (Nat → Int32) × (Nat → Int32) × (Nat → Int32) × (Nat → Int32)) => some (.int (r.1)))) hF RX8 rfl rfl (Nat.le_of_ble_eq_true rfl) ?_
  intro p e s m args below meth c A K hret hlk
  have L75 : ∀ (fu : Nat) (m_isKept m_keptLawn m_keptBalls m_keptStrength m_keptDays : Int32) (m_keptDepth m_keptSize m_keptPlace m_keptOn m_keptSticks : Nat → Int32) (x1 : Int32), Sw (ρ := Int32 × Int32 × Int32 × Int32 × Int32 × Int32 × (Nat → Int32) × (Nat → Int32) × (Nat → Int32) × (Nat → Int32) × (Nat → Int32)) p l e ({ frames := 1, cells := 0, slots := 0, locals := 40 } : Room) s m args below meth c 0 0 D A 2 (fun r => MQ below (CQ D ((fun (r : Int32 × Int32 × Int32 × Int32 × Int32 × Int32 × (Nat → Int32) × (Nat → Int32) × (Nat → Int32) × (Nat → Int32) × (Nat → Int32)) => (wM cI cC cB cQ kc mh q_depthOf q_kindOf q_sizeOf q_placeOf q_onOf q_sticksOf q_page q_savedDepth q_gameSize q_gamePlace q_gameSticks q_gameDepth q_keptDepth q_keptSize q_keptPlace q_keptOn q_keptSticks m_isLawn m_lawns m_wetness m_strength m_days m_balls m_asks m_books m_pageLength m_faultAt m_savedSize m_savedPlace m_savedSticks m_bestSize m_bestFirst m_seedNow (r.2.1) (r.2.2.1) (r.2.2.2.1) (r.2.2.2.2.1) (r.2.2.2.2.2.1) m_h m_depthOf m_kindOf m_sizeOf m_placeOf m_onOf m_sticksOf m_page m_savedDepth m_gameSize m_gamePlace m_gameSticks m_gameDepth (r.2.2.2.2.2.2.1) (r.2.2.2.2.2.2.2.1) (r.2.2.2.2.2.2.2.2.1) (r.2.2.2.2.2.2.2.2.2.1) (r.2.2.2.2.2.2.2.2.2.2))) r) ((fun (r : Int32 × Int32 × Int32 × Int32 × Int32 × Int32 × (Nat → Int32) × (Nat → Int32) × (Nat → Int32) × (Nat → Int32) × (Nat → Int32)) => some (.int (r.1))) r) A) args s 0 0 A) (f_X8_image_h75 m_balls m_sizeOf m_placeOf m_onOf m_sticksOf fu m_isKept m_keptLawn m_keptBalls m_keptStrength m_keptDays m_keptDepth m_keptSize m_keptPlace m_keptOn m_keptSticks x1) (wM cI cC cB cQ kc mh q_depthOf q_kindOf q_sizeOf q_placeOf q_onOf q_sticksOf q_page q_savedDepth q_gameSize q_gamePlace q_gameSticks q_gameDepth q_keptDepth q_keptSize q_keptPlace q_keptOn q_keptSticks m_isLawn m_lawns m_wetness m_strength m_days m_balls m_asks m_books m_pageLength m_faultAt m_savedSize m_savedPlace m_savedSticks m_bestSize m_bestFirst m_seedNow m_isKept m_keptLawn m_keptBalls m_keptStrength m_keptDays m_h m_depthOf m_kindOf m_sizeOf m_placeOf m_onOf m_sticksOf m_page m_savedDepth m_gameSize m_gamePlace m_gameSticks m_gameDepth m_keptDepth m_keptSize m_keptPlace m_keptOn m_keptSticks) [(0, .ref mh), (1, .int x1)] 75 [] := by
    intro  fu
    induction fu with
    | zero =>
      intro m_isKept m_keptLawn m_keptBalls m_keptStrength m_keptDays m_keptDepth m_keptSize m_keptPlace m_keptOn m_keptSticks x1
      rewrite [f_X8_image_h75]
      exact s_none
    | succ fu ih =>
      intro m_isKept m_keptLawn m_keptBalls m_keptStrength m_keptDays m_keptDepth m_keptSize m_keptPlace m_keptOn m_keptSticks x1
      rewrite [f_X8_image_h75]
      refine s_iload_n K dX8_image_75 rfl 1 rfl ?_
      refine s_iconst K dX8_image_76 kic_4 ?_
      refine s_icmp_ge (tgt := 134) K dX8_image_77 (by decide) (fun c_4 => ?_) (fun c_4 => ?_)
      · refine s_aload_n K dX8_image_134 rfl 0 rfl ?_
        refine s_get K 0 rfl rfl inT8 6 (Nat.le_of_ble_eq_true rfl) t_559 rfl rfl dX8_image_135 ?_
        exact s_iret K hret hlk rfl rfl dX8_image_138
      · refine s_aload_n K dX8_image_80 rfl 0 rfl ?_
        refine s_get K 0 rfl rfl inT8 34 (Nat.le_of_ble_eq_true rfl) t_587 rfl rfl dX8_image_81 ?_
        refine s_iload_n K dX8_image_84 rfl 1 rfl ?_
        refine s_aload_n K dX8_image_85 rfl 0 rfl ?_
        refine s_get K 0 rfl rfl inT8 8 (Nat.le_of_ble_eq_true rfl) t_561 rfl rfl dX8_image_86 ?_
        refine s_iload_n K dX8_image_89 rfl 1 rfl ?_
        refine s_ck (fun ho_5 => ?_)
        refine s_iald K 3 0 rfl rfl (ok_in ho_5) rfl dX8_image_90 ?_
        refine s_ck (fun ho_6 => ?_)
        refine s_iast (w' := (wM cI cC cB cQ kc mh q_depthOf q_kindOf q_sizeOf q_placeOf q_onOf q_sticksOf q_page q_savedDepth q_gameSize q_gamePlace q_gameSticks q_gameDepth q_keptDepth q_keptSize q_keptPlace q_keptOn q_keptSticks m_isLawn m_lawns m_wetness m_strength m_days m_balls m_asks m_books m_pageLength m_faultAt m_savedSize m_savedPlace m_savedSticks m_bestSize m_bestFirst m_seedNow m_isKept m_keptLawn m_keptBalls m_keptStrength m_keptDays m_h m_depthOf m_kindOf m_sizeOf m_placeOf m_onOf m_sticksOf m_page m_savedDepth m_gameSize m_gamePlace m_gameSticks m_gameDepth m_keptDepth (upd m_keptSize (Int32.toNatClampNeg x1) (m_sizeOf (Int32.toNatClampNeg x1))) m_keptPlace m_keptOn m_keptSticks)) K 14 0 rfl rfl (ok_in ho_6) rfl rfl dX8_image_91 ?_
        refine s_aload_n K dX8_image_92 rfl 0 rfl ?_
        refine s_get K 0 rfl rfl inT8 35 (Nat.le_of_ble_eq_true rfl) t_588 rfl rfl dX8_image_93 ?_
        refine s_iload_n K dX8_image_96 rfl 1 rfl ?_
        refine s_aload_n K dX8_image_97 rfl 0 rfl ?_
        refine s_get K 0 rfl rfl inT8 9 (Nat.le_of_ble_eq_true rfl) t_562 rfl rfl dX8_image_98 ?_
        refine s_iload_n K dX8_image_101 rfl 1 rfl ?_
        refine s_iald K 4 0 rfl rfl (ok_in ho_5) rfl dX8_image_102 ?_
        refine s_iast (w' := (wM cI cC cB cQ kc mh q_depthOf q_kindOf q_sizeOf q_placeOf q_onOf q_sticksOf q_page q_savedDepth q_gameSize q_gamePlace q_gameSticks q_gameDepth q_keptDepth q_keptSize q_keptPlace q_keptOn q_keptSticks m_isLawn m_lawns m_wetness m_strength m_days m_balls m_asks m_books m_pageLength m_faultAt m_savedSize m_savedPlace m_savedSticks m_bestSize m_bestFirst m_seedNow m_isKept m_keptLawn m_keptBalls m_keptStrength m_keptDays m_h m_depthOf m_kindOf m_sizeOf m_placeOf m_onOf m_sticksOf m_page m_savedDepth m_gameSize m_gamePlace m_gameSticks m_gameDepth m_keptDepth (upd m_keptSize (Int32.toNatClampNeg x1) (m_sizeOf (Int32.toNatClampNeg x1))) (upd m_keptPlace (Int32.toNatClampNeg x1) (m_placeOf (Int32.toNatClampNeg x1))) m_keptOn m_keptSticks)) K 15 0 rfl rfl (ok_in ho_6) rfl rfl dX8_image_103 ?_
        refine s_aload_n K dX8_image_104 rfl 0 rfl ?_
        refine s_get K 0 rfl rfl inT8 36 (Nat.le_of_ble_eq_true rfl) t_589 rfl rfl dX8_image_105 ?_
        refine s_iload_n K dX8_image_108 rfl 1 rfl ?_
        refine s_aload_n K dX8_image_109 rfl 0 rfl ?_
        refine s_get K 0 rfl rfl inT8 10 (Nat.le_of_ble_eq_true rfl) t_563 rfl rfl dX8_image_110 ?_
        refine s_iload_n K dX8_image_113 rfl 1 rfl ?_
        refine s_iald K 5 0 rfl rfl (ok_in ho_5) rfl dX8_image_114 ?_
        refine s_iast (w' := (wM cI cC cB cQ kc mh q_depthOf q_kindOf q_sizeOf q_placeOf q_onOf q_sticksOf q_page q_savedDepth q_gameSize q_gamePlace q_gameSticks q_gameDepth q_keptDepth q_keptSize q_keptPlace q_keptOn q_keptSticks m_isLawn m_lawns m_wetness m_strength m_days m_balls m_asks m_books m_pageLength m_faultAt m_savedSize m_savedPlace m_savedSticks m_bestSize m_bestFirst m_seedNow m_isKept m_keptLawn m_keptBalls m_keptStrength m_keptDays m_h m_depthOf m_kindOf m_sizeOf m_placeOf m_onOf m_sticksOf m_page m_savedDepth m_gameSize m_gamePlace m_gameSticks m_gameDepth m_keptDepth (upd m_keptSize (Int32.toNatClampNeg x1) (m_sizeOf (Int32.toNatClampNeg x1))) (upd m_keptPlace (Int32.toNatClampNeg x1) (m_placeOf (Int32.toNatClampNeg x1))) (upd m_keptOn (Int32.toNatClampNeg x1) (m_onOf (Int32.toNatClampNeg x1))) m_keptSticks)) K 16 0 rfl rfl (ok_in ho_6) rfl rfl dX8_image_115 ?_
        refine s_aload_n K dX8_image_116 rfl 0 rfl ?_
        refine s_get K 0 rfl rfl inT8 37 (Nat.le_of_ble_eq_true rfl) t_590 rfl rfl dX8_image_117 ?_
        refine s_iload_n K dX8_image_120 rfl 1 rfl ?_
        refine s_aload_n K dX8_image_121 rfl 0 rfl ?_
        refine s_get K 0 rfl rfl inT8 11 (Nat.le_of_ble_eq_true rfl) t_564 rfl rfl dX8_image_122 ?_
        refine s_iload_n K dX8_image_125 rfl 1 rfl ?_
        refine s_iald K 6 0 rfl rfl (ok_in ho_5) rfl dX8_image_126 ?_
        refine s_iast (w' := (wM cI cC cB cQ kc mh q_depthOf q_kindOf q_sizeOf q_placeOf q_onOf q_sticksOf q_page q_savedDepth q_gameSize q_gamePlace q_gameSticks q_gameDepth q_keptDepth q_keptSize q_keptPlace q_keptOn q_keptSticks m_isLawn m_lawns m_wetness m_strength m_days m_balls m_asks m_books m_pageLength m_faultAt m_savedSize m_savedPlace m_savedSticks m_bestSize m_bestFirst m_seedNow m_isKept m_keptLawn m_keptBalls m_keptStrength m_keptDays m_h m_depthOf m_kindOf m_sizeOf m_placeOf m_onOf m_sticksOf m_page m_savedDepth m_gameSize m_gamePlace m_gameSticks m_gameDepth m_keptDepth (upd m_keptSize (Int32.toNatClampNeg x1) (m_sizeOf (Int32.toNatClampNeg x1))) (upd m_keptPlace (Int32.toNatClampNeg x1) (m_placeOf (Int32.toNatClampNeg x1))) (upd m_keptOn (Int32.toNatClampNeg x1) (m_onOf (Int32.toNatClampNeg x1))) (upd m_keptSticks (Int32.toNatClampNeg x1) (m_sticksOf (Int32.toNatClampNeg x1))))) K 17 0 rfl rfl (ok_in ho_6) rfl rfl dX8_image_127 ?_
        refine s_iinc (lv' := [(1, .int (x1 + 1)), (0, .ref mh)]) K dX8_image_128 1 rfl (kii_1 _) (Nat.le_of_ble_eq_true rfl) rfl ?_
        refine s_goto (tgt := 75) K dX8_image_131 (by decide) ?_
        refine s_lv (lv' := [(0, .ref mh), (1, .int (x1 + 1))]) [1, 0] rfl ?_
        exact ih m_isKept m_keptLawn m_keptBalls m_keptStrength m_keptDays m_keptDepth (upd m_keptSize (Int32.toNatClampNeg x1) (m_sizeOf (Int32.toNatClampNeg x1))) (upd m_keptPlace (Int32.toNatClampNeg x1) (m_placeOf (Int32.toNatClampNeg x1))) (upd m_keptOn (Int32.toNatClampNeg x1) (m_onOf (Int32.toNatClampNeg x1))) (upd m_keptSticks (Int32.toNatClampNeg x1) (m_sticksOf (Int32.toNatClampNeg x1))) (x1 + 1)
  have L49 : ∀ (fu : Nat) (m_isKept m_keptLawn m_keptBalls m_keptStrength m_keptDays : Int32) (m_keptDepth : Nat → Int32) (x1 : Int32), Sw (ρ := Int32 × Int32 × Int32 × Int32 × Int32 × Int32 × (Nat → Int32) × (Nat → Int32) × (Nat → Int32) × (Nat → Int32) × (Nat → Int32)) p l e ({ frames := 1, cells := 0, slots := 0, locals := 40 } : Room) s m args below meth c 0 0 D A 2 (fun r => MQ below (CQ D ((fun (r : Int32 × Int32 × Int32 × Int32 × Int32 × Int32 × (Nat → Int32) × (Nat → Int32) × (Nat → Int32) × (Nat → Int32) × (Nat → Int32)) => (wM cI cC cB cQ kc mh q_depthOf q_kindOf q_sizeOf q_placeOf q_onOf q_sticksOf q_page q_savedDepth q_gameSize q_gamePlace q_gameSticks q_gameDepth q_keptDepth q_keptSize q_keptPlace q_keptOn q_keptSticks m_isLawn m_lawns m_wetness m_strength m_days m_balls m_asks m_books m_pageLength m_faultAt m_savedSize m_savedPlace m_savedSticks m_bestSize m_bestFirst m_seedNow (r.2.1) (r.2.2.1) (r.2.2.2.1) (r.2.2.2.2.1) (r.2.2.2.2.2.1) m_h m_depthOf m_kindOf m_sizeOf m_placeOf m_onOf m_sticksOf m_page m_savedDepth m_gameSize m_gamePlace m_gameSticks m_gameDepth (r.2.2.2.2.2.2.1) (r.2.2.2.2.2.2.2.1) (r.2.2.2.2.2.2.2.2.1) (r.2.2.2.2.2.2.2.2.2.1) (r.2.2.2.2.2.2.2.2.2.2))) r) ((fun (r : Int32 × Int32 × Int32 × Int32 × Int32 × Int32 × (Nat → Int32) × (Nat → Int32) × (Nat → Int32) × (Nat → Int32) × (Nat → Int32)) => some (.int (r.1))) r) A) args s 0 0 A) (f_X8_image_h49 m_balls m_depthOf m_sizeOf m_placeOf m_onOf m_sticksOf m_keptSize m_keptPlace m_keptOn m_keptSticks fu m_isKept m_keptLawn m_keptBalls m_keptStrength m_keptDays m_keptDepth x1) (wM cI cC cB cQ kc mh q_depthOf q_kindOf q_sizeOf q_placeOf q_onOf q_sticksOf q_page q_savedDepth q_gameSize q_gamePlace q_gameSticks q_gameDepth q_keptDepth q_keptSize q_keptPlace q_keptOn q_keptSticks m_isLawn m_lawns m_wetness m_strength m_days m_balls m_asks m_books m_pageLength m_faultAt m_savedSize m_savedPlace m_savedSticks m_bestSize m_bestFirst m_seedNow m_isKept m_keptLawn m_keptBalls m_keptStrength m_keptDays m_h m_depthOf m_kindOf m_sizeOf m_placeOf m_onOf m_sticksOf m_page m_savedDepth m_gameSize m_gamePlace m_gameSticks m_gameDepth m_keptDepth m_keptSize m_keptPlace m_keptOn m_keptSticks) [(0, .ref mh), (1, .int x1)] 49 [] := by
    intro  fu
    induction fu with
    | zero =>
      intro m_isKept m_keptLawn m_keptBalls m_keptStrength m_keptDays m_keptDepth x1
      rewrite [f_X8_image_h49]
      exact s_none
    | succ fu ih =>
      intro m_isKept m_keptLawn m_keptBalls m_keptStrength m_keptDays m_keptDepth x1
      rewrite [f_X8_image_h49]
      refine s_iload_n K dX8_image_49 rfl 1 rfl ?_
      refine s_bipush K dX8_image_50 kib_20 ?_
      refine s_icmp_ge (tgt := 73) K dX8_image_52 (by decide) (fun c_2 => ?_) (fun c_2 => ?_)
      · refine s_iconst K dX8_image_73 kic_0 ?_
        refine s_istore_n (lv' := [(1, .int 0), (0, .ref mh)]) K dX8_image_74 rfl (Nat.le_of_ble_eq_true rfl) rfl ?_
        refine s_lv (lv' := [(0, .ref mh), (1, .int 0)]) [1, 0] rfl ?_
        exact L75 70 m_isKept m_keptLawn m_keptBalls m_keptStrength m_keptDays m_keptDepth m_keptSize m_keptPlace m_keptOn m_keptSticks 0
      · refine s_aload_n K dX8_image_55 rfl 0 rfl ?_
        refine s_get K 0 rfl rfl inT8 33 (Nat.le_of_ble_eq_true rfl) t_586 rfl rfl dX8_image_56 ?_
        refine s_iload_n K dX8_image_59 rfl 1 rfl ?_
        refine s_aload_n K dX8_image_60 rfl 0 rfl ?_
        refine s_get K 0 rfl rfl inT8 2 (Nat.le_of_ble_eq_true rfl) t_555 rfl rfl dX8_image_61 ?_
        refine s_iload_n K dX8_image_64 rfl 1 rfl ?_
        refine s_ck (fun ho_3 => ?_)
        refine s_iald K 1 0 rfl rfl (ok_in ho_3) rfl dX8_image_65 ?_
        refine s_iast (w' := (wM cI cC cB cQ kc mh q_depthOf q_kindOf q_sizeOf q_placeOf q_onOf q_sticksOf q_page q_savedDepth q_gameSize q_gamePlace q_gameSticks q_gameDepth q_keptDepth q_keptSize q_keptPlace q_keptOn q_keptSticks m_isLawn m_lawns m_wetness m_strength m_days m_balls m_asks m_books m_pageLength m_faultAt m_savedSize m_savedPlace m_savedSticks m_bestSize m_bestFirst m_seedNow m_isKept m_keptLawn m_keptBalls m_keptStrength m_keptDays m_h m_depthOf m_kindOf m_sizeOf m_placeOf m_onOf m_sticksOf m_page m_savedDepth m_gameSize m_gamePlace m_gameSticks m_gameDepth (upd m_keptDepth (Int32.toNatClampNeg x1) (m_depthOf (Int32.toNatClampNeg x1))) m_keptSize m_keptPlace m_keptOn m_keptSticks)) K 13 0 rfl rfl (ok_in ho_3) rfl rfl dX8_image_66 ?_
        refine s_iinc (lv' := [(1, .int (x1 + 1)), (0, .ref mh)]) K dX8_image_67 1 rfl (kii_1 _) (Nat.le_of_ble_eq_true rfl) rfl ?_
        refine s_goto (tgt := 49) K dX8_image_70 (by decide) ?_
        refine s_lv (lv' := [(0, .ref mh), (1, .int (x1 + 1))]) [1, 0] rfl ?_
        exact ih m_isKept m_keptLawn m_keptBalls m_keptStrength m_keptDays (upd m_keptDepth (Int32.toNatClampNeg x1) (m_depthOf (Int32.toNatClampNeg x1))) (x1 + 1)
  rewrite [f_X8_image]
  refine s_aload_n K dX8_image_0 rfl 0 rfl ?_
  refine s_get K 0 rfl rfl inT8 0 (Nat.le_of_ble_eq_true rfl) t_553 rfl rfl dX8_image_1 ?_
  refine s_if_ne (tgt := 10) K dX8_image_4 (by decide) (fun c_1 => ?_) (fun c_1 => ?_)
  · refine s_bipush K dX8_image_7 kib_m103 ?_
    exact s_iret K hret hlk rfl rfl dX8_image_9
  · refine s_aload_n K dX8_image_10 rfl 0 rfl ?_
    refine s_iconst K dX8_image_11 kic_1 ?_
    refine s_put (w' := (wM cI cC cB cQ kc mh q_depthOf q_kindOf q_sizeOf q_placeOf q_onOf q_sticksOf q_page q_savedDepth q_gameSize q_gamePlace q_gameSticks q_gameDepth q_keptDepth q_keptSize q_keptPlace q_keptOn q_keptSticks m_isLawn m_lawns m_wetness m_strength m_days m_balls m_asks m_books m_pageLength m_faultAt m_savedSize m_savedPlace m_savedSticks m_bestSize m_bestFirst m_seedNow 1 m_keptLawn m_keptBalls m_keptStrength m_keptDays m_h m_depthOf m_kindOf m_sizeOf m_placeOf m_onOf m_sticksOf m_page m_savedDepth m_gameSize m_gamePlace m_gameSticks m_gameDepth m_keptDepth m_keptSize m_keptPlace m_keptOn m_keptSticks)) K 0 rfl rfl inT8 tyX8_ok nmX8 28 (Nat.le_of_ble_eq_true rfl) t_581 rfl rfl rfl rfl (Nat.le_of_ble_eq_true rfl) rfl dX8_image_12 ?_
    refine s_aload_n K dX8_image_15 rfl 0 rfl ?_
    refine s_aload_n K dX8_image_16 rfl 0 rfl ?_
    refine s_get K 0 rfl rfl inT8 1 (Nat.le_of_ble_eq_true rfl) t_554 rfl rfl dX8_image_17 ?_
    refine s_put (w' := (wM cI cC cB cQ kc mh q_depthOf q_kindOf q_sizeOf q_placeOf q_onOf q_sticksOf q_page q_savedDepth q_gameSize q_gamePlace q_gameSticks q_gameDepth q_keptDepth q_keptSize q_keptPlace q_keptOn q_keptSticks m_isLawn m_lawns m_wetness m_strength m_days m_balls m_asks m_books m_pageLength m_faultAt m_savedSize m_savedPlace m_savedSticks m_bestSize m_bestFirst m_seedNow 1 m_lawns m_keptBalls m_keptStrength m_keptDays m_h m_depthOf m_kindOf m_sizeOf m_placeOf m_onOf m_sticksOf m_page m_savedDepth m_gameSize m_gamePlace m_gameSticks m_gameDepth m_keptDepth m_keptSize m_keptPlace m_keptOn m_keptSticks)) K 0 rfl rfl inT8 tyX8_ok nmX8 29 (Nat.le_of_ble_eq_true rfl) t_582 rfl rfl rfl rfl (Nat.le_of_ble_eq_true rfl) rfl dX8_image_20 ?_
    refine s_aload_n K dX8_image_23 rfl 0 rfl ?_
    refine s_aload_n K dX8_image_24 rfl 0 rfl ?_
    refine s_get K 0 rfl rfl inT8 6 (Nat.le_of_ble_eq_true rfl) t_559 rfl rfl dX8_image_25 ?_
    refine s_put (w' := (wM cI cC cB cQ kc mh q_depthOf q_kindOf q_sizeOf q_placeOf q_onOf q_sticksOf q_page q_savedDepth q_gameSize q_gamePlace q_gameSticks q_gameDepth q_keptDepth q_keptSize q_keptPlace q_keptOn q_keptSticks m_isLawn m_lawns m_wetness m_strength m_days m_balls m_asks m_books m_pageLength m_faultAt m_savedSize m_savedPlace m_savedSticks m_bestSize m_bestFirst m_seedNow 1 m_lawns m_balls m_keptStrength m_keptDays m_h m_depthOf m_kindOf m_sizeOf m_placeOf m_onOf m_sticksOf m_page m_savedDepth m_gameSize m_gamePlace m_gameSticks m_gameDepth m_keptDepth m_keptSize m_keptPlace m_keptOn m_keptSticks)) K 0 rfl rfl inT8 tyX8_ok nmX8 30 (Nat.le_of_ble_eq_true rfl) t_583 rfl rfl rfl rfl (Nat.le_of_ble_eq_true rfl) rfl dX8_image_28 ?_
    refine s_aload_n K dX8_image_31 rfl 0 rfl ?_
    refine s_aload_n K dX8_image_32 rfl 0 rfl ?_
    refine s_get K 0 rfl rfl inT8 4 (Nat.le_of_ble_eq_true rfl) t_557 rfl rfl dX8_image_33 ?_
    refine s_put (w' := (wM cI cC cB cQ kc mh q_depthOf q_kindOf q_sizeOf q_placeOf q_onOf q_sticksOf q_page q_savedDepth q_gameSize q_gamePlace q_gameSticks q_gameDepth q_keptDepth q_keptSize q_keptPlace q_keptOn q_keptSticks m_isLawn m_lawns m_wetness m_strength m_days m_balls m_asks m_books m_pageLength m_faultAt m_savedSize m_savedPlace m_savedSticks m_bestSize m_bestFirst m_seedNow 1 m_lawns m_balls m_strength m_keptDays m_h m_depthOf m_kindOf m_sizeOf m_placeOf m_onOf m_sticksOf m_page m_savedDepth m_gameSize m_gamePlace m_gameSticks m_gameDepth m_keptDepth m_keptSize m_keptPlace m_keptOn m_keptSticks)) K 0 rfl rfl inT8 tyX8_ok nmX8 31 (Nat.le_of_ble_eq_true rfl) t_584 rfl rfl rfl rfl (Nat.le_of_ble_eq_true rfl) rfl dX8_image_36 ?_
    refine s_aload_n K dX8_image_39 rfl 0 rfl ?_
    refine s_aload_n K dX8_image_40 rfl 0 rfl ?_
    refine s_get K 0 rfl rfl inT8 5 (Nat.le_of_ble_eq_true rfl) t_558 rfl rfl dX8_image_41 ?_
    refine s_put (w' := (wM cI cC cB cQ kc mh q_depthOf q_kindOf q_sizeOf q_placeOf q_onOf q_sticksOf q_page q_savedDepth q_gameSize q_gamePlace q_gameSticks q_gameDepth q_keptDepth q_keptSize q_keptPlace q_keptOn q_keptSticks m_isLawn m_lawns m_wetness m_strength m_days m_balls m_asks m_books m_pageLength m_faultAt m_savedSize m_savedPlace m_savedSticks m_bestSize m_bestFirst m_seedNow 1 m_lawns m_balls m_strength m_days m_h m_depthOf m_kindOf m_sizeOf m_placeOf m_onOf m_sticksOf m_page m_savedDepth m_gameSize m_gamePlace m_gameSticks m_gameDepth m_keptDepth m_keptSize m_keptPlace m_keptOn m_keptSticks)) K 0 rfl rfl inT8 tyX8_ok nmX8 32 (Nat.le_of_ble_eq_true rfl) t_585 rfl rfl rfl rfl (Nat.le_of_ble_eq_true rfl) rfl dX8_image_44 ?_
    refine s_iconst K dX8_image_47 kic_0 ?_
    refine s_istore_n (lv' := [(1, .int 0), (0, .ref mh)]) K dX8_image_48 rfl (Nat.le_of_ble_eq_true rfl) rfl ?_
    refine s_lv (lv' := [(0, .ref mh), (1, .int 0)]) [1, 0] rfl ?_
    exact L49 70 1 m_lawns m_balls m_strength m_days m_keptDepth 0
set_option maxHeartbeats 4000000 in
set_option maxRecDepth 100000 in
theorem c_X8_restore {l : Launch} {D : va_G} {cI cC cB cQ : ClassId} {kc : Nat → Nat} {kt : Nat} (mh q_depthOf q_kindOf q_sizeOf q_placeOf q_onOf q_sticksOf q_page q_savedDepth q_gameSize q_gamePlace q_gameSticks q_gameDepth q_keptDepth q_keptSize q_keptPlace q_keptOn q_keptSticks : Nat) (m_isLawn m_lawns m_wetness m_strength m_days m_balls m_asks m_books m_pageLength m_faultAt m_savedSize m_savedPlace m_savedSticks m_bestSize m_bestFirst : Int32) (m_seedNow : Int64) (m_isKept m_keptLawn m_keptBalls m_keptStrength m_keptDays : Int32) (m_h : Int64) (m_depthOf m_kindOf m_sizeOf m_placeOf m_onOf m_sticksOf m_page m_savedDepth m_gameSize m_gamePlace m_gameSticks m_gameDepth m_keptDepth m_keptSize m_keptPlace m_keptOn m_keptSticks : Nat → Int32) {r : Int32 × Int32 × Int32 × Int32 × (Nat → Int32) × (Nat → Int32) × (Nat → Int32) × (Nat → Int32) × (Nat → Int32)} (hF : f_X8_restore m_lawns m_strength m_days m_balls m_isKept m_keptLawn m_keptBalls m_keptStrength m_keptDays m_depthOf m_sizeOf m_placeOf m_onOf m_sticksOf m_keptDepth m_keptSize m_keptPlace m_keptOn m_keptSticks = some r) : CT l D (tysOf cI cC cB cQ) kc kt yX8_restore cX8_restore 2 (some .int) ({ frames := 1, cells := 0, slots := 0, locals := 40 } : Room) [.ref mh] (wM cI cC cB cQ kc mh q_depthOf q_kindOf q_sizeOf q_placeOf q_onOf q_sticksOf q_page q_savedDepth q_gameSize q_gamePlace q_gameSticks q_gameDepth q_keptDepth q_keptSize q_keptPlace q_keptOn q_keptSticks m_isLawn m_lawns m_wetness m_strength m_days m_balls m_asks m_books m_pageLength m_faultAt m_savedSize m_savedPlace m_savedSticks m_bestSize m_bestFirst m_seedNow m_isKept m_keptLawn m_keptBalls m_keptStrength m_keptDays m_h m_depthOf m_kindOf m_sizeOf m_placeOf m_onOf m_sticksOf m_page m_savedDepth m_gameSize m_gamePlace m_gameSticks m_gameDepth m_keptDepth m_keptSize m_keptPlace m_keptOn m_keptSticks) ((fun (r : Int32 × Int32 × Int32 × Int32 × (Nat → Int32) × (Nat → Int32) × (Nat → Int32) × (Nat → Int32) × (Nat → Int32)) => (wM cI cC cB cQ kc mh q_depthOf q_kindOf q_sizeOf q_placeOf q_onOf q_sticksOf q_page q_savedDepth q_gameSize q_gamePlace q_gameSticks q_gameDepth q_keptDepth q_keptSize q_keptPlace q_keptOn q_keptSticks m_isLawn m_lawns m_wetness (r.2.1) (r.2.2.1) (r.2.2.2.1) m_asks m_books m_pageLength m_faultAt m_savedSize m_savedPlace m_savedSticks m_bestSize m_bestFirst m_seedNow m_isKept m_keptLawn m_keptBalls m_keptStrength m_keptDays m_h (r.2.2.2.2.1) m_kindOf (r.2.2.2.2.2.1) (r.2.2.2.2.2.2.1) (r.2.2.2.2.2.2.2.1) (r.2.2.2.2.2.2.2.2) m_page m_savedDepth m_gameSize m_gamePlace m_gameSticks m_gameDepth m_keptDepth m_keptSize m_keptPlace m_keptOn m_keptSticks)) r) ((fun (r : Int32 × Int32 × Int32 × Int32 × (Nat → Int32) × (Nat → Int32) × (Nat → Int32) × (Nat → Int32) × (Nat → Int32)) => some (.int (r.1))) r) := by
  refine CT.of (ww := (fun (r : Int32 × Int32 × Int32 × Int32 × (Nat → Int32) × (Nat → Int32) × (Nat → Int32) × (Nat → Int32) × (Nat → Int32)) => (wM cI cC cB cQ kc mh q_depthOf q_kindOf q_sizeOf q_placeOf q_onOf q_sticksOf q_page q_savedDepth q_gameSize q_gamePlace q_gameSticks q_gameDepth q_keptDepth q_keptSize q_keptPlace q_keptOn q_keptSticks m_isLawn m_lawns m_wetness (r.2.1) (r.2.2.1) (r.2.2.2.1) m_asks m_books m_pageLength m_faultAt m_savedSize m_savedPlace m_savedSticks m_bestSize m_bestFirst m_seedNow m_isKept m_keptLawn m_keptBalls m_keptStrength m_keptDays m_h (r.2.2.2.2.1) m_kindOf (r.2.2.2.2.2.1) (r.2.2.2.2.2.2.1) (r.2.2.2.2.2.2.2.1) (r.2.2.2.2.2.2.2.2) m_page m_savedDepth m_gameSize m_gamePlace m_gameSticks m_gameDepth m_keptDepth m_keptSize m_keptPlace m_keptOn m_keptSticks))) (oo := (fun (r : Int32 × Int32 × Int32 × Int32 × (Nat → Int32) × (Nat → Int32) × (Nat → Int32) × (Nat → Int32) × (Nat → Int32)) => some (.int (r.1)))) hF RX8 rfl rfl (Nat.le_of_ble_eq_true rfl) ?_
  intro p e s m args below meth c A K hret hlk
  have L73 : ∀ (fu : Nat) (m_strength m_days m_balls : Int32) (m_depthOf m_sizeOf m_placeOf m_onOf m_sticksOf : Nat → Int32) (x1 : Int32), Sw (ρ := Int32 × Int32 × Int32 × Int32 × (Nat → Int32) × (Nat → Int32) × (Nat → Int32) × (Nat → Int32) × (Nat → Int32)) p l e ({ frames := 1, cells := 0, slots := 0, locals := 40 } : Room) s m args below meth c 0 0 D A 2 (fun r => MQ below (CQ D ((fun (r : Int32 × Int32 × Int32 × Int32 × (Nat → Int32) × (Nat → Int32) × (Nat → Int32) × (Nat → Int32) × (Nat → Int32)) => (wM cI cC cB cQ kc mh q_depthOf q_kindOf q_sizeOf q_placeOf q_onOf q_sticksOf q_page q_savedDepth q_gameSize q_gamePlace q_gameSticks q_gameDepth q_keptDepth q_keptSize q_keptPlace q_keptOn q_keptSticks m_isLawn m_lawns m_wetness (r.2.1) (r.2.2.1) (r.2.2.2.1) m_asks m_books m_pageLength m_faultAt m_savedSize m_savedPlace m_savedSticks m_bestSize m_bestFirst m_seedNow m_isKept m_keptLawn m_keptBalls m_keptStrength m_keptDays m_h (r.2.2.2.2.1) m_kindOf (r.2.2.2.2.2.1) (r.2.2.2.2.2.2.1) (r.2.2.2.2.2.2.2.1) (r.2.2.2.2.2.2.2.2) m_page m_savedDepth m_gameSize m_gamePlace m_gameSticks m_gameDepth m_keptDepth m_keptSize m_keptPlace m_keptOn m_keptSticks)) r) ((fun (r : Int32 × Int32 × Int32 × Int32 × (Nat → Int32) × (Nat → Int32) × (Nat → Int32) × (Nat → Int32) × (Nat → Int32)) => some (.int (r.1))) r) A) args s 0 0 A) (f_X8_restore_h73 m_keptSize m_keptPlace m_keptOn m_keptSticks fu m_strength m_days m_balls m_depthOf m_sizeOf m_placeOf m_onOf m_sticksOf x1) (wM cI cC cB cQ kc mh q_depthOf q_kindOf q_sizeOf q_placeOf q_onOf q_sticksOf q_page q_savedDepth q_gameSize q_gamePlace q_gameSticks q_gameDepth q_keptDepth q_keptSize q_keptPlace q_keptOn q_keptSticks m_isLawn m_lawns m_wetness m_strength m_days m_balls m_asks m_books m_pageLength m_faultAt m_savedSize m_savedPlace m_savedSticks m_bestSize m_bestFirst m_seedNow m_isKept m_keptLawn m_keptBalls m_keptStrength m_keptDays m_h m_depthOf m_kindOf m_sizeOf m_placeOf m_onOf m_sticksOf m_page m_savedDepth m_gameSize m_gamePlace m_gameSticks m_gameDepth m_keptDepth m_keptSize m_keptPlace m_keptOn m_keptSticks) [(0, .ref mh), (1, .int x1)] 73 [] := by
    intro  fu
    induction fu with
    | zero =>
      intro m_strength m_days m_balls m_depthOf m_sizeOf m_placeOf m_onOf m_sticksOf x1
      rewrite [f_X8_restore_h73]
      exact s_none
    | succ fu ih =>
      intro m_strength m_days m_balls m_depthOf m_sizeOf m_placeOf m_onOf m_sticksOf x1
      rewrite [f_X8_restore_h73]
      refine s_iload_n K dX8_restore_73 rfl 1 rfl ?_
      refine s_iconst K dX8_restore_74 kic_4 ?_
      refine s_icmp_ge (tgt := 132) K dX8_restore_75 (by decide) (fun c_5 => ?_) (fun c_5 => ?_)
      · refine s_aload_n K dX8_restore_132 rfl 0 rfl ?_
        refine s_get K 0 rfl rfl inT8 6 (Nat.le_of_ble_eq_true rfl) t_559 rfl rfl dX8_restore_133 ?_
        exact s_iret K hret hlk rfl rfl dX8_restore_136
      · refine s_aload_n K dX8_restore_78 rfl 0 rfl ?_
        refine s_get K 0 rfl rfl inT8 8 (Nat.le_of_ble_eq_true rfl) t_561 rfl rfl dX8_restore_79 ?_
        refine s_iload_n K dX8_restore_82 rfl 1 rfl ?_
        refine s_aload_n K dX8_restore_83 rfl 0 rfl ?_
        refine s_get K 0 rfl rfl inT8 34 (Nat.le_of_ble_eq_true rfl) t_587 rfl rfl dX8_restore_84 ?_
        refine s_iload_n K dX8_restore_87 rfl 1 rfl ?_
        refine s_ck (fun ho_6 => ?_)
        refine s_iald K 14 0 rfl rfl (ok_in ho_6) rfl dX8_restore_88 ?_
        refine s_ck (fun ho_7 => ?_)
        refine s_iast (w' := (wM cI cC cB cQ kc mh q_depthOf q_kindOf q_sizeOf q_placeOf q_onOf q_sticksOf q_page q_savedDepth q_gameSize q_gamePlace q_gameSticks q_gameDepth q_keptDepth q_keptSize q_keptPlace q_keptOn q_keptSticks m_isLawn m_lawns m_wetness m_strength m_days m_balls m_asks m_books m_pageLength m_faultAt m_savedSize m_savedPlace m_savedSticks m_bestSize m_bestFirst m_seedNow m_isKept m_keptLawn m_keptBalls m_keptStrength m_keptDays m_h m_depthOf m_kindOf (upd m_sizeOf (Int32.toNatClampNeg x1) (m_keptSize (Int32.toNatClampNeg x1))) m_placeOf m_onOf m_sticksOf m_page m_savedDepth m_gameSize m_gamePlace m_gameSticks m_gameDepth m_keptDepth m_keptSize m_keptPlace m_keptOn m_keptSticks)) K 3 0 rfl rfl (ok_in ho_7) rfl rfl dX8_restore_89 ?_
        refine s_aload_n K dX8_restore_90 rfl 0 rfl ?_
        refine s_get K 0 rfl rfl inT8 9 (Nat.le_of_ble_eq_true rfl) t_562 rfl rfl dX8_restore_91 ?_
        refine s_iload_n K dX8_restore_94 rfl 1 rfl ?_
        refine s_aload_n K dX8_restore_95 rfl 0 rfl ?_
        refine s_get K 0 rfl rfl inT8 35 (Nat.le_of_ble_eq_true rfl) t_588 rfl rfl dX8_restore_96 ?_
        refine s_iload_n K dX8_restore_99 rfl 1 rfl ?_
        refine s_iald K 15 0 rfl rfl (ok_in ho_6) rfl dX8_restore_100 ?_
        refine s_iast (w' := (wM cI cC cB cQ kc mh q_depthOf q_kindOf q_sizeOf q_placeOf q_onOf q_sticksOf q_page q_savedDepth q_gameSize q_gamePlace q_gameSticks q_gameDepth q_keptDepth q_keptSize q_keptPlace q_keptOn q_keptSticks m_isLawn m_lawns m_wetness m_strength m_days m_balls m_asks m_books m_pageLength m_faultAt m_savedSize m_savedPlace m_savedSticks m_bestSize m_bestFirst m_seedNow m_isKept m_keptLawn m_keptBalls m_keptStrength m_keptDays m_h m_depthOf m_kindOf (upd m_sizeOf (Int32.toNatClampNeg x1) (m_keptSize (Int32.toNatClampNeg x1))) (upd m_placeOf (Int32.toNatClampNeg x1) (m_keptPlace (Int32.toNatClampNeg x1))) m_onOf m_sticksOf m_page m_savedDepth m_gameSize m_gamePlace m_gameSticks m_gameDepth m_keptDepth m_keptSize m_keptPlace m_keptOn m_keptSticks)) K 4 0 rfl rfl (ok_in ho_7) rfl rfl dX8_restore_101 ?_
        refine s_aload_n K dX8_restore_102 rfl 0 rfl ?_
        refine s_get K 0 rfl rfl inT8 10 (Nat.le_of_ble_eq_true rfl) t_563 rfl rfl dX8_restore_103 ?_
        refine s_iload_n K dX8_restore_106 rfl 1 rfl ?_
        refine s_aload_n K dX8_restore_107 rfl 0 rfl ?_
        refine s_get K 0 rfl rfl inT8 36 (Nat.le_of_ble_eq_true rfl) t_589 rfl rfl dX8_restore_108 ?_
        refine s_iload_n K dX8_restore_111 rfl 1 rfl ?_
        refine s_iald K 16 0 rfl rfl (ok_in ho_6) rfl dX8_restore_112 ?_
        refine s_iast (w' := (wM cI cC cB cQ kc mh q_depthOf q_kindOf q_sizeOf q_placeOf q_onOf q_sticksOf q_page q_savedDepth q_gameSize q_gamePlace q_gameSticks q_gameDepth q_keptDepth q_keptSize q_keptPlace q_keptOn q_keptSticks m_isLawn m_lawns m_wetness m_strength m_days m_balls m_asks m_books m_pageLength m_faultAt m_savedSize m_savedPlace m_savedSticks m_bestSize m_bestFirst m_seedNow m_isKept m_keptLawn m_keptBalls m_keptStrength m_keptDays m_h m_depthOf m_kindOf (upd m_sizeOf (Int32.toNatClampNeg x1) (m_keptSize (Int32.toNatClampNeg x1))) (upd m_placeOf (Int32.toNatClampNeg x1) (m_keptPlace (Int32.toNatClampNeg x1))) (upd m_onOf (Int32.toNatClampNeg x1) (m_keptOn (Int32.toNatClampNeg x1))) m_sticksOf m_page m_savedDepth m_gameSize m_gamePlace m_gameSticks m_gameDepth m_keptDepth m_keptSize m_keptPlace m_keptOn m_keptSticks)) K 5 0 rfl rfl (ok_in ho_7) rfl rfl dX8_restore_113 ?_
        refine s_aload_n K dX8_restore_114 rfl 0 rfl ?_
        refine s_get K 0 rfl rfl inT8 11 (Nat.le_of_ble_eq_true rfl) t_564 rfl rfl dX8_restore_115 ?_
        refine s_iload_n K dX8_restore_118 rfl 1 rfl ?_
        refine s_aload_n K dX8_restore_119 rfl 0 rfl ?_
        refine s_get K 0 rfl rfl inT8 37 (Nat.le_of_ble_eq_true rfl) t_590 rfl rfl dX8_restore_120 ?_
        refine s_iload_n K dX8_restore_123 rfl 1 rfl ?_
        refine s_iald K 17 0 rfl rfl (ok_in ho_6) rfl dX8_restore_124 ?_
        refine s_iast (w' := (wM cI cC cB cQ kc mh q_depthOf q_kindOf q_sizeOf q_placeOf q_onOf q_sticksOf q_page q_savedDepth q_gameSize q_gamePlace q_gameSticks q_gameDepth q_keptDepth q_keptSize q_keptPlace q_keptOn q_keptSticks m_isLawn m_lawns m_wetness m_strength m_days m_balls m_asks m_books m_pageLength m_faultAt m_savedSize m_savedPlace m_savedSticks m_bestSize m_bestFirst m_seedNow m_isKept m_keptLawn m_keptBalls m_keptStrength m_keptDays m_h m_depthOf m_kindOf (upd m_sizeOf (Int32.toNatClampNeg x1) (m_keptSize (Int32.toNatClampNeg x1))) (upd m_placeOf (Int32.toNatClampNeg x1) (m_keptPlace (Int32.toNatClampNeg x1))) (upd m_onOf (Int32.toNatClampNeg x1) (m_keptOn (Int32.toNatClampNeg x1))) (upd m_sticksOf (Int32.toNatClampNeg x1) (m_keptSticks (Int32.toNatClampNeg x1))) m_page m_savedDepth m_gameSize m_gamePlace m_gameSticks m_gameDepth m_keptDepth m_keptSize m_keptPlace m_keptOn m_keptSticks)) K 6 0 rfl rfl (ok_in ho_7) rfl rfl dX8_restore_125 ?_
        refine s_iinc (lv' := [(1, .int (x1 + 1)), (0, .ref mh)]) K dX8_restore_126 1 rfl (kii_1 _) (Nat.le_of_ble_eq_true rfl) rfl ?_
        refine s_goto (tgt := 73) K dX8_restore_129 (by decide) ?_
        refine s_lv (lv' := [(0, .ref mh), (1, .int (x1 + 1))]) [1, 0] rfl ?_
        exact ih m_strength m_days m_balls m_depthOf (upd m_sizeOf (Int32.toNatClampNeg x1) (m_keptSize (Int32.toNatClampNeg x1))) (upd m_placeOf (Int32.toNatClampNeg x1) (m_keptPlace (Int32.toNatClampNeg x1))) (upd m_onOf (Int32.toNatClampNeg x1) (m_keptOn (Int32.toNatClampNeg x1))) (upd m_sticksOf (Int32.toNatClampNeg x1) (m_keptSticks (Int32.toNatClampNeg x1))) (x1 + 1)
  have L47 : ∀ (fu : Nat) (m_strength m_days m_balls : Int32) (m_depthOf : Nat → Int32) (x1 : Int32), Sw (ρ := Int32 × Int32 × Int32 × Int32 × (Nat → Int32) × (Nat → Int32) × (Nat → Int32) × (Nat → Int32) × (Nat → Int32)) p l e ({ frames := 1, cells := 0, slots := 0, locals := 40 } : Room) s m args below meth c 0 0 D A 2 (fun r => MQ below (CQ D ((fun (r : Int32 × Int32 × Int32 × Int32 × (Nat → Int32) × (Nat → Int32) × (Nat → Int32) × (Nat → Int32) × (Nat → Int32)) => (wM cI cC cB cQ kc mh q_depthOf q_kindOf q_sizeOf q_placeOf q_onOf q_sticksOf q_page q_savedDepth q_gameSize q_gamePlace q_gameSticks q_gameDepth q_keptDepth q_keptSize q_keptPlace q_keptOn q_keptSticks m_isLawn m_lawns m_wetness (r.2.1) (r.2.2.1) (r.2.2.2.1) m_asks m_books m_pageLength m_faultAt m_savedSize m_savedPlace m_savedSticks m_bestSize m_bestFirst m_seedNow m_isKept m_keptLawn m_keptBalls m_keptStrength m_keptDays m_h (r.2.2.2.2.1) m_kindOf (r.2.2.2.2.2.1) (r.2.2.2.2.2.2.1) (r.2.2.2.2.2.2.2.1) (r.2.2.2.2.2.2.2.2) m_page m_savedDepth m_gameSize m_gamePlace m_gameSticks m_gameDepth m_keptDepth m_keptSize m_keptPlace m_keptOn m_keptSticks)) r) ((fun (r : Int32 × Int32 × Int32 × Int32 × (Nat → Int32) × (Nat → Int32) × (Nat → Int32) × (Nat → Int32) × (Nat → Int32)) => some (.int (r.1))) r) A) args s 0 0 A) (f_X8_restore_h47 m_sizeOf m_placeOf m_onOf m_sticksOf m_keptDepth m_keptSize m_keptPlace m_keptOn m_keptSticks fu m_strength m_days m_balls m_depthOf x1) (wM cI cC cB cQ kc mh q_depthOf q_kindOf q_sizeOf q_placeOf q_onOf q_sticksOf q_page q_savedDepth q_gameSize q_gamePlace q_gameSticks q_gameDepth q_keptDepth q_keptSize q_keptPlace q_keptOn q_keptSticks m_isLawn m_lawns m_wetness m_strength m_days m_balls m_asks m_books m_pageLength m_faultAt m_savedSize m_savedPlace m_savedSticks m_bestSize m_bestFirst m_seedNow m_isKept m_keptLawn m_keptBalls m_keptStrength m_keptDays m_h m_depthOf m_kindOf m_sizeOf m_placeOf m_onOf m_sticksOf m_page m_savedDepth m_gameSize m_gamePlace m_gameSticks m_gameDepth m_keptDepth m_keptSize m_keptPlace m_keptOn m_keptSticks) [(0, .ref mh), (1, .int x1)] 47 [] := by
    intro  fu
    induction fu with
    | zero =>
      intro m_strength m_days m_balls m_depthOf x1
      rewrite [f_X8_restore_h47]
      exact s_none
    | succ fu ih =>
      intro m_strength m_days m_balls m_depthOf x1
      rewrite [f_X8_restore_h47]
      refine s_iload_n K dX8_restore_47 rfl 1 rfl ?_
      refine s_bipush K dX8_restore_48 kib_20 ?_
      refine s_icmp_ge (tgt := 71) K dX8_restore_50 (by decide) (fun c_3 => ?_) (fun c_3 => ?_)
      · refine s_iconst K dX8_restore_71 kic_0 ?_
        refine s_istore_n (lv' := [(1, .int 0), (0, .ref mh)]) K dX8_restore_72 rfl (Nat.le_of_ble_eq_true rfl) rfl ?_
        refine s_lv (lv' := [(0, .ref mh), (1, .int 0)]) [1, 0] rfl ?_
        exact L73 70 m_strength m_days m_balls m_depthOf m_sizeOf m_placeOf m_onOf m_sticksOf 0
      · refine s_aload_n K dX8_restore_53 rfl 0 rfl ?_
        refine s_get K 0 rfl rfl inT8 2 (Nat.le_of_ble_eq_true rfl) t_555 rfl rfl dX8_restore_54 ?_
        refine s_iload_n K dX8_restore_57 rfl 1 rfl ?_
        refine s_aload_n K dX8_restore_58 rfl 0 rfl ?_
        refine s_get K 0 rfl rfl inT8 33 (Nat.le_of_ble_eq_true rfl) t_586 rfl rfl dX8_restore_59 ?_
        refine s_iload_n K dX8_restore_62 rfl 1 rfl ?_
        refine s_ck (fun ho_4 => ?_)
        refine s_iald K 13 0 rfl rfl (ok_in ho_4) rfl dX8_restore_63 ?_
        refine s_iast (w' := (wM cI cC cB cQ kc mh q_depthOf q_kindOf q_sizeOf q_placeOf q_onOf q_sticksOf q_page q_savedDepth q_gameSize q_gamePlace q_gameSticks q_gameDepth q_keptDepth q_keptSize q_keptPlace q_keptOn q_keptSticks m_isLawn m_lawns m_wetness m_strength m_days m_balls m_asks m_books m_pageLength m_faultAt m_savedSize m_savedPlace m_savedSticks m_bestSize m_bestFirst m_seedNow m_isKept m_keptLawn m_keptBalls m_keptStrength m_keptDays m_h (upd m_depthOf (Int32.toNatClampNeg x1) (m_keptDepth (Int32.toNatClampNeg x1))) m_kindOf m_sizeOf m_placeOf m_onOf m_sticksOf m_page m_savedDepth m_gameSize m_gamePlace m_gameSticks m_gameDepth m_keptDepth m_keptSize m_keptPlace m_keptOn m_keptSticks)) K 1 0 rfl rfl (ok_in ho_4) rfl rfl dX8_restore_64 ?_
        refine s_iinc (lv' := [(1, .int (x1 + 1)), (0, .ref mh)]) K dX8_restore_65 1 rfl (kii_1 _) (Nat.le_of_ble_eq_true rfl) rfl ?_
        refine s_goto (tgt := 47) K dX8_restore_68 (by decide) ?_
        refine s_lv (lv' := [(0, .ref mh), (1, .int (x1 + 1))]) [1, 0] rfl ?_
        exact ih m_strength m_days m_balls (upd m_depthOf (Int32.toNatClampNeg x1) (m_keptDepth (Int32.toNatClampNeg x1))) (x1 + 1)
  rewrite [f_X8_restore]
  refine s_aload_n K dX8_restore_0 rfl 0 rfl ?_
  refine s_get K 0 rfl rfl inT8 28 (Nat.le_of_ble_eq_true rfl) t_581 rfl rfl dX8_restore_1 ?_
  refine s_if_eq (tgt := 18) K dX8_restore_4 (by decide) (fun c_1 => ?_) (fun c_1 => ?_)
  · refine s_bipush K dX8_restore_18 kib_m103 ?_
    exact s_iret K hret hlk rfl rfl dX8_restore_20
  · refine s_aload_n K dX8_restore_7 rfl 0 rfl ?_
    refine s_get K 0 rfl rfl inT8 29 (Nat.le_of_ble_eq_true rfl) t_582 rfl rfl dX8_restore_8 ?_
    refine s_aload_n K dX8_restore_11 rfl 0 rfl ?_
    refine s_get K 0 rfl rfl inT8 1 (Nat.le_of_ble_eq_true rfl) t_554 rfl rfl dX8_restore_12 ?_
    refine s_icmp_eq (tgt := 21) K dX8_restore_15 (by decide) (fun c_2 => ?_) (fun c_2 => ?_)
    · refine s_aload_n K dX8_restore_21 rfl 0 rfl ?_
      refine s_aload_n K dX8_restore_22 rfl 0 rfl ?_
      refine s_get K 0 rfl rfl inT8 30 (Nat.le_of_ble_eq_true rfl) t_583 rfl rfl dX8_restore_23 ?_
      refine s_put (w' := (wM cI cC cB cQ kc mh q_depthOf q_kindOf q_sizeOf q_placeOf q_onOf q_sticksOf q_page q_savedDepth q_gameSize q_gamePlace q_gameSticks q_gameDepth q_keptDepth q_keptSize q_keptPlace q_keptOn q_keptSticks m_isLawn m_lawns m_wetness m_strength m_days m_keptBalls m_asks m_books m_pageLength m_faultAt m_savedSize m_savedPlace m_savedSticks m_bestSize m_bestFirst m_seedNow m_isKept m_keptLawn m_keptBalls m_keptStrength m_keptDays m_h m_depthOf m_kindOf m_sizeOf m_placeOf m_onOf m_sticksOf m_page m_savedDepth m_gameSize m_gamePlace m_gameSticks m_gameDepth m_keptDepth m_keptSize m_keptPlace m_keptOn m_keptSticks)) K 0 rfl rfl inT8 tyX8_ok nmX8 6 (Nat.le_of_ble_eq_true rfl) t_559 rfl rfl rfl rfl (Nat.le_of_ble_eq_true rfl) rfl dX8_restore_26 ?_
      refine s_aload_n K dX8_restore_29 rfl 0 rfl ?_
      refine s_aload_n K dX8_restore_30 rfl 0 rfl ?_
      refine s_get K 0 rfl rfl inT8 31 (Nat.le_of_ble_eq_true rfl) t_584 rfl rfl dX8_restore_31 ?_
      refine s_put (w' := (wM cI cC cB cQ kc mh q_depthOf q_kindOf q_sizeOf q_placeOf q_onOf q_sticksOf q_page q_savedDepth q_gameSize q_gamePlace q_gameSticks q_gameDepth q_keptDepth q_keptSize q_keptPlace q_keptOn q_keptSticks m_isLawn m_lawns m_wetness m_keptStrength m_days m_keptBalls m_asks m_books m_pageLength m_faultAt m_savedSize m_savedPlace m_savedSticks m_bestSize m_bestFirst m_seedNow m_isKept m_keptLawn m_keptBalls m_keptStrength m_keptDays m_h m_depthOf m_kindOf m_sizeOf m_placeOf m_onOf m_sticksOf m_page m_savedDepth m_gameSize m_gamePlace m_gameSticks m_gameDepth m_keptDepth m_keptSize m_keptPlace m_keptOn m_keptSticks)) K 0 rfl rfl inT8 tyX8_ok nmX8 4 (Nat.le_of_ble_eq_true rfl) t_557 rfl rfl rfl rfl (Nat.le_of_ble_eq_true rfl) rfl dX8_restore_34 ?_
      refine s_aload_n K dX8_restore_37 rfl 0 rfl ?_
      refine s_aload_n K dX8_restore_38 rfl 0 rfl ?_
      refine s_get K 0 rfl rfl inT8 32 (Nat.le_of_ble_eq_true rfl) t_585 rfl rfl dX8_restore_39 ?_
      refine s_put (w' := (wM cI cC cB cQ kc mh q_depthOf q_kindOf q_sizeOf q_placeOf q_onOf q_sticksOf q_page q_savedDepth q_gameSize q_gamePlace q_gameSticks q_gameDepth q_keptDepth q_keptSize q_keptPlace q_keptOn q_keptSticks m_isLawn m_lawns m_wetness m_keptStrength m_keptDays m_keptBalls m_asks m_books m_pageLength m_faultAt m_savedSize m_savedPlace m_savedSticks m_bestSize m_bestFirst m_seedNow m_isKept m_keptLawn m_keptBalls m_keptStrength m_keptDays m_h m_depthOf m_kindOf m_sizeOf m_placeOf m_onOf m_sticksOf m_page m_savedDepth m_gameSize m_gamePlace m_gameSticks m_gameDepth m_keptDepth m_keptSize m_keptPlace m_keptOn m_keptSticks)) K 0 rfl rfl inT8 tyX8_ok nmX8 5 (Nat.le_of_ble_eq_true rfl) t_558 rfl rfl rfl rfl (Nat.le_of_ble_eq_true rfl) rfl dX8_restore_42 ?_
      refine s_iconst K dX8_restore_45 kic_0 ?_
      refine s_istore_n (lv' := [(1, .int 0), (0, .ref mh)]) K dX8_restore_46 rfl (Nat.le_of_ble_eq_true rfl) rfl ?_
      refine s_lv (lv' := [(0, .ref mh), (1, .int 0)]) [1, 0] rfl ?_
      exact L47 70 m_keptStrength m_keptDays m_keptBalls m_depthOf 0
    · refine s_bipush K dX8_restore_18 kib_m103 ?_
      exact s_iret K hret hlk rfl rfl dX8_restore_20
set_option maxHeartbeats 4000000 in
set_option maxRecDepth 100000 in
theorem c_X8_goneMany {l : Launch} {D : va_G} {cI cC cB cQ : ClassId} {kc : Nat → Nat} {kt : Nat} (mh q_depthOf q_kindOf q_sizeOf q_placeOf q_onOf q_sticksOf q_page q_savedDepth q_gameSize q_gamePlace q_gameSticks q_gameDepth q_keptDepth q_keptSize q_keptPlace q_keptOn q_keptSticks : Nat) (m_isLawn m_lawns m_wetness m_strength m_days m_balls m_asks m_books m_pageLength m_faultAt m_savedSize m_savedPlace m_savedSticks m_bestSize m_bestFirst : Int32) (m_seedNow : Int64) (m_isKept m_keptLawn m_keptBalls m_keptStrength m_keptDays : Int32) (m_h : Int64) (m_depthOf m_kindOf m_sizeOf m_placeOf m_onOf m_sticksOf m_page m_savedDepth m_gameSize m_gamePlace m_gameSticks m_gameDepth m_keptDepth m_keptSize m_keptPlace m_keptOn m_keptSticks : Nat → Int32) {r : Int32} (hF : f_X8_goneMany m_balls m_placeOf = some r) : CT l D (tysOf cI cC cB cQ) kc kt yX8_goneMany cX8_goneMany 3 (some .int) ({ frames := 1, cells := 0, slots := 0, locals := 40 } : Room) [.ref mh] (wM cI cC cB cQ kc mh q_depthOf q_kindOf q_sizeOf q_placeOf q_onOf q_sticksOf q_page q_savedDepth q_gameSize q_gamePlace q_gameSticks q_gameDepth q_keptDepth q_keptSize q_keptPlace q_keptOn q_keptSticks m_isLawn m_lawns m_wetness m_strength m_days m_balls m_asks m_books m_pageLength m_faultAt m_savedSize m_savedPlace m_savedSticks m_bestSize m_bestFirst m_seedNow m_isKept m_keptLawn m_keptBalls m_keptStrength m_keptDays m_h m_depthOf m_kindOf m_sizeOf m_placeOf m_onOf m_sticksOf m_page m_savedDepth m_gameSize m_gamePlace m_gameSticks m_gameDepth m_keptDepth m_keptSize m_keptPlace m_keptOn m_keptSticks) ((fun (r : Int32) => (wM cI cC cB cQ kc mh q_depthOf q_kindOf q_sizeOf q_placeOf q_onOf q_sticksOf q_page q_savedDepth q_gameSize q_gamePlace q_gameSticks q_gameDepth q_keptDepth q_keptSize q_keptPlace q_keptOn q_keptSticks m_isLawn m_lawns m_wetness m_strength m_days m_balls m_asks m_books m_pageLength m_faultAt m_savedSize m_savedPlace m_savedSticks m_bestSize m_bestFirst m_seedNow m_isKept m_keptLawn m_keptBalls m_keptStrength m_keptDays m_h m_depthOf m_kindOf m_sizeOf m_placeOf m_onOf m_sticksOf m_page m_savedDepth m_gameSize m_gamePlace m_gameSticks m_gameDepth m_keptDepth m_keptSize m_keptPlace m_keptOn m_keptSticks)) r) ((fun (r : Int32) => some (.int r)) r) := by
  refine CT.of (ww := (fun (r : Int32) => (wM cI cC cB cQ kc mh q_depthOf q_kindOf q_sizeOf q_placeOf q_onOf q_sticksOf q_page q_savedDepth q_gameSize q_gamePlace q_gameSticks q_gameDepth q_keptDepth q_keptSize q_keptPlace q_keptOn q_keptSticks m_isLawn m_lawns m_wetness m_strength m_days m_balls m_asks m_books m_pageLength m_faultAt m_savedSize m_savedPlace m_savedSticks m_bestSize m_bestFirst m_seedNow m_isKept m_keptLawn m_keptBalls m_keptStrength m_keptDays m_h m_depthOf m_kindOf m_sizeOf m_placeOf m_onOf m_sticksOf m_page m_savedDepth m_gameSize m_gamePlace m_gameSticks m_gameDepth m_keptDepth m_keptSize m_keptPlace m_keptOn m_keptSticks))) (oo := (fun (r : Int32) => some (.int r))) hF RX8 rfl rfl (Nat.le_of_ble_eq_true rfl) ?_
  intro p e s m args below meth c A K hret hlk
  have L4 : ∀ (fu : Nat) (x1 x2 : Int32), Sw (ρ := Int32) p l e ({ frames := 1, cells := 0, slots := 0, locals := 40 } : Room) s m args below meth c 0 0 D A 3 (fun r => MQ below (CQ D ((fun (r : Int32) => (wM cI cC cB cQ kc mh q_depthOf q_kindOf q_sizeOf q_placeOf q_onOf q_sticksOf q_page q_savedDepth q_gameSize q_gamePlace q_gameSticks q_gameDepth q_keptDepth q_keptSize q_keptPlace q_keptOn q_keptSticks m_isLawn m_lawns m_wetness m_strength m_days m_balls m_asks m_books m_pageLength m_faultAt m_savedSize m_savedPlace m_savedSticks m_bestSize m_bestFirst m_seedNow m_isKept m_keptLawn m_keptBalls m_keptStrength m_keptDays m_h m_depthOf m_kindOf m_sizeOf m_placeOf m_onOf m_sticksOf m_page m_savedDepth m_gameSize m_gamePlace m_gameSticks m_gameDepth m_keptDepth m_keptSize m_keptPlace m_keptOn m_keptSticks)) r) ((fun (r : Int32) => some (.int r)) r) A) args s 0 0 A) (f_X8_goneMany_h4 m_balls m_placeOf fu x1 x2) (wM cI cC cB cQ kc mh q_depthOf q_kindOf q_sizeOf q_placeOf q_onOf q_sticksOf q_page q_savedDepth q_gameSize q_gamePlace q_gameSticks q_gameDepth q_keptDepth q_keptSize q_keptPlace q_keptOn q_keptSticks m_isLawn m_lawns m_wetness m_strength m_days m_balls m_asks m_books m_pageLength m_faultAt m_savedSize m_savedPlace m_savedSticks m_bestSize m_bestFirst m_seedNow m_isKept m_keptLawn m_keptBalls m_keptStrength m_keptDays m_h m_depthOf m_kindOf m_sizeOf m_placeOf m_onOf m_sticksOf m_page m_savedDepth m_gameSize m_gamePlace m_gameSticks m_gameDepth m_keptDepth m_keptSize m_keptPlace m_keptOn m_keptSticks) [(0, .ref mh), (1, .int x1), (2, .int x2)] 4 [] := by
    intro  fu
    induction fu with
    | zero =>
      intro x1 x2
      rewrite [f_X8_goneMany_h4]
      exact s_none
    | succ fu ih =>
      intro x1 x2
      rewrite [f_X8_goneMany_h4]
      refine s_iload_n K dX8_goneMany_4 rfl 2 rfl ?_
      refine s_aload_n K dX8_goneMany_5 rfl 0 rfl ?_
      refine s_get K 0 rfl rfl inT8 6 (Nat.le_of_ble_eq_true rfl) t_559 rfl rfl dX8_goneMany_6 ?_
      refine s_icmp_ge (tgt := 36) K dX8_goneMany_9 (by decide) (fun c_1 => ?_) (fun c_1 => ?_)
      · refine s_iload_n K dX8_goneMany_36 rfl 1 rfl ?_
        exact s_iret K hret hlk rfl rfl dX8_goneMany_37
      · refine s_iload_n K dX8_goneMany_12 rfl 1 rfl ?_
        refine s_aload_n K dX8_goneMany_13 rfl 0 rfl ?_
        refine s_get K 0 rfl rfl inT8 9 (Nat.le_of_ble_eq_true rfl) t_562 rfl rfl dX8_goneMany_14 ?_
        refine s_iload_n K dX8_goneMany_17 rfl 2 rfl ?_
        refine s_ck (fun ho_2 => ?_)
        refine s_iald K 4 0 rfl rfl (ok_in ho_2) rfl dX8_goneMany_18 ?_
        refine s_iconst K dX8_goneMany_19 kic_m1 ?_
        refine s_icmp_ne (tgt := 27) K dX8_goneMany_20 (by decide) (fun c_3 => ?_) (fun c_3 => ?_)
        · refine s_iconst K dX8_goneMany_23 kic_1 ?_
          refine s_goto (tgt := 28) K dX8_goneMany_24 (by decide) ?_
          refine s_iadd K dX8_goneMany_28 ?_
          refine s_istore_n (lv' := [(1, .int (x1 + 1)), (0, .ref mh), (2, .int x2)]) K dX8_goneMany_29 rfl (Nat.le_of_ble_eq_true rfl) rfl ?_
          refine s_iinc (lv' := [(2, .int (x2 + 1)), (1, .int (x1 + 1)), (0, .ref mh)]) K dX8_goneMany_30 2 rfl (kii_1 _) (Nat.le_of_ble_eq_true rfl) rfl ?_
          refine s_goto (tgt := 4) K dX8_goneMany_33 (by decide) ?_
          refine s_lv (lv' := [(0, .ref mh), (1, .int (x1 + 1)), (2, .int (x2 + 1))]) [2, 1, 0] rfl ?_
          exact ih (x1 + 1) (x2 + 1)
        · refine s_iconst K dX8_goneMany_27 kic_0 ?_
          refine s_iadd K dX8_goneMany_28 ?_
          refine s_istore_n (lv' := [(1, .int (x1 + 0)), (0, .ref mh), (2, .int x2)]) K dX8_goneMany_29 rfl (Nat.le_of_ble_eq_true rfl) rfl ?_
          refine s_iinc (lv' := [(2, .int (x2 + 1)), (1, .int (x1 + 0)), (0, .ref mh)]) K dX8_goneMany_30 2 rfl (kii_1 _) (Nat.le_of_ble_eq_true rfl) rfl ?_
          refine s_goto (tgt := 4) K dX8_goneMany_33 (by decide) ?_
          refine s_lv (lv' := [(0, .ref mh), (1, .int (x1 + 0)), (2, .int (x2 + 1))]) [2, 1, 0] rfl ?_
          exact ih (x1 + 0) (x2 + 1)
  rewrite [f_X8_goneMany]
  refine s_iconst K dX8_goneMany_0 kic_0 ?_
  refine s_istore_n (lv' := [(1, .int 0), (0, .ref mh)]) K dX8_goneMany_1 rfl (Nat.le_of_ble_eq_true rfl) rfl ?_
  refine s_iconst K dX8_goneMany_2 kic_0 ?_
  refine s_istore_n (lv' := [(2, .int 0), (1, .int 0), (0, .ref mh)]) K dX8_goneMany_3 rfl (Nat.le_of_ble_eq_true rfl) rfl ?_
  refine s_lv (lv' := [(0, .ref mh), (1, .int 0), (2, .int 0)]) [2, 1, 0] rfl ?_
  exact L4 70 0 0
set_option maxHeartbeats 4000000 in
set_option maxRecDepth 100000 in
theorem c_X8_greenMany {l : Launch} {D : va_G} {cI cC cB cQ : ClassId} {kc : Nat → Nat} {kt : Nat} (mh q_depthOf q_kindOf q_sizeOf q_placeOf q_onOf q_sticksOf q_page q_savedDepth q_gameSize q_gamePlace q_gameSticks q_gameDepth q_keptDepth q_keptSize q_keptPlace q_keptOn q_keptSticks : Nat) (m_isLawn m_lawns m_wetness m_strength m_days m_balls m_asks m_books m_pageLength m_faultAt m_savedSize m_savedPlace m_savedSticks m_bestSize m_bestFirst : Int32) (m_seedNow : Int64) (m_isKept m_keptLawn m_keptBalls m_keptStrength m_keptDays : Int32) (m_h : Int64) (m_depthOf m_kindOf m_sizeOf m_placeOf m_onOf m_sticksOf m_page m_savedDepth m_gameSize m_gamePlace m_gameSticks m_gameDepth m_keptDepth m_keptSize m_keptPlace m_keptOn m_keptSticks : Nat → Int32) {r : Int32} (hF : f_X8_greenMany m_isLawn m_depthOf = some r) : CT l D (tysOf cI cC cB cQ) kc kt yX8_greenMany cX8_greenMany 3 (some .int) ({ frames := 1, cells := 0, slots := 0, locals := 40 } : Room) [.ref mh] (wM cI cC cB cQ kc mh q_depthOf q_kindOf q_sizeOf q_placeOf q_onOf q_sticksOf q_page q_savedDepth q_gameSize q_gamePlace q_gameSticks q_gameDepth q_keptDepth q_keptSize q_keptPlace q_keptOn q_keptSticks m_isLawn m_lawns m_wetness m_strength m_days m_balls m_asks m_books m_pageLength m_faultAt m_savedSize m_savedPlace m_savedSticks m_bestSize m_bestFirst m_seedNow m_isKept m_keptLawn m_keptBalls m_keptStrength m_keptDays m_h m_depthOf m_kindOf m_sizeOf m_placeOf m_onOf m_sticksOf m_page m_savedDepth m_gameSize m_gamePlace m_gameSticks m_gameDepth m_keptDepth m_keptSize m_keptPlace m_keptOn m_keptSticks) ((fun (r : Int32) => (wM cI cC cB cQ kc mh q_depthOf q_kindOf q_sizeOf q_placeOf q_onOf q_sticksOf q_page q_savedDepth q_gameSize q_gamePlace q_gameSticks q_gameDepth q_keptDepth q_keptSize q_keptPlace q_keptOn q_keptSticks m_isLawn m_lawns m_wetness m_strength m_days m_balls m_asks m_books m_pageLength m_faultAt m_savedSize m_savedPlace m_savedSticks m_bestSize m_bestFirst m_seedNow m_isKept m_keptLawn m_keptBalls m_keptStrength m_keptDays m_h m_depthOf m_kindOf m_sizeOf m_placeOf m_onOf m_sticksOf m_page m_savedDepth m_gameSize m_gamePlace m_gameSticks m_gameDepth m_keptDepth m_keptSize m_keptPlace m_keptOn m_keptSticks)) r) ((fun (r : Int32) => some (.int r)) r) := by
  refine CT.of (ww := (fun (r : Int32) => (wM cI cC cB cQ kc mh q_depthOf q_kindOf q_sizeOf q_placeOf q_onOf q_sticksOf q_page q_savedDepth q_gameSize q_gamePlace q_gameSticks q_gameDepth q_keptDepth q_keptSize q_keptPlace q_keptOn q_keptSticks m_isLawn m_lawns m_wetness m_strength m_days m_balls m_asks m_books m_pageLength m_faultAt m_savedSize m_savedPlace m_savedSticks m_bestSize m_bestFirst m_seedNow m_isKept m_keptLawn m_keptBalls m_keptStrength m_keptDays m_h m_depthOf m_kindOf m_sizeOf m_placeOf m_onOf m_sticksOf m_page m_savedDepth m_gameSize m_gamePlace m_gameSticks m_gameDepth m_keptDepth m_keptSize m_keptPlace m_keptOn m_keptSticks))) (oo := (fun (r : Int32) => some (.int r))) hF RX8 rfl rfl (Nat.le_of_ble_eq_true rfl) ?_
  intro p e s m args below meth c A K hret hlk
  have L4 : ∀ (fu : Nat) (x1 x2 : Int32), Sw (ρ := Int32) p l e ({ frames := 1, cells := 0, slots := 0, locals := 40 } : Room) s m args below meth c 0 0 D A 3 (fun r => MQ below (CQ D ((fun (r : Int32) => (wM cI cC cB cQ kc mh q_depthOf q_kindOf q_sizeOf q_placeOf q_onOf q_sticksOf q_page q_savedDepth q_gameSize q_gamePlace q_gameSticks q_gameDepth q_keptDepth q_keptSize q_keptPlace q_keptOn q_keptSticks m_isLawn m_lawns m_wetness m_strength m_days m_balls m_asks m_books m_pageLength m_faultAt m_savedSize m_savedPlace m_savedSticks m_bestSize m_bestFirst m_seedNow m_isKept m_keptLawn m_keptBalls m_keptStrength m_keptDays m_h m_depthOf m_kindOf m_sizeOf m_placeOf m_onOf m_sticksOf m_page m_savedDepth m_gameSize m_gamePlace m_gameSticks m_gameDepth m_keptDepth m_keptSize m_keptPlace m_keptOn m_keptSticks)) r) ((fun (r : Int32) => some (.int r)) r) A) args s 0 0 A) (f_X8_greenMany_h4 m_isLawn m_depthOf fu x1 x2) (wM cI cC cB cQ kc mh q_depthOf q_kindOf q_sizeOf q_placeOf q_onOf q_sticksOf q_page q_savedDepth q_gameSize q_gamePlace q_gameSticks q_gameDepth q_keptDepth q_keptSize q_keptPlace q_keptOn q_keptSticks m_isLawn m_lawns m_wetness m_strength m_days m_balls m_asks m_books m_pageLength m_faultAt m_savedSize m_savedPlace m_savedSticks m_bestSize m_bestFirst m_seedNow m_isKept m_keptLawn m_keptBalls m_keptStrength m_keptDays m_h m_depthOf m_kindOf m_sizeOf m_placeOf m_onOf m_sticksOf m_page m_savedDepth m_gameSize m_gamePlace m_gameSticks m_gameDepth m_keptDepth m_keptSize m_keptPlace m_keptOn m_keptSticks) [(0, .ref mh), (1, .int x1), (2, .int x2)] 4 [] := by
    intro  fu
    induction fu with
    | zero =>
      intro x1 x2
      rewrite [f_X8_greenMany_h4]
      exact s_none
    | succ fu ih =>
      intro x1 x2
      rewrite [f_X8_greenMany_h4]
      refine s_iload_n K dX8_greenMany_4 rfl 2 rfl ?_
      refine s_bipush K dX8_greenMany_5 kib_20 ?_
      refine s_icmp_ge (tgt := 40) K dX8_greenMany_7 (by decide) (fun c_1 => ?_) (fun c_1 => ?_)
      · refine s_iload_n K dX8_greenMany_40 rfl 1 rfl ?_
        exact s_iret K hret hlk rfl rfl dX8_greenMany_41
      · refine s_iload_n K dX8_greenMany_10 rfl 1 rfl ?_
        refine s_aload_n K dX8_greenMany_11 rfl 0 rfl ?_
        refine s_get K 0 rfl rfl inT8 0 (Nat.le_of_ble_eq_true rfl) t_553 rfl rfl dX8_greenMany_12 ?_
        refine s_if_eq (tgt := 31) K dX8_greenMany_15 (by decide) (fun c_2 => ?_) (fun c_2 => ?_)
        · refine s_iconst K dX8_greenMany_31 kic_0 ?_
          refine s_iadd K dX8_greenMany_32 ?_
          refine s_istore_n (lv' := [(1, .int (x1 + 0)), (0, .ref mh), (2, .int x2)]) K dX8_greenMany_33 rfl (Nat.le_of_ble_eq_true rfl) rfl ?_
          refine s_iinc (lv' := [(2, .int (x2 + 1)), (1, .int (x1 + 0)), (0, .ref mh)]) K dX8_greenMany_34 2 rfl (kii_1 _) (Nat.le_of_ble_eq_true rfl) rfl ?_
          refine s_goto (tgt := 4) K dX8_greenMany_37 (by decide) ?_
          refine s_lv (lv' := [(0, .ref mh), (1, .int (x1 + 0)), (2, .int (x2 + 1))]) [2, 1, 0] rfl ?_
          exact ih (x1 + 0) (x2 + 1)
        · refine s_aload_n K dX8_greenMany_18 rfl 0 rfl ?_
          refine s_get K 0 rfl rfl inT8 2 (Nat.le_of_ble_eq_true rfl) t_555 rfl rfl dX8_greenMany_19 ?_
          refine s_iload_n K dX8_greenMany_22 rfl 2 rfl ?_
          refine s_ck (fun ho_3 => ?_)
          refine s_iald K 1 0 rfl rfl (ok_in ho_3) rfl dX8_greenMany_23 ?_
          refine s_if_ne (tgt := 31) K dX8_greenMany_24 (by decide) (fun c_4 => ?_) (fun c_4 => ?_)
          · refine s_iconst K dX8_greenMany_27 kic_1 ?_
            refine s_goto (tgt := 32) K dX8_greenMany_28 (by decide) ?_
            refine s_iadd K dX8_greenMany_32 ?_
            refine s_istore_n (lv' := [(1, .int (x1 + 1)), (0, .ref mh), (2, .int x2)]) K dX8_greenMany_33 rfl (Nat.le_of_ble_eq_true rfl) rfl ?_
            refine s_iinc (lv' := [(2, .int (x2 + 1)), (1, .int (x1 + 1)), (0, .ref mh)]) K dX8_greenMany_34 2 rfl (kii_1 _) (Nat.le_of_ble_eq_true rfl) rfl ?_
            refine s_goto (tgt := 4) K dX8_greenMany_37 (by decide) ?_
            refine s_lv (lv' := [(0, .ref mh), (1, .int (x1 + 1)), (2, .int (x2 + 1))]) [2, 1, 0] rfl ?_
            exact ih (x1 + 1) (x2 + 1)
          · refine s_iconst K dX8_greenMany_31 kic_0 ?_
            refine s_iadd K dX8_greenMany_32 ?_
            refine s_istore_n (lv' := [(1, .int (x1 + 0)), (0, .ref mh), (2, .int x2)]) K dX8_greenMany_33 rfl (Nat.le_of_ble_eq_true rfl) rfl ?_
            refine s_iinc (lv' := [(2, .int (x2 + 1)), (1, .int (x1 + 0)), (0, .ref mh)]) K dX8_greenMany_34 2 rfl (kii_1 _) (Nat.le_of_ble_eq_true rfl) rfl ?_
            refine s_goto (tgt := 4) K dX8_greenMany_37 (by decide) ?_
            refine s_lv (lv' := [(0, .ref mh), (1, .int (x1 + 0)), (2, .int (x2 + 1))]) [2, 1, 0] rfl ?_
            exact ih (x1 + 0) (x2 + 1)
  rewrite [f_X8_greenMany]
  refine s_iconst K dX8_greenMany_0 kic_0 ?_
  refine s_istore_n (lv' := [(1, .int 0), (0, .ref mh)]) K dX8_greenMany_1 rfl (Nat.le_of_ble_eq_true rfl) rfl ?_
  refine s_iconst K dX8_greenMany_2 kic_0 ?_
  refine s_istore_n (lv' := [(2, .int 0), (1, .int 0), (0, .ref mh)]) K dX8_greenMany_3 rfl (Nat.le_of_ble_eq_true rfl) rfl ?_
  refine s_lv (lv' := [(0, .ref mh), (1, .int 0), (2, .int 0)]) [2, 1, 0] rfl ?_
  exact L4 70 0 0
set_option maxHeartbeats 4000000 in
set_option maxRecDepth 100000 in
theorem c_X8_howMany {l : Launch} {D : va_G} {cI cC cB cQ : ClassId} {kc : Nat → Nat} {kt : Nat} (mh q_depthOf q_kindOf q_sizeOf q_placeOf q_onOf q_sticksOf q_page q_savedDepth q_gameSize q_gamePlace q_gameSticks q_gameDepth q_keptDepth q_keptSize q_keptPlace q_keptOn q_keptSticks : Nat) (m_isLawn m_lawns m_wetness m_strength m_days m_balls m_asks m_books m_pageLength m_faultAt m_savedSize m_savedPlace m_savedSticks m_bestSize m_bestFirst : Int32) (m_seedNow : Int64) (m_isKept m_keptLawn m_keptBalls m_keptStrength m_keptDays : Int32) (m_h : Int64) (m_depthOf m_kindOf m_sizeOf m_placeOf m_onOf m_sticksOf m_page m_savedDepth m_gameSize m_gamePlace m_gameSticks m_gameDepth m_keptDepth m_keptSize m_keptPlace m_keptOn m_keptSticks : Nat → Int32) (a1 : Int32) {r : Int32} (hF : f_X8_howMany m_isLawn m_lawns m_wetness m_strength m_days m_balls m_asks m_books m_pageLength m_depthOf m_sizeOf m_placeOf a1 = some r) : CT l D (tysOf cI cC cB cQ) kc kt yX8_howMany cX8_howMany 2 (some .int) ({ frames := 2, cells := 0, slots := 0, locals := 102 } : Room) [.ref mh, .int a1] (wM cI cC cB cQ kc mh q_depthOf q_kindOf q_sizeOf q_placeOf q_onOf q_sticksOf q_page q_savedDepth q_gameSize q_gamePlace q_gameSticks q_gameDepth q_keptDepth q_keptSize q_keptPlace q_keptOn q_keptSticks m_isLawn m_lawns m_wetness m_strength m_days m_balls m_asks m_books m_pageLength m_faultAt m_savedSize m_savedPlace m_savedSticks m_bestSize m_bestFirst m_seedNow m_isKept m_keptLawn m_keptBalls m_keptStrength m_keptDays m_h m_depthOf m_kindOf m_sizeOf m_placeOf m_onOf m_sticksOf m_page m_savedDepth m_gameSize m_gamePlace m_gameSticks m_gameDepth m_keptDepth m_keptSize m_keptPlace m_keptOn m_keptSticks) ((fun (r : Int32) => (wM cI cC cB cQ kc mh q_depthOf q_kindOf q_sizeOf q_placeOf q_onOf q_sticksOf q_page q_savedDepth q_gameSize q_gamePlace q_gameSticks q_gameDepth q_keptDepth q_keptSize q_keptPlace q_keptOn q_keptSticks m_isLawn m_lawns m_wetness m_strength m_days m_balls m_asks m_books m_pageLength m_faultAt m_savedSize m_savedPlace m_savedSticks m_bestSize m_bestFirst m_seedNow m_isKept m_keptLawn m_keptBalls m_keptStrength m_keptDays m_h m_depthOf m_kindOf m_sizeOf m_placeOf m_onOf m_sticksOf m_page m_savedDepth m_gameSize m_gamePlace m_gameSticks m_gameDepth m_keptDepth m_keptSize m_keptPlace m_keptOn m_keptSticks)) r) ((fun (r : Int32) => some (.int r)) r) := by
  refine CT.of (ww := (fun (r : Int32) => (wM cI cC cB cQ kc mh q_depthOf q_kindOf q_sizeOf q_placeOf q_onOf q_sticksOf q_page q_savedDepth q_gameSize q_gamePlace q_gameSticks q_gameDepth q_keptDepth q_keptSize q_keptPlace q_keptOn q_keptSticks m_isLawn m_lawns m_wetness m_strength m_days m_balls m_asks m_books m_pageLength m_faultAt m_savedSize m_savedPlace m_savedSticks m_bestSize m_bestFirst m_seedNow m_isKept m_keptLawn m_keptBalls m_keptStrength m_keptDays m_h m_depthOf m_kindOf m_sizeOf m_placeOf m_onOf m_sticksOf m_page m_savedDepth m_gameSize m_gamePlace m_gameSticks m_gameDepth m_keptDepth m_keptSize m_keptPlace m_keptOn m_keptSticks))) (oo := (fun (r : Int32) => some (.int r))) hF RX8 rfl rfl (Nat.le_of_ble_eq_true rfl) ?_
  intro p e s m args below meth c A K hret hlk
  rewrite [f_X8_howMany]
  refine s_iload_n K dX8_howMany_0 rfl 1 rfl ?_
  refine s_ite (fun c_1 => ?_) (fun c_1 => ?_)
  · refine s_swIn K (0) 64 dX8_howMany_1 ⟨by decide, by decide⟩ rfl (by decide) c_1 ?_
    refine s_aload_n K dX8_howMany_64 rfl 0 rfl ?_
    refine s_bind (fun q hq_3 => ?_)
    obtain ⟨r_2, rfl⟩ : ∃ z, z = q := ⟨_, rfl⟩
    refine s_callV (w' := (wM cI cC cB cQ kc mh q_depthOf q_kindOf q_sizeOf q_placeOf q_onOf q_sticksOf q_page q_savedDepth q_gameSize q_gamePlace q_gameSticks q_gameDepth q_keptDepth q_keptSize q_keptPlace q_keptOn q_keptSticks m_isLawn m_lawns m_wetness m_strength m_days m_balls m_asks m_books m_pageLength m_faultAt m_savedSize m_savedPlace m_savedSticks m_bestSize m_bestFirst m_seedNow m_isKept m_keptLawn m_keptBalls m_keptStrength m_keptDays m_h m_depthOf m_kindOf m_sizeOf m_placeOf m_onOf m_sticksOf m_page m_savedDepth m_gameSize m_gamePlace m_gameSticks m_gameDepth m_keptDepth m_keptSize m_keptPlace m_keptOn m_keptSticks)) (rest := []) (st1 := [.int r_2]) K (c_X8_depthAll mh q_depthOf q_kindOf q_sizeOf q_placeOf q_onOf q_sticksOf q_page q_savedDepth q_gameSize q_gamePlace q_gameSticks q_gameDepth q_keptDepth q_keptSize q_keptPlace q_keptOn q_keptSticks m_isLawn m_lawns m_wetness m_strength m_days m_balls m_asks m_books m_pageLength m_faultAt m_savedSize m_savedPlace m_savedSticks m_bestSize m_bestFirst m_seedNow m_isKept m_keptLawn m_keptBalls m_keptStrength m_keptDays m_h m_depthOf m_kindOf m_sizeOf m_placeOf m_onOf m_sticksOf m_page m_savedDepth m_gameSize m_gamePlace m_gameSticks m_gameDepth m_keptDepth m_keptSize m_keptPlace m_keptOn m_keptSticks hq_3) rfl hd_X8_depthAll t_695 t_697 ts_9 t_10 t_698 ⟨(Nat.le_of_ble_eq_true rfl), (Nat.le_of_ble_eq_true rfl)⟩ ⟨rfl, rfl⟩ ⟨Nat.zero_le _, Nat.zero_le _⟩ (rv_o K 0 rfl rfl) [0, 1, 2, 3, 4, 5, 6, 7, 8, 9, 10, 11, 12, 13, 14, 15, 16, 17] [] [0, 1, 2, 3, 4, 5, 6, 7, 8, 9, 10, 11, 12, 13, 14, 15, 16, 17] rfl rfl rfl rfl (by decide) rfl rfl rfl rfl (Nat.le_of_ble_eq_true rfl) dX8_howMany_65 ?_
    exact s_iret K hret hlk rfl rfl dX8_howMany_68
  · refine s_ite (fun c_4 => ?_) (fun c_4 => ?_)
    · refine s_swIn K (1) 69 dX8_howMany_1 ⟨by decide, by decide⟩ rfl (by decide) c_4 ?_
      refine s_aload_n K dX8_howMany_69 rfl 0 rfl ?_
      refine s_get K 0 rfl rfl inT8 6 (Nat.le_of_ble_eq_true rfl) t_559 rfl rfl dX8_howMany_70 ?_
      exact s_iret K hret hlk rfl rfl dX8_howMany_73
    · refine s_ite (fun c_5 => ?_) (fun c_5 => ?_)
      · refine s_swIn K (2) 74 dX8_howMany_1 ⟨by decide, by decide⟩ rfl (by decide) c_5 ?_
        refine s_aload_n K dX8_howMany_74 rfl 0 rfl ?_
        refine s_bind (fun q hq_7 => ?_)
        obtain ⟨r_6, rfl⟩ : ∃ z, z = q := ⟨_, rfl⟩
        refine s_callV (w' := (wM cI cC cB cQ kc mh q_depthOf q_kindOf q_sizeOf q_placeOf q_onOf q_sticksOf q_page q_savedDepth q_gameSize q_gamePlace q_gameSticks q_gameDepth q_keptDepth q_keptSize q_keptPlace q_keptOn q_keptSticks m_isLawn m_lawns m_wetness m_strength m_days m_balls m_asks m_books m_pageLength m_faultAt m_savedSize m_savedPlace m_savedSticks m_bestSize m_bestFirst m_seedNow m_isKept m_keptLawn m_keptBalls m_keptStrength m_keptDays m_h m_depthOf m_kindOf m_sizeOf m_placeOf m_onOf m_sticksOf m_page m_savedDepth m_gameSize m_gamePlace m_gameSticks m_gameDepth m_keptDepth m_keptSize m_keptPlace m_keptOn m_keptSticks)) (rest := []) (st1 := [.int r_6]) K (c_X8_goneMany mh q_depthOf q_kindOf q_sizeOf q_placeOf q_onOf q_sticksOf q_page q_savedDepth q_gameSize q_gamePlace q_gameSticks q_gameDepth q_keptDepth q_keptSize q_keptPlace q_keptOn q_keptSticks m_isLawn m_lawns m_wetness m_strength m_days m_balls m_asks m_books m_pageLength m_faultAt m_savedSize m_savedPlace m_savedSticks m_bestSize m_bestFirst m_seedNow m_isKept m_keptLawn m_keptBalls m_keptStrength m_keptDays m_h m_depthOf m_kindOf m_sizeOf m_placeOf m_onOf m_sticksOf m_page m_savedDepth m_gameSize m_gamePlace m_gameSticks m_gameDepth m_keptDepth m_keptSize m_keptPlace m_keptOn m_keptSticks hq_7) rfl hd_X8_goneMany t_901 t_903 ts_37 t_10 t_904 ⟨(Nat.le_of_ble_eq_true rfl), (Nat.le_of_ble_eq_true rfl)⟩ ⟨rfl, rfl⟩ ⟨Nat.zero_le _, Nat.zero_le _⟩ (rv_o K 0 rfl rfl) [0, 1, 2, 3, 4, 5, 6, 7, 8, 9, 10, 11, 12, 13, 14, 15, 16, 17] [] [0, 1, 2, 3, 4, 5, 6, 7, 8, 9, 10, 11, 12, 13, 14, 15, 16, 17] rfl rfl rfl rfl (by decide) rfl rfl rfl rfl (Nat.le_of_ble_eq_true rfl) dX8_howMany_75 ?_
        exact s_iret K hret hlk rfl rfl dX8_howMany_78
      · refine s_ite (fun c_8 => ?_) (fun c_8 => ?_)
        · refine s_swIn K (3) 79 dX8_howMany_1 ⟨by decide, by decide⟩ rfl (by decide) c_8 ?_
          refine s_aload_n K dX8_howMany_79 rfl 0 rfl ?_
          refine s_bind (fun q hq_10 => ?_)
          obtain ⟨r_9, rfl⟩ : ∃ z, z = q := ⟨_, rfl⟩
          refine s_callV (w' := (wM cI cC cB cQ kc mh q_depthOf q_kindOf q_sizeOf q_placeOf q_onOf q_sticksOf q_page q_savedDepth q_gameSize q_gamePlace q_gameSticks q_gameDepth q_keptDepth q_keptSize q_keptPlace q_keptOn q_keptSticks m_isLawn m_lawns m_wetness m_strength m_days m_balls m_asks m_books m_pageLength m_faultAt m_savedSize m_savedPlace m_savedSticks m_bestSize m_bestFirst m_seedNow m_isKept m_keptLawn m_keptBalls m_keptStrength m_keptDays m_h m_depthOf m_kindOf m_sizeOf m_placeOf m_onOf m_sticksOf m_page m_savedDepth m_gameSize m_gamePlace m_gameSticks m_gameDepth m_keptDepth m_keptSize m_keptPlace m_keptOn m_keptSticks)) (rest := []) (st1 := [.int r_9]) K (c_X8_greenMany mh q_depthOf q_kindOf q_sizeOf q_placeOf q_onOf q_sticksOf q_page q_savedDepth q_gameSize q_gamePlace q_gameSticks q_gameDepth q_keptDepth q_keptSize q_keptPlace q_keptOn q_keptSticks m_isLawn m_lawns m_wetness m_strength m_days m_balls m_asks m_books m_pageLength m_faultAt m_savedSize m_savedPlace m_savedSticks m_bestSize m_bestFirst m_seedNow m_isKept m_keptLawn m_keptBalls m_keptStrength m_keptDays m_h m_depthOf m_kindOf m_sizeOf m_placeOf m_onOf m_sticksOf m_page m_savedDepth m_gameSize m_gamePlace m_gameSticks m_gameDepth m_keptDepth m_keptSize m_keptPlace m_keptOn m_keptSticks hq_10) rfl hd_X8_greenMany t_905 t_907 ts_38 t_10 t_908 ⟨(Nat.le_of_ble_eq_true rfl), (Nat.le_of_ble_eq_true rfl)⟩ ⟨rfl, rfl⟩ ⟨Nat.zero_le _, Nat.zero_le _⟩ (rv_o K 0 rfl rfl) [0, 1, 2, 3, 4, 5, 6, 7, 8, 9, 10, 11, 12, 13, 14, 15, 16, 17] [] [0, 1, 2, 3, 4, 5, 6, 7, 8, 9, 10, 11, 12, 13, 14, 15, 16, 17] rfl rfl rfl rfl (by decide) rfl rfl rfl rfl (Nat.le_of_ble_eq_true rfl) dX8_howMany_80 ?_
          exact s_iret K hret hlk rfl rfl dX8_howMany_83
        · refine s_ite (fun c_11 => ?_) (fun c_11 => ?_)
          · refine s_swIn K (4) 84 dX8_howMany_1 ⟨by decide, by decide⟩ rfl (by decide) c_11 ?_
            refine s_aload_n K dX8_howMany_84 rfl 0 rfl ?_
            refine s_get K 0 rfl rfl inT8 3 (Nat.le_of_ble_eq_true rfl) t_556 rfl rfl dX8_howMany_85 ?_
            exact s_iret K hret hlk rfl rfl dX8_howMany_88
          · refine s_ite (fun c_12 => ?_) (fun c_12 => ?_)
            · refine s_swIn K (5) 89 dX8_howMany_1 ⟨by decide, by decide⟩ rfl (by decide) c_12 ?_
              refine s_aload_n K dX8_howMany_89 rfl 0 rfl ?_
              refine s_get K 0 rfl rfl inT8 4 (Nat.le_of_ble_eq_true rfl) t_557 rfl rfl dX8_howMany_90 ?_
              exact s_iret K hret hlk rfl rfl dX8_howMany_93
            · refine s_ite (fun c_13 => ?_) (fun c_13 => ?_)
              · refine s_swIn K (6) 94 dX8_howMany_1 ⟨by decide, by decide⟩ rfl (by decide) c_13 ?_
                refine s_aload_n K dX8_howMany_94 rfl 0 rfl ?_
                refine s_get K 0 rfl rfl inT8 5 (Nat.le_of_ble_eq_true rfl) t_558 rfl rfl dX8_howMany_95 ?_
                exact s_iret K hret hlk rfl rfl dX8_howMany_98
              · refine s_ite (fun c_14 => ?_) (fun c_14 => ?_)
                · refine s_swIn K (7) 99 dX8_howMany_1 ⟨by decide, by decide⟩ rfl (by decide) c_14 ?_
                  refine s_aload_n K dX8_howMany_99 rfl 0 rfl ?_
                  refine s_bind (fun q hq_16 => ?_)
                  obtain ⟨r_15, rfl⟩ : ∃ z, z = q := ⟨_, rfl⟩
                  refine s_callV (w' := (wM cI cC cB cQ kc mh q_depthOf q_kindOf q_sizeOf q_placeOf q_onOf q_sticksOf q_page q_savedDepth q_gameSize q_gamePlace q_gameSticks q_gameDepth q_keptDepth q_keptSize q_keptPlace q_keptOn q_keptSticks m_isLawn m_lawns m_wetness m_strength m_days m_balls m_asks m_books m_pageLength m_faultAt m_savedSize m_savedPlace m_savedSticks m_bestSize m_bestFirst m_seedNow m_isKept m_keptLawn m_keptBalls m_keptStrength m_keptDays m_h m_depthOf m_kindOf m_sizeOf m_placeOf m_onOf m_sticksOf m_page m_savedDepth m_gameSize m_gamePlace m_gameSticks m_gameDepth m_keptDepth m_keptSize m_keptPlace m_keptOn m_keptSticks)) (rest := []) (st1 := [.int r_15]) K (c_X8_sizeAll mh q_depthOf q_kindOf q_sizeOf q_placeOf q_onOf q_sticksOf q_page q_savedDepth q_gameSize q_gamePlace q_gameSticks q_gameDepth q_keptDepth q_keptSize q_keptPlace q_keptOn q_keptSticks m_isLawn m_lawns m_wetness m_strength m_days m_balls m_asks m_books m_pageLength m_faultAt m_savedSize m_savedPlace m_savedSticks m_bestSize m_bestFirst m_seedNow m_isKept m_keptLawn m_keptBalls m_keptStrength m_keptDays m_h m_depthOf m_kindOf m_sizeOf m_placeOf m_onOf m_sticksOf m_page m_savedDepth m_gameSize m_gamePlace m_gameSticks m_gameDepth m_keptDepth m_keptSize m_keptPlace m_keptOn m_keptSticks hq_16) rfl hd_X8_sizeAll t_881 t_883 ts_35 t_10 t_884 ⟨(Nat.le_of_ble_eq_true rfl), (Nat.le_of_ble_eq_true rfl)⟩ ⟨rfl, rfl⟩ ⟨Nat.zero_le _, Nat.zero_le _⟩ (rv_o K 0 rfl rfl) [0, 1, 2, 3, 4, 5, 6, 7, 8, 9, 10, 11, 12, 13, 14, 15, 16, 17] [] [0, 1, 2, 3, 4, 5, 6, 7, 8, 9, 10, 11, 12, 13, 14, 15, 16, 17] rfl rfl rfl rfl (by decide) rfl rfl rfl rfl (Nat.le_of_ble_eq_true rfl) dX8_howMany_100 ?_
                  exact s_iret K hret hlk rfl rfl dX8_howMany_103
                · refine s_ite (fun c_17 => ?_) (fun c_17 => ?_)
                  · refine s_swIn K (8) 104 dX8_howMany_1 ⟨by decide, by decide⟩ rfl (by decide) c_17 ?_
                    refine s_aload_n K dX8_howMany_104 rfl 0 rfl ?_
                    refine s_get K 0 rfl rfl inT8 14 (Nat.le_of_ble_eq_true rfl) t_567 rfl rfl dX8_howMany_105 ?_
                    exact s_iret K hret hlk rfl rfl dX8_howMany_108
                  · refine s_ite (fun c_18 => ?_) (fun c_18 => ?_)
                    · refine s_swIn K (9) 109 dX8_howMany_1 ⟨by decide, by decide⟩ rfl (by decide) c_18 ?_
                      refine s_aload_n K dX8_howMany_109 rfl 0 rfl ?_
                      refine s_get K 0 rfl rfl inT8 1 (Nat.le_of_ble_eq_true rfl) t_554 rfl rfl dX8_howMany_110 ?_
                      exact s_iret K hret hlk rfl rfl dX8_howMany_113
                    · refine s_ite (fun c_19 => ?_) (fun c_19 => ?_)
                      · refine s_swIn K (10) 114 dX8_howMany_1 ⟨by decide, by decide⟩ rfl (by decide) c_19 ?_
                        refine s_aload_n K dX8_howMany_114 rfl 0 rfl ?_
                        refine s_get K 0 rfl rfl inT8 12 (Nat.le_of_ble_eq_true rfl) t_565 rfl rfl dX8_howMany_115 ?_
                        exact s_iret K hret hlk rfl rfl dX8_howMany_118
                      · refine s_ite (fun c_20 => ?_) (fun c_20 => ?_)
                        · refine s_swIn K (11) 119 dX8_howMany_1 ⟨by decide, by decide⟩ rfl (by decide) c_20 ?_
                          refine s_aload_n K dX8_howMany_119 rfl 0 rfl ?_
                          refine s_get K 0 rfl rfl inT8 13 (Nat.le_of_ble_eq_true rfl) t_566 rfl rfl dX8_howMany_120 ?_
                          exact s_iret K hret hlk rfl rfl dX8_howMany_123
                        · refine s_swOut (tgt := 124) K dX8_howMany_1 (sw_out (n := 11) (by decide) (fun j hj => match j, hj with | 0, _ => c_1 | 1, _ => c_4 | 2, _ => c_5 | 3, _ => c_8 | 4, _ => c_11 | 5, _ => c_12 | 6, _ => c_13 | 7, _ => c_14 | 8, _ => c_17 | 9, _ => c_18 | 10, _ => c_19 | 11, _ => c_20 | j + 12, h => absurd h (by omega))) (by decide) ?_
                          refine s_bipush K dX8_howMany_124 kib_m102 ?_
                          exact s_iret K hret hlk rfl rfl dX8_howMany_126
set_option maxHeartbeats 4000000 in
set_option maxRecDepth 100000 in
theorem c_X8_count {l : Launch} {D : va_G} {cI cC cB cQ : ClassId} {kc : Nat → Nat} {kt : Nat} (mh q_depthOf q_kindOf q_sizeOf q_placeOf q_onOf q_sticksOf q_page q_savedDepth q_gameSize q_gamePlace q_gameSticks q_gameDepth q_keptDepth q_keptSize q_keptPlace q_keptOn q_keptSticks : Nat) (m_isLawn m_lawns m_wetness m_strength m_days m_balls m_asks m_books m_pageLength m_faultAt m_savedSize m_savedPlace m_savedSticks m_bestSize m_bestFirst : Int32) (m_seedNow : Int64) (m_isKept m_keptLawn m_keptBalls m_keptStrength m_keptDays : Int32) (m_h : Int64) (m_depthOf m_kindOf m_sizeOf m_placeOf m_onOf m_sticksOf m_page m_savedDepth m_gameSize m_gamePlace m_gameSticks m_gameDepth m_keptDepth m_keptSize m_keptPlace m_keptOn m_keptSticks : Nat → Int32) (a1 : Int32) {r : Int32} (hF : f_X8_count m_isLawn m_lawns m_wetness m_strength m_days m_balls m_asks m_books m_pageLength m_depthOf m_sizeOf m_placeOf a1 = some r) : CT l D (tysOf cI cC cB cQ) kc kt yX8_count cX8_count 2 (some .int) ({ frames := 3, cells := 0, slots := 0, locals := 163 } : Room) [.ref mh, .int a1] (wM cI cC cB cQ kc mh q_depthOf q_kindOf q_sizeOf q_placeOf q_onOf q_sticksOf q_page q_savedDepth q_gameSize q_gamePlace q_gameSticks q_gameDepth q_keptDepth q_keptSize q_keptPlace q_keptOn q_keptSticks m_isLawn m_lawns m_wetness m_strength m_days m_balls m_asks m_books m_pageLength m_faultAt m_savedSize m_savedPlace m_savedSticks m_bestSize m_bestFirst m_seedNow m_isKept m_keptLawn m_keptBalls m_keptStrength m_keptDays m_h m_depthOf m_kindOf m_sizeOf m_placeOf m_onOf m_sticksOf m_page m_savedDepth m_gameSize m_gamePlace m_gameSticks m_gameDepth m_keptDepth m_keptSize m_keptPlace m_keptOn m_keptSticks) ((fun (r : Int32) => (wM cI cC cB cQ kc mh q_depthOf q_kindOf q_sizeOf q_placeOf q_onOf q_sticksOf q_page q_savedDepth q_gameSize q_gamePlace q_gameSticks q_gameDepth q_keptDepth q_keptSize q_keptPlace q_keptOn q_keptSticks m_isLawn m_lawns m_wetness m_strength m_days m_balls m_asks m_books m_pageLength m_faultAt m_savedSize m_savedPlace m_savedSticks m_bestSize m_bestFirst m_seedNow m_isKept m_keptLawn m_keptBalls m_keptStrength m_keptDays m_h m_depthOf m_kindOf m_sizeOf m_placeOf m_onOf m_sticksOf m_page m_savedDepth m_gameSize m_gamePlace m_gameSticks m_gameDepth m_keptDepth m_keptSize m_keptPlace m_keptOn m_keptSticks)) r) ((fun (r : Int32) => some (.int r)) r) := by
  refine CT.of (ww := (fun (r : Int32) => (wM cI cC cB cQ kc mh q_depthOf q_kindOf q_sizeOf q_placeOf q_onOf q_sticksOf q_page q_savedDepth q_gameSize q_gamePlace q_gameSticks q_gameDepth q_keptDepth q_keptSize q_keptPlace q_keptOn q_keptSticks m_isLawn m_lawns m_wetness m_strength m_days m_balls m_asks m_books m_pageLength m_faultAt m_savedSize m_savedPlace m_savedSticks m_bestSize m_bestFirst m_seedNow m_isKept m_keptLawn m_keptBalls m_keptStrength m_keptDays m_h m_depthOf m_kindOf m_sizeOf m_placeOf m_onOf m_sticksOf m_page m_savedDepth m_gameSize m_gamePlace m_gameSticks m_gameDepth m_keptDepth m_keptSize m_keptPlace m_keptOn m_keptSticks))) (oo := (fun (r : Int32) => some (.int r))) hF RX8 rfl rfl (Nat.le_of_ble_eq_true rfl) ?_
  intro p e s m args below meth c A K hret hlk
  rewrite [f_X8_count]
  refine s_aload_n K dX8_count_0 rfl 0 rfl ?_
  refine s_iload_n K dX8_count_1 rfl 1 rfl ?_
  refine s_bind (fun q hq_2 => ?_)
  obtain ⟨r_1, rfl⟩ : ∃ z, z = q := ⟨_, rfl⟩
  refine s_callV (w' := (wM cI cC cB cQ kc mh q_depthOf q_kindOf q_sizeOf q_placeOf q_onOf q_sticksOf q_page q_savedDepth q_gameSize q_gamePlace q_gameSticks q_gameDepth q_keptDepth q_keptSize q_keptPlace q_keptOn q_keptSticks m_isLawn m_lawns m_wetness m_strength m_days m_balls m_asks m_books m_pageLength m_faultAt m_savedSize m_savedPlace m_savedSticks m_bestSize m_bestFirst m_seedNow m_isKept m_keptLawn m_keptBalls m_keptStrength m_keptDays m_h m_depthOf m_kindOf m_sizeOf m_placeOf m_onOf m_sticksOf m_page m_savedDepth m_gameSize m_gamePlace m_gameSticks m_gameDepth m_keptDepth m_keptSize m_keptPlace m_keptOn m_keptSticks)) (rest := []) (st1 := [.int r_1]) K (c_X8_howMany mh q_depthOf q_kindOf q_sizeOf q_placeOf q_onOf q_sticksOf q_page q_savedDepth q_gameSize q_gamePlace q_gameSticks q_gameDepth q_keptDepth q_keptSize q_keptPlace q_keptOn q_keptSticks m_isLawn m_lawns m_wetness m_strength m_days m_balls m_asks m_books m_pageLength m_faultAt m_savedSize m_savedPlace m_savedSticks m_bestSize m_bestFirst m_seedNow m_isKept m_keptLawn m_keptBalls m_keptStrength m_keptDays m_h m_depthOf m_kindOf m_sizeOf m_placeOf m_onOf m_sticksOf m_page m_savedDepth m_gameSize m_gamePlace m_gameSticks m_gameDepth m_keptDepth m_keptSize m_keptPlace m_keptOn m_keptSticks a1 hq_2) rfl hd_X8_howMany t_897 t_899 ts_36 t_10 t_900 ⟨(Nat.le_of_ble_eq_true rfl), (Nat.le_of_ble_eq_true rfl)⟩ ⟨rfl, rfl⟩ ⟨Nat.zero_le _, Nat.zero_le _⟩ (rv_o K 0 rfl rfl) [0, 1, 2, 3, 4, 5, 6, 7, 8, 9, 10, 11, 12, 13, 14, 15, 16, 17] [] [0, 1, 2, 3, 4, 5, 6, 7, 8, 9, 10, 11, 12, 13, 14, 15, 16, 17] rfl rfl rfl rfl (by decide) rfl rfl rfl rfl (Nat.le_of_ble_eq_true rfl) dX8_count_2 ?_
  exact s_iret K hret hlk rfl rfl dX8_count_5
set_option maxHeartbeats 4000000 in
set_option maxRecDepth 100000 in
theorem c_X8_mix {l : Launch} {D : va_G} {cI cC cB cQ : ClassId} {kc : Nat → Nat} {kt : Nat} (mh q_depthOf q_kindOf q_sizeOf q_placeOf q_onOf q_sticksOf q_page q_savedDepth q_gameSize q_gamePlace q_gameSticks q_gameDepth q_keptDepth q_keptSize q_keptPlace q_keptOn q_keptSticks : Nat) (m_isLawn m_lawns m_wetness m_strength m_days m_balls m_asks m_books m_pageLength m_faultAt m_savedSize m_savedPlace m_savedSticks m_bestSize m_bestFirst : Int32) (m_seedNow : Int64) (m_isKept m_keptLawn m_keptBalls m_keptStrength m_keptDays : Int32) (m_h : Int64) (m_depthOf m_kindOf m_sizeOf m_placeOf m_onOf m_sticksOf m_page m_savedDepth m_gameSize m_gamePlace m_gameSticks m_gameDepth m_keptDepth m_keptSize m_keptPlace m_keptOn m_keptSticks : Nat → Int32) (a1 : Int64) {r : Int64} (hF : f_X8_mix m_h a1 = some r) : CT l D (tysOf cI cC cB cQ) kc kt yX8_mix cX8_mix 3 none ({ frames := 1, cells := 0, slots := 0, locals := 40 } : Room) [.ref mh, .long a1] (wM cI cC cB cQ kc mh q_depthOf q_kindOf q_sizeOf q_placeOf q_onOf q_sticksOf q_page q_savedDepth q_gameSize q_gamePlace q_gameSticks q_gameDepth q_keptDepth q_keptSize q_keptPlace q_keptOn q_keptSticks m_isLawn m_lawns m_wetness m_strength m_days m_balls m_asks m_books m_pageLength m_faultAt m_savedSize m_savedPlace m_savedSticks m_bestSize m_bestFirst m_seedNow m_isKept m_keptLawn m_keptBalls m_keptStrength m_keptDays m_h m_depthOf m_kindOf m_sizeOf m_placeOf m_onOf m_sticksOf m_page m_savedDepth m_gameSize m_gamePlace m_gameSticks m_gameDepth m_keptDepth m_keptSize m_keptPlace m_keptOn m_keptSticks) ((fun (r : Int64) => (wM cI cC cB cQ kc mh q_depthOf q_kindOf q_sizeOf q_placeOf q_onOf q_sticksOf q_page q_savedDepth q_gameSize q_gamePlace q_gameSticks q_gameDepth q_keptDepth q_keptSize q_keptPlace q_keptOn q_keptSticks m_isLawn m_lawns m_wetness m_strength m_days m_balls m_asks m_books m_pageLength m_faultAt m_savedSize m_savedPlace m_savedSticks m_bestSize m_bestFirst m_seedNow m_isKept m_keptLawn m_keptBalls m_keptStrength m_keptDays (r) m_depthOf m_kindOf m_sizeOf m_placeOf m_onOf m_sticksOf m_page m_savedDepth m_gameSize m_gamePlace m_gameSticks m_gameDepth m_keptDepth m_keptSize m_keptPlace m_keptOn m_keptSticks)) r) ((fun (r : Int64) => none) r) := by
  refine CT.of (ww := (fun (r : Int64) => (wM cI cC cB cQ kc mh q_depthOf q_kindOf q_sizeOf q_placeOf q_onOf q_sticksOf q_page q_savedDepth q_gameSize q_gamePlace q_gameSticks q_gameDepth q_keptDepth q_keptSize q_keptPlace q_keptOn q_keptSticks m_isLawn m_lawns m_wetness m_strength m_days m_balls m_asks m_books m_pageLength m_faultAt m_savedSize m_savedPlace m_savedSticks m_bestSize m_bestFirst m_seedNow m_isKept m_keptLawn m_keptBalls m_keptStrength m_keptDays (r) m_depthOf m_kindOf m_sizeOf m_placeOf m_onOf m_sticksOf m_page m_savedDepth m_gameSize m_gamePlace m_gameSticks m_gameDepth m_keptDepth m_keptSize m_keptPlace m_keptOn m_keptSticks))) (oo := (fun (r : Int64) => none)) hF RX8 rfl rfl (Nat.le_of_ble_eq_true rfl) ?_
  intro p e s m args below meth c A K hret hlk
  rewrite [f_X8_mix]
  refine s_aload_n K dX8_mix_0 rfl 0 rfl ?_
  refine s_ldc2 K dX8_mix_1 t_918 ?_
  refine s_aload_n K dX8_mix_4 rfl 0 rfl ?_
  refine s_get K 0 rfl rfl inT8 38 (Nat.le_of_ble_eq_true rfl) t_591 rfl rfl dX8_mix_5 ?_
  refine s_lmul K dX8_mix_8 ?_
  refine s_lload_n K dX8_mix_9 rfl 1 rfl ?_
  refine s_ladd K dX8_mix_10 ?_
  refine s_put (w' := (wM cI cC cB cQ kc mh q_depthOf q_kindOf q_sizeOf q_placeOf q_onOf q_sticksOf q_page q_savedDepth q_gameSize q_gamePlace q_gameSticks q_gameDepth q_keptDepth q_keptSize q_keptPlace q_keptOn q_keptSticks m_isLawn m_lawns m_wetness m_strength m_days m_balls m_asks m_books m_pageLength m_faultAt m_savedSize m_savedPlace m_savedSticks m_bestSize m_bestFirst m_seedNow m_isKept m_keptLawn m_keptBalls m_keptStrength m_keptDays ((31 * m_h) + a1) m_depthOf m_kindOf m_sizeOf m_placeOf m_onOf m_sticksOf m_page m_savedDepth m_gameSize m_gamePlace m_gameSticks m_gameDepth m_keptDepth m_keptSize m_keptPlace m_keptOn m_keptSticks)) K 0 rfl rfl inT8 tyX8_ok nmX8 38 (Nat.le_of_ble_eq_true rfl) t_591 rfl rfl rfl rfl (Nat.le_of_ble_eq_true rfl) rfl dX8_mix_11 ?_
  exact s_vret K hret hlk rfl rfl dX8_mix_14
set_option maxHeartbeats 4000000 in
set_option maxRecDepth 100000 in
theorem c_X8_digest {l : Launch} {D : va_G} {cI cC cB cQ : ClassId} {kc : Nat → Nat} {kt : Nat} (mh q_depthOf q_kindOf q_sizeOf q_placeOf q_onOf q_sticksOf q_page q_savedDepth q_gameSize q_gamePlace q_gameSticks q_gameDepth q_keptDepth q_keptSize q_keptPlace q_keptOn q_keptSticks : Nat) (m_isLawn m_lawns m_wetness m_strength m_days m_balls m_asks m_books m_pageLength m_faultAt m_savedSize m_savedPlace m_savedSticks m_bestSize m_bestFirst : Int32) (m_seedNow : Int64) (m_isKept m_keptLawn m_keptBalls m_keptStrength m_keptDays : Int32) (m_h : Int64) (m_depthOf m_kindOf m_sizeOf m_placeOf m_onOf m_sticksOf m_page m_savedDepth m_gameSize m_gamePlace m_gameSticks m_gameDepth m_keptDepth m_keptSize m_keptPlace m_keptOn m_keptSticks : Nat → Int32) {r : Int64 × Int64} (hF : f_X8_digest m_isLawn m_lawns m_wetness m_strength m_days m_balls m_asks m_books m_pageLength m_depthOf m_kindOf m_sizeOf m_placeOf m_onOf m_sticksOf m_page = some r) : CT l D (tysOf cI cC cB cQ) kc kt yX8_digest cX8_digest 3 (some .long) ({ frames := 4, cells := 0, slots := 0, locals := 235 } : Room) [.ref mh] (wM cI cC cB cQ kc mh q_depthOf q_kindOf q_sizeOf q_placeOf q_onOf q_sticksOf q_page q_savedDepth q_gameSize q_gamePlace q_gameSticks q_gameDepth q_keptDepth q_keptSize q_keptPlace q_keptOn q_keptSticks m_isLawn m_lawns m_wetness m_strength m_days m_balls m_asks m_books m_pageLength m_faultAt m_savedSize m_savedPlace m_savedSticks m_bestSize m_bestFirst m_seedNow m_isKept m_keptLawn m_keptBalls m_keptStrength m_keptDays m_h m_depthOf m_kindOf m_sizeOf m_placeOf m_onOf m_sticksOf m_page m_savedDepth m_gameSize m_gamePlace m_gameSticks m_gameDepth m_keptDepth m_keptSize m_keptPlace m_keptOn m_keptSticks) ((fun (r : Int64 × Int64) => (wM cI cC cB cQ kc mh q_depthOf q_kindOf q_sizeOf q_placeOf q_onOf q_sticksOf q_page q_savedDepth q_gameSize q_gamePlace q_gameSticks q_gameDepth q_keptDepth q_keptSize q_keptPlace q_keptOn q_keptSticks m_isLawn m_lawns m_wetness m_strength m_days m_balls m_asks m_books m_pageLength m_faultAt m_savedSize m_savedPlace m_savedSticks m_bestSize m_bestFirst m_seedNow m_isKept m_keptLawn m_keptBalls m_keptStrength m_keptDays (r.2) m_depthOf m_kindOf m_sizeOf m_placeOf m_onOf m_sticksOf m_page m_savedDepth m_gameSize m_gamePlace m_gameSticks m_gameDepth m_keptDepth m_keptSize m_keptPlace m_keptOn m_keptSticks)) r) ((fun (r : Int64 × Int64) => some (.long (r.1))) r) := by
  refine CT.of (ww := (fun (r : Int64 × Int64) => (wM cI cC cB cQ kc mh q_depthOf q_kindOf q_sizeOf q_placeOf q_onOf q_sticksOf q_page q_savedDepth q_gameSize q_gamePlace q_gameSticks q_gameDepth q_keptDepth q_keptSize q_keptPlace q_keptOn q_keptSticks m_isLawn m_lawns m_wetness m_strength m_days m_balls m_asks m_books m_pageLength m_faultAt m_savedSize m_savedPlace m_savedSticks m_bestSize m_bestFirst m_seedNow m_isKept m_keptLawn m_keptBalls m_keptStrength m_keptDays (r.2) m_depthOf m_kindOf m_sizeOf m_placeOf m_onOf m_sticksOf m_page m_savedDepth m_gameSize m_gamePlace m_gameSticks m_gameDepth m_keptDepth m_keptSize m_keptPlace m_keptOn m_keptSticks))) (oo := (fun (r : Int64 × Int64) => some (.long (r.1)))) hF RX8 rfl rfl (Nat.le_of_ble_eq_true rfl) ?_
  intro p e s m args below meth c A K hret hlk
  have L190 : ∀ (fu : Nat) (m_h : Int64) (x1 : Int32), Sw (ρ := Int64 × Int64) p l e ({ frames := 4, cells := 0, slots := 0, locals := 235 } : Room) s m args below meth c 0 0 D A 3 (fun r => MQ below (CQ D ((fun (r : Int64 × Int64) => (wM cI cC cB cQ kc mh q_depthOf q_kindOf q_sizeOf q_placeOf q_onOf q_sticksOf q_page q_savedDepth q_gameSize q_gamePlace q_gameSticks q_gameDepth q_keptDepth q_keptSize q_keptPlace q_keptOn q_keptSticks m_isLawn m_lawns m_wetness m_strength m_days m_balls m_asks m_books m_pageLength m_faultAt m_savedSize m_savedPlace m_savedSticks m_bestSize m_bestFirst m_seedNow m_isKept m_keptLawn m_keptBalls m_keptStrength m_keptDays (r.2) m_depthOf m_kindOf m_sizeOf m_placeOf m_onOf m_sticksOf m_page m_savedDepth m_gameSize m_gamePlace m_gameSticks m_gameDepth m_keptDepth m_keptSize m_keptPlace m_keptOn m_keptSticks)) r) ((fun (r : Int64 × Int64) => some (.long (r.1))) r) A) args s 0 0 A) (f_X8_digest_h190 m_isLawn m_lawns m_wetness m_strength m_days m_balls m_asks m_books m_pageLength m_depthOf m_sizeOf m_placeOf fu m_h x1) (wM cI cC cB cQ kc mh q_depthOf q_kindOf q_sizeOf q_placeOf q_onOf q_sticksOf q_page q_savedDepth q_gameSize q_gamePlace q_gameSticks q_gameDepth q_keptDepth q_keptSize q_keptPlace q_keptOn q_keptSticks m_isLawn m_lawns m_wetness m_strength m_days m_balls m_asks m_books m_pageLength m_faultAt m_savedSize m_savedPlace m_savedSticks m_bestSize m_bestFirst m_seedNow m_isKept m_keptLawn m_keptBalls m_keptStrength m_keptDays m_h m_depthOf m_kindOf m_sizeOf m_placeOf m_onOf m_sticksOf m_page m_savedDepth m_gameSize m_gamePlace m_gameSticks m_gameDepth m_keptDepth m_keptSize m_keptPlace m_keptOn m_keptSticks) [(0, .ref mh), (1, .int x1)] 190 [] := by
    intro  fu
    induction fu with
    | zero =>
      intro m_h x1
      rewrite [f_X8_digest_h190]
      exact s_none
    | succ fu ih =>
      intro m_h x1
      rewrite [f_X8_digest_h190]
      refine s_iload_n K dX8_digest_190 rfl 1 rfl ?_
      refine s_bipush K dX8_digest_191 kib_12 ?_
      refine s_icmp_ge (tgt := 212) K dX8_digest_193 (by decide) (fun c_44 => ?_) (fun c_44 => ?_)
      · refine s_aload_n K dX8_digest_212 rfl 0 rfl ?_
        refine s_get K 0 rfl rfl inT8 38 (Nat.le_of_ble_eq_true rfl) t_591 rfl rfl dX8_digest_213 ?_
        exact s_lret K hret hlk rfl rfl dX8_digest_216
      · refine s_aload_n K dX8_digest_196 rfl 0 rfl ?_
        refine s_aload_n K dX8_digest_197 rfl 0 rfl ?_
        refine s_iload_n K dX8_digest_198 rfl 1 rfl ?_
        refine s_bind (fun q hq_46 => ?_)
        obtain ⟨r_45, rfl⟩ : ∃ z, z = q := ⟨_, rfl⟩
        refine s_callV (w' := (wM cI cC cB cQ kc mh q_depthOf q_kindOf q_sizeOf q_placeOf q_onOf q_sticksOf q_page q_savedDepth q_gameSize q_gamePlace q_gameSticks q_gameDepth q_keptDepth q_keptSize q_keptPlace q_keptOn q_keptSticks m_isLawn m_lawns m_wetness m_strength m_days m_balls m_asks m_books m_pageLength m_faultAt m_savedSize m_savedPlace m_savedSticks m_bestSize m_bestFirst m_seedNow m_isKept m_keptLawn m_keptBalls m_keptStrength m_keptDays m_h m_depthOf m_kindOf m_sizeOf m_placeOf m_onOf m_sticksOf m_page m_savedDepth m_gameSize m_gamePlace m_gameSticks m_gameDepth m_keptDepth m_keptSize m_keptPlace m_keptOn m_keptSticks)) (rest := [.ref mh]) (st1 := [.int r_45, .ref mh]) K (c_X8_howMany mh q_depthOf q_kindOf q_sizeOf q_placeOf q_onOf q_sticksOf q_page q_savedDepth q_gameSize q_gamePlace q_gameSticks q_gameDepth q_keptDepth q_keptSize q_keptPlace q_keptOn q_keptSticks m_isLawn m_lawns m_wetness m_strength m_days m_balls m_asks m_books m_pageLength m_faultAt m_savedSize m_savedPlace m_savedSticks m_bestSize m_bestFirst m_seedNow m_isKept m_keptLawn m_keptBalls m_keptStrength m_keptDays m_h m_depthOf m_kindOf m_sizeOf m_placeOf m_onOf m_sticksOf m_page m_savedDepth m_gameSize m_gamePlace m_gameSticks m_gameDepth m_keptDepth m_keptSize m_keptPlace m_keptOn m_keptSticks x1 hq_46) rfl hd_X8_howMany t_897 t_899 ts_36 t_10 t_900 ⟨(Nat.le_of_ble_eq_true rfl), (Nat.le_of_ble_eq_true rfl)⟩ ⟨rfl, rfl⟩ ⟨Nat.zero_le _, Nat.zero_le _⟩ (rv_o K 0 rfl rfl) [0, 1, 2, 3, 4, 5, 6, 7, 8, 9, 10, 11, 12, 13, 14, 15, 16, 17] [] [0, 1, 2, 3, 4, 5, 6, 7, 8, 9, 10, 11, 12, 13, 14, 15, 16, 17] rfl rfl rfl rfl (by decide) rfl rfl rfl rfl (Nat.le_of_ble_eq_true rfl) dX8_digest_199 ?_
        refine s_i2l K dX8_digest_202 ?_
        refine s_bind (fun q hq_48 => ?_)
        obtain ⟨m_h_47, rfl⟩ : ∃ z, z = q := ⟨_, rfl⟩
        refine s_callV (w' := (wM cI cC cB cQ kc mh q_depthOf q_kindOf q_sizeOf q_placeOf q_onOf q_sticksOf q_page q_savedDepth q_gameSize q_gamePlace q_gameSticks q_gameDepth q_keptDepth q_keptSize q_keptPlace q_keptOn q_keptSticks m_isLawn m_lawns m_wetness m_strength m_days m_balls m_asks m_books m_pageLength m_faultAt m_savedSize m_savedPlace m_savedSticks m_bestSize m_bestFirst m_seedNow m_isKept m_keptLawn m_keptBalls m_keptStrength m_keptDays m_h_47 m_depthOf m_kindOf m_sizeOf m_placeOf m_onOf m_sticksOf m_page m_savedDepth m_gameSize m_gamePlace m_gameSticks m_gameDepth m_keptDepth m_keptSize m_keptPlace m_keptOn m_keptSticks)) (rest := []) (st1 := []) K (c_X8_mix mh q_depthOf q_kindOf q_sizeOf q_placeOf q_onOf q_sticksOf q_page q_savedDepth q_gameSize q_gamePlace q_gameSticks q_gameDepth q_keptDepth q_keptSize q_keptPlace q_keptOn q_keptSticks m_isLawn m_lawns m_wetness m_strength m_days m_balls m_asks m_books m_pageLength m_faultAt m_savedSize m_savedPlace m_savedSticks m_bestSize m_bestFirst m_seedNow m_isKept m_keptLawn m_keptBalls m_keptStrength m_keptDays m_h m_depthOf m_kindOf m_sizeOf m_placeOf m_onOf m_sticksOf m_page m_savedDepth m_gameSize m_gamePlace m_gameSticks m_gameDepth m_keptDepth m_keptSize m_keptPlace m_keptOn m_keptSticks (Int32.toInt64 r_45) hq_48) rfl hd_X8_mix t_914 t_916 ts_39 t_10 t_917 ⟨(Nat.le_of_ble_eq_true rfl), (Nat.le_of_ble_eq_true rfl)⟩ ⟨rfl, rfl⟩ ⟨Nat.zero_le _, Nat.zero_le _⟩ (rv_o K 0 rfl rfl) [0, 1, 2, 3, 4, 5, 6, 7, 8, 9, 10, 11, 12, 13, 14, 15, 16, 17] [] [0, 1, 2, 3, 4, 5, 6, 7, 8, 9, 10, 11, 12, 13, 14, 15, 16, 17] rfl rfl rfl rfl (by decide) rfl rfl rfl rfl (Nat.le_of_ble_eq_true rfl) dX8_digest_203 ?_
        refine s_iinc (lv' := [(1, .int (x1 + 1)), (0, .ref mh)]) K dX8_digest_206 1 rfl (kii_1 _) (Nat.le_of_ble_eq_true rfl) rfl ?_
        refine s_goto (tgt := 190) K dX8_digest_209 (by decide) ?_
        refine s_lv (lv' := [(0, .ref mh), (1, .int (x1 + 1))]) [1, 0] rfl ?_
        exact ih m_h_47 (x1 + 1)
  have L163 : ∀ (fu : Nat) (m_h : Int64) (x1 : Int32), Sw (ρ := Int64 × Int64) p l e ({ frames := 4, cells := 0, slots := 0, locals := 235 } : Room) s m args below meth c 0 0 D A 3 (fun r => MQ below (CQ D ((fun (r : Int64 × Int64) => (wM cI cC cB cQ kc mh q_depthOf q_kindOf q_sizeOf q_placeOf q_onOf q_sticksOf q_page q_savedDepth q_gameSize q_gamePlace q_gameSticks q_gameDepth q_keptDepth q_keptSize q_keptPlace q_keptOn q_keptSticks m_isLawn m_lawns m_wetness m_strength m_days m_balls m_asks m_books m_pageLength m_faultAt m_savedSize m_savedPlace m_savedSticks m_bestSize m_bestFirst m_seedNow m_isKept m_keptLawn m_keptBalls m_keptStrength m_keptDays (r.2) m_depthOf m_kindOf m_sizeOf m_placeOf m_onOf m_sticksOf m_page m_savedDepth m_gameSize m_gamePlace m_gameSticks m_gameDepth m_keptDepth m_keptSize m_keptPlace m_keptOn m_keptSticks)) r) ((fun (r : Int64 × Int64) => some (.long (r.1))) r) A) args s 0 0 A) (f_X8_digest_h163 m_isLawn m_lawns m_wetness m_strength m_days m_balls m_asks m_books m_pageLength m_depthOf m_sizeOf m_placeOf m_page fu m_h x1) (wM cI cC cB cQ kc mh q_depthOf q_kindOf q_sizeOf q_placeOf q_onOf q_sticksOf q_page q_savedDepth q_gameSize q_gamePlace q_gameSticks q_gameDepth q_keptDepth q_keptSize q_keptPlace q_keptOn q_keptSticks m_isLawn m_lawns m_wetness m_strength m_days m_balls m_asks m_books m_pageLength m_faultAt m_savedSize m_savedPlace m_savedSticks m_bestSize m_bestFirst m_seedNow m_isKept m_keptLawn m_keptBalls m_keptStrength m_keptDays m_h m_depthOf m_kindOf m_sizeOf m_placeOf m_onOf m_sticksOf m_page m_savedDepth m_gameSize m_gamePlace m_gameSticks m_gameDepth m_keptDepth m_keptSize m_keptPlace m_keptOn m_keptSticks) [(0, .ref mh), (1, .int x1)] 163 [] := by
    intro  fu
    induction fu with
    | zero =>
      intro m_h x1
      rewrite [f_X8_digest_h163]
      exact s_none
    | succ fu ih =>
      intro m_h x1
      rewrite [f_X8_digest_h163]
      refine s_iload_n K dX8_digest_163 rfl 1 rfl ?_
      refine s_aload_n K dX8_digest_164 rfl 0 rfl ?_
      refine s_get K 0 rfl rfl inT8 14 (Nat.le_of_ble_eq_true rfl) t_567 rfl rfl dX8_digest_165 ?_
      refine s_icmp_ge (tgt := 188) K dX8_digest_168 (by decide) (fun c_40 => ?_) (fun c_40 => ?_)
      · refine s_iconst K dX8_digest_188 kic_0 ?_
        refine s_istore_n (lv' := [(1, .int 0), (0, .ref mh)]) K dX8_digest_189 rfl (Nat.le_of_ble_eq_true rfl) rfl ?_
        refine s_lv (lv' := [(0, .ref mh), (1, .int 0)]) [1, 0] rfl ?_
        exact L190 70 m_h 0
      · refine s_aload_n K dX8_digest_171 rfl 0 rfl ?_
        refine s_aload_n K dX8_digest_172 rfl 0 rfl ?_
        refine s_get K 0 rfl rfl inT8 15 (Nat.le_of_ble_eq_true rfl) t_568 rfl rfl dX8_digest_173 ?_
        refine s_iload_n K dX8_digest_176 rfl 1 rfl ?_
        refine s_ck (fun ho_41 => ?_)
        refine s_bald K 7 2 rfl rfl (ok_in ho_41) rfl dX8_digest_177 ?_
        refine s_i2l K dX8_digest_178 ?_
        refine s_bind (fun q hq_43 => ?_)
        obtain ⟨m_h_42, rfl⟩ : ∃ z, z = q := ⟨_, rfl⟩
        refine s_callV (w' := (wM cI cC cB cQ kc mh q_depthOf q_kindOf q_sizeOf q_placeOf q_onOf q_sticksOf q_page q_savedDepth q_gameSize q_gamePlace q_gameSticks q_gameDepth q_keptDepth q_keptSize q_keptPlace q_keptOn q_keptSticks m_isLawn m_lawns m_wetness m_strength m_days m_balls m_asks m_books m_pageLength m_faultAt m_savedSize m_savedPlace m_savedSticks m_bestSize m_bestFirst m_seedNow m_isKept m_keptLawn m_keptBalls m_keptStrength m_keptDays m_h_42 m_depthOf m_kindOf m_sizeOf m_placeOf m_onOf m_sticksOf m_page m_savedDepth m_gameSize m_gamePlace m_gameSticks m_gameDepth m_keptDepth m_keptSize m_keptPlace m_keptOn m_keptSticks)) (rest := []) (st1 := []) K (c_X8_mix mh q_depthOf q_kindOf q_sizeOf q_placeOf q_onOf q_sticksOf q_page q_savedDepth q_gameSize q_gamePlace q_gameSticks q_gameDepth q_keptDepth q_keptSize q_keptPlace q_keptOn q_keptSticks m_isLawn m_lawns m_wetness m_strength m_days m_balls m_asks m_books m_pageLength m_faultAt m_savedSize m_savedPlace m_savedSticks m_bestSize m_bestFirst m_seedNow m_isKept m_keptLawn m_keptBalls m_keptStrength m_keptDays m_h m_depthOf m_kindOf m_sizeOf m_placeOf m_onOf m_sticksOf m_page m_savedDepth m_gameSize m_gamePlace m_gameSticks m_gameDepth m_keptDepth m_keptSize m_keptPlace m_keptOn m_keptSticks (Int32.toInt64 (m_page (Int32.toNatClampNeg x1))) hq_43) rfl hd_X8_mix t_914 t_916 ts_39 t_10 t_917 ⟨(Nat.le_of_ble_eq_true rfl), (Nat.le_of_ble_eq_true rfl)⟩ ⟨rfl, rfl⟩ ⟨Nat.zero_le _, Nat.zero_le _⟩ (rv_o K 0 rfl rfl) [0, 1, 2, 3, 4, 5, 6, 7, 8, 9, 10, 11, 12, 13, 14, 15, 16, 17] [] [0, 1, 2, 3, 4, 5, 6, 7, 8, 9, 10, 11, 12, 13, 14, 15, 16, 17] rfl rfl rfl rfl (by decide) rfl rfl rfl rfl (Nat.le_of_ble_eq_true rfl) dX8_digest_179 ?_
        refine s_iinc (lv' := [(1, .int (x1 + 1)), (0, .ref mh)]) K dX8_digest_182 1 rfl (kii_1 _) (Nat.le_of_ble_eq_true rfl) rfl ?_
        refine s_goto (tgt := 163) K dX8_digest_185 (by decide) ?_
        refine s_lv (lv' := [(0, .ref mh), (1, .int (x1 + 1))]) [1, 0] rfl ?_
        exact ih m_h_42 (x1 + 1)
  have L96 : ∀ (kk61 : Int64 → Int32 → Option (Int64 × Int64)), (∀ (m_h : Int64) (x1 : Int32), Sw (ρ := Int64 × Int64) p l e ({ frames := 4, cells := 0, slots := 0, locals := 235 } : Room) s m args below meth c 0 0 D A 3 (fun r => MQ below (CQ D ((fun (r : Int64 × Int64) => (wM cI cC cB cQ kc mh q_depthOf q_kindOf q_sizeOf q_placeOf q_onOf q_sticksOf q_page q_savedDepth q_gameSize q_gamePlace q_gameSticks q_gameDepth q_keptDepth q_keptSize q_keptPlace q_keptOn q_keptSticks m_isLawn m_lawns m_wetness m_strength m_days m_balls m_asks m_books m_pageLength m_faultAt m_savedSize m_savedPlace m_savedSticks m_bestSize m_bestFirst m_seedNow m_isKept m_keptLawn m_keptBalls m_keptStrength m_keptDays (r.2) m_depthOf m_kindOf m_sizeOf m_placeOf m_onOf m_sticksOf m_page m_savedDepth m_gameSize m_gamePlace m_gameSticks m_gameDepth m_keptDepth m_keptSize m_keptPlace m_keptOn m_keptSticks)) r) ((fun (r : Int64 × Int64) => some (.long (r.1))) r) A) args s 0 0 A) (kk61 m_h x1) (wM cI cC cB cQ kc mh q_depthOf q_kindOf q_sizeOf q_placeOf q_onOf q_sticksOf q_page q_savedDepth q_gameSize q_gamePlace q_gameSticks q_gameDepth q_keptDepth q_keptSize q_keptPlace q_keptOn q_keptSticks m_isLawn m_lawns m_wetness m_strength m_days m_balls m_asks m_books m_pageLength m_faultAt m_savedSize m_savedPlace m_savedSticks m_bestSize m_bestFirst m_seedNow m_isKept m_keptLawn m_keptBalls m_keptStrength m_keptDays m_h m_depthOf m_kindOf m_sizeOf m_placeOf m_onOf m_sticksOf m_page m_savedDepth m_gameSize m_gamePlace m_gameSticks m_gameDepth m_keptDepth m_keptSize m_keptPlace m_keptOn m_keptSticks) [(0, .ref mh), (1, .int x1)] 61 []) → ∀ (fu : Nat) (m_h : Int64) (x1 x2 : Int32), Sw (ρ := Int64 × Int64) p l e ({ frames := 4, cells := 0, slots := 0, locals := 235 } : Room) s m args below meth c 0 0 D A 3 (fun r => MQ below (CQ D ((fun (r : Int64 × Int64) => (wM cI cC cB cQ kc mh q_depthOf q_kindOf q_sizeOf q_placeOf q_onOf q_sticksOf q_page q_savedDepth q_gameSize q_gamePlace q_gameSticks q_gameDepth q_keptDepth q_keptSize q_keptPlace q_keptOn q_keptSticks m_isLawn m_lawns m_wetness m_strength m_days m_balls m_asks m_books m_pageLength m_faultAt m_savedSize m_savedPlace m_savedSticks m_bestSize m_bestFirst m_seedNow m_isKept m_keptLawn m_keptBalls m_keptStrength m_keptDays (r.2) m_depthOf m_kindOf m_sizeOf m_placeOf m_onOf m_sticksOf m_page m_savedDepth m_gameSize m_gamePlace m_gameSticks m_gameDepth m_keptDepth m_keptSize m_keptPlace m_keptOn m_keptSticks)) r) ((fun (r : Int64 × Int64) => some (.long (r.1))) r) A) args s 0 0 A) (f_X8_digest_h96 kk61 m_strength m_balls m_kindOf m_sizeOf m_placeOf m_onOf m_sticksOf fu m_h x1 x2) (wM cI cC cB cQ kc mh q_depthOf q_kindOf q_sizeOf q_placeOf q_onOf q_sticksOf q_page q_savedDepth q_gameSize q_gamePlace q_gameSticks q_gameDepth q_keptDepth q_keptSize q_keptPlace q_keptOn q_keptSticks m_isLawn m_lawns m_wetness m_strength m_days m_balls m_asks m_books m_pageLength m_faultAt m_savedSize m_savedPlace m_savedSticks m_bestSize m_bestFirst m_seedNow m_isKept m_keptLawn m_keptBalls m_keptStrength m_keptDays m_h m_depthOf m_kindOf m_sizeOf m_placeOf m_onOf m_sticksOf m_page m_savedDepth m_gameSize m_gamePlace m_gameSticks m_gameDepth m_keptDepth m_keptSize m_keptPlace m_keptOn m_keptSticks) [(0, .ref mh), (1, .int x1), (2, .int x2)] 96 [] := by
    intro kk61 hkk61 fu
    induction fu with
    | zero =>
      intro m_h x1 x2
      rewrite [f_X8_digest_h96]
      exact s_none
    | succ fu ih =>
      intro m_h x1 x2
      rewrite [f_X8_digest_h96]
      refine s_iload_n K dX8_digest_96 rfl 2 rfl ?_
      refine s_iconst K dX8_digest_97 kic_4 ?_
      refine s_icmp_ge (tgt := 125) K dX8_digest_98 (by decide) (fun c_32 => ?_) (fun c_32 => ?_)
      · refine s_iinc (lv' := [(1, .int (x1 + 1)), (0, .ref mh), (2, .int x2)]) K dX8_digest_125 1 rfl (kii_1 _) (Nat.le_of_ble_eq_true rfl) rfl ?_
        refine s_goto (tgt := 61) K dX8_digest_128 (by decide) ?_
        refine s_lv (lv' := [(0, .ref mh), (1, .int (x1 + 1))]) [1, 0] rfl ?_
        exact hkk61 m_h (x1 + 1)
      · refine s_aload_n K dX8_digest_101 rfl 0 rfl ?_
        refine s_aload_n K dX8_digest_102 rfl 0 rfl ?_
        refine s_iload_n K dX8_digest_103 rfl 1 rfl ?_
        refine s_iload_n K dX8_digest_104 rfl 2 rfl ?_
        refine s_bind (fun q hq_34 => ?_)
        obtain ⟨r_33, rfl⟩ : ∃ z, z = q := ⟨_, rfl⟩
        refine s_callV (w' := (wM cI cC cB cQ kc mh q_depthOf q_kindOf q_sizeOf q_placeOf q_onOf q_sticksOf q_page q_savedDepth q_gameSize q_gamePlace q_gameSticks q_gameDepth q_keptDepth q_keptSize q_keptPlace q_keptOn q_keptSticks m_isLawn m_lawns m_wetness m_strength m_days m_balls m_asks m_books m_pageLength m_faultAt m_savedSize m_savedPlace m_savedSticks m_bestSize m_bestFirst m_seedNow m_isKept m_keptLawn m_keptBalls m_keptStrength m_keptDays m_h m_depthOf m_kindOf m_sizeOf m_placeOf m_onOf m_sticksOf m_page m_savedDepth m_gameSize m_gamePlace m_gameSticks m_gameDepth m_keptDepth m_keptSize m_keptPlace m_keptOn m_keptSticks)) (rest := [.ref mh]) (st1 := [.int r_33, .ref mh]) K (c_X8_mayRoll mh q_depthOf q_kindOf q_sizeOf q_placeOf q_onOf q_sticksOf q_page q_savedDepth q_gameSize q_gamePlace q_gameSticks q_gameDepth q_keptDepth q_keptSize q_keptPlace q_keptOn q_keptSticks m_isLawn m_lawns m_wetness m_strength m_days m_balls m_asks m_books m_pageLength m_faultAt m_savedSize m_savedPlace m_savedSticks m_bestSize m_bestFirst m_seedNow m_isKept m_keptLawn m_keptBalls m_keptStrength m_keptDays m_h m_depthOf m_kindOf m_sizeOf m_placeOf m_onOf m_sticksOf m_page m_savedDepth m_gameSize m_gamePlace m_gameSticks m_gameDepth m_keptDepth m_keptSize m_keptPlace m_keptOn m_keptSticks x1 x2 hq_34) rfl hd_X8_mayRoll t_757 t_759 ts_17 t_10 t_760 ⟨(Nat.le_of_ble_eq_true rfl), (Nat.le_of_ble_eq_true rfl)⟩ ⟨rfl, rfl⟩ ⟨Nat.zero_le _, Nat.zero_le _⟩ (rv_o K 0 rfl rfl) [0, 1, 2, 3, 4, 5, 6, 7, 8, 9, 10, 11, 12, 13, 14, 15, 16, 17] [] [0, 1, 2, 3, 4, 5, 6, 7, 8, 9, 10, 11, 12, 13, 14, 15, 16, 17] rfl rfl rfl rfl (by decide) rfl rfl rfl rfl (Nat.le_of_ble_eq_true rfl) dX8_digest_105 ?_
        refine s_if_eq (tgt := 115) K dX8_digest_108 (by decide) (fun c_35 => ?_) (fun c_35 => ?_)
        · refine s_lconst (v := 0) K dX8_digest_115 rfl ?_
          refine s_bind (fun q hq_37 => ?_)
          obtain ⟨m_h_36, rfl⟩ : ∃ z, z = q := ⟨_, rfl⟩
          refine s_callV (w' := (wM cI cC cB cQ kc mh q_depthOf q_kindOf q_sizeOf q_placeOf q_onOf q_sticksOf q_page q_savedDepth q_gameSize q_gamePlace q_gameSticks q_gameDepth q_keptDepth q_keptSize q_keptPlace q_keptOn q_keptSticks m_isLawn m_lawns m_wetness m_strength m_days m_balls m_asks m_books m_pageLength m_faultAt m_savedSize m_savedPlace m_savedSticks m_bestSize m_bestFirst m_seedNow m_isKept m_keptLawn m_keptBalls m_keptStrength m_keptDays m_h_36 m_depthOf m_kindOf m_sizeOf m_placeOf m_onOf m_sticksOf m_page m_savedDepth m_gameSize m_gamePlace m_gameSticks m_gameDepth m_keptDepth m_keptSize m_keptPlace m_keptOn m_keptSticks)) (rest := []) (st1 := []) K (c_X8_mix mh q_depthOf q_kindOf q_sizeOf q_placeOf q_onOf q_sticksOf q_page q_savedDepth q_gameSize q_gamePlace q_gameSticks q_gameDepth q_keptDepth q_keptSize q_keptPlace q_keptOn q_keptSticks m_isLawn m_lawns m_wetness m_strength m_days m_balls m_asks m_books m_pageLength m_faultAt m_savedSize m_savedPlace m_savedSticks m_bestSize m_bestFirst m_seedNow m_isKept m_keptLawn m_keptBalls m_keptStrength m_keptDays m_h m_depthOf m_kindOf m_sizeOf m_placeOf m_onOf m_sticksOf m_page m_savedDepth m_gameSize m_gamePlace m_gameSticks m_gameDepth m_keptDepth m_keptSize m_keptPlace m_keptOn m_keptSticks 0 hq_37) rfl hd_X8_mix t_914 t_916 ts_39 t_10 t_917 ⟨(Nat.le_of_ble_eq_true rfl), (Nat.le_of_ble_eq_true rfl)⟩ ⟨rfl, rfl⟩ ⟨Nat.zero_le _, Nat.zero_le _⟩ (rv_o K 0 rfl rfl) [0, 1, 2, 3, 4, 5, 6, 7, 8, 9, 10, 11, 12, 13, 14, 15, 16, 17] [] [0, 1, 2, 3, 4, 5, 6, 7, 8, 9, 10, 11, 12, 13, 14, 15, 16, 17] rfl rfl rfl rfl (by decide) rfl rfl rfl rfl (Nat.le_of_ble_eq_true rfl) dX8_digest_116 ?_
          refine s_iinc (lv' := [(2, .int (x2 + 1)), (0, .ref mh), (1, .int x1)]) K dX8_digest_119 2 rfl (kii_1 _) (Nat.le_of_ble_eq_true rfl) rfl ?_
          refine s_goto (tgt := 96) K dX8_digest_122 (by decide) ?_
          refine s_lv (lv' := [(0, .ref mh), (1, .int x1), (2, .int (x2 + 1))]) [1, 2, 0] rfl ?_
          exact ih m_h_36 x1 (x2 + 1)
        · refine s_lconst (v := 1) K dX8_digest_111 rfl ?_
          refine s_goto (tgt := 116) K dX8_digest_112 (by decide) ?_
          refine s_bind (fun q hq_39 => ?_)
          obtain ⟨m_h_38, rfl⟩ : ∃ z, z = q := ⟨_, rfl⟩
          refine s_callV (w' := (wM cI cC cB cQ kc mh q_depthOf q_kindOf q_sizeOf q_placeOf q_onOf q_sticksOf q_page q_savedDepth q_gameSize q_gamePlace q_gameSticks q_gameDepth q_keptDepth q_keptSize q_keptPlace q_keptOn q_keptSticks m_isLawn m_lawns m_wetness m_strength m_days m_balls m_asks m_books m_pageLength m_faultAt m_savedSize m_savedPlace m_savedSticks m_bestSize m_bestFirst m_seedNow m_isKept m_keptLawn m_keptBalls m_keptStrength m_keptDays m_h_38 m_depthOf m_kindOf m_sizeOf m_placeOf m_onOf m_sticksOf m_page m_savedDepth m_gameSize m_gamePlace m_gameSticks m_gameDepth m_keptDepth m_keptSize m_keptPlace m_keptOn m_keptSticks)) (rest := []) (st1 := []) K (c_X8_mix mh q_depthOf q_kindOf q_sizeOf q_placeOf q_onOf q_sticksOf q_page q_savedDepth q_gameSize q_gamePlace q_gameSticks q_gameDepth q_keptDepth q_keptSize q_keptPlace q_keptOn q_keptSticks m_isLawn m_lawns m_wetness m_strength m_days m_balls m_asks m_books m_pageLength m_faultAt m_savedSize m_savedPlace m_savedSticks m_bestSize m_bestFirst m_seedNow m_isKept m_keptLawn m_keptBalls m_keptStrength m_keptDays m_h m_depthOf m_kindOf m_sizeOf m_placeOf m_onOf m_sticksOf m_page m_savedDepth m_gameSize m_gamePlace m_gameSticks m_gameDepth m_keptDepth m_keptSize m_keptPlace m_keptOn m_keptSticks 1 hq_39) rfl hd_X8_mix t_914 t_916 ts_39 t_10 t_917 ⟨(Nat.le_of_ble_eq_true rfl), (Nat.le_of_ble_eq_true rfl)⟩ ⟨rfl, rfl⟩ ⟨Nat.zero_le _, Nat.zero_le _⟩ (rv_o K 0 rfl rfl) [0, 1, 2, 3, 4, 5, 6, 7, 8, 9, 10, 11, 12, 13, 14, 15, 16, 17] [] [0, 1, 2, 3, 4, 5, 6, 7, 8, 9, 10, 11, 12, 13, 14, 15, 16, 17] rfl rfl rfl rfl (by decide) rfl rfl rfl rfl (Nat.le_of_ble_eq_true rfl) dX8_digest_116 ?_
          refine s_iinc (lv' := [(2, .int (x2 + 1)), (0, .ref mh), (1, .int x1)]) K dX8_digest_119 2 rfl (kii_1 _) (Nat.le_of_ble_eq_true rfl) rfl ?_
          refine s_goto (tgt := 96) K dX8_digest_122 (by decide) ?_
          refine s_lv (lv' := [(0, .ref mh), (1, .int x1), (2, .int (x2 + 1))]) [1, 2, 0] rfl ?_
          exact ih m_h_38 x1 (x2 + 1)
  have L71 : ∀ (kk61 : Int64 → Int32 → Option (Int64 × Int64)), (∀ (m_h : Int64) (x1 : Int32), Sw (ρ := Int64 × Int64) p l e ({ frames := 4, cells := 0, slots := 0, locals := 235 } : Room) s m args below meth c 0 0 D A 3 (fun r => MQ below (CQ D ((fun (r : Int64 × Int64) => (wM cI cC cB cQ kc mh q_depthOf q_kindOf q_sizeOf q_placeOf q_onOf q_sticksOf q_page q_savedDepth q_gameSize q_gamePlace q_gameSticks q_gameDepth q_keptDepth q_keptSize q_keptPlace q_keptOn q_keptSticks m_isLawn m_lawns m_wetness m_strength m_days m_balls m_asks m_books m_pageLength m_faultAt m_savedSize m_savedPlace m_savedSticks m_bestSize m_bestFirst m_seedNow m_isKept m_keptLawn m_keptBalls m_keptStrength m_keptDays (r.2) m_depthOf m_kindOf m_sizeOf m_placeOf m_onOf m_sticksOf m_page m_savedDepth m_gameSize m_gamePlace m_gameSticks m_gameDepth m_keptDepth m_keptSize m_keptPlace m_keptOn m_keptSticks)) r) ((fun (r : Int64 × Int64) => some (.long (r.1))) r) A) args s 0 0 A) (kk61 m_h x1) (wM cI cC cB cQ kc mh q_depthOf q_kindOf q_sizeOf q_placeOf q_onOf q_sticksOf q_page q_savedDepth q_gameSize q_gamePlace q_gameSticks q_gameDepth q_keptDepth q_keptSize q_keptPlace q_keptOn q_keptSticks m_isLawn m_lawns m_wetness m_strength m_days m_balls m_asks m_books m_pageLength m_faultAt m_savedSize m_savedPlace m_savedSticks m_bestSize m_bestFirst m_seedNow m_isKept m_keptLawn m_keptBalls m_keptStrength m_keptDays m_h m_depthOf m_kindOf m_sizeOf m_placeOf m_onOf m_sticksOf m_page m_savedDepth m_gameSize m_gamePlace m_gameSticks m_gameDepth m_keptDepth m_keptSize m_keptPlace m_keptOn m_keptSticks) [(0, .ref mh), (1, .int x1)] 61 []) → ∀ (fu : Nat) (m_h : Int64) (x1 x2 : Int32), Sw (ρ := Int64 × Int64) p l e ({ frames := 4, cells := 0, slots := 0, locals := 235 } : Room) s m args below meth c 0 0 D A 3 (fun r => MQ below (CQ D ((fun (r : Int64 × Int64) => (wM cI cC cB cQ kc mh q_depthOf q_kindOf q_sizeOf q_placeOf q_onOf q_sticksOf q_page q_savedDepth q_gameSize q_gamePlace q_gameSticks q_gameDepth q_keptDepth q_keptSize q_keptPlace q_keptOn q_keptSticks m_isLawn m_lawns m_wetness m_strength m_days m_balls m_asks m_books m_pageLength m_faultAt m_savedSize m_savedPlace m_savedSticks m_bestSize m_bestFirst m_seedNow m_isKept m_keptLawn m_keptBalls m_keptStrength m_keptDays (r.2) m_depthOf m_kindOf m_sizeOf m_placeOf m_onOf m_sticksOf m_page m_savedDepth m_gameSize m_gamePlace m_gameSticks m_gameDepth m_keptDepth m_keptSize m_keptPlace m_keptOn m_keptSticks)) r) ((fun (r : Int64 × Int64) => some (.long (r.1))) r) A) args s 0 0 A) (f_X8_digest_h71 kk61 m_isLawn m_lawns m_wetness m_strength m_days m_balls m_asks m_books m_pageLength m_depthOf m_kindOf m_sizeOf m_placeOf m_onOf m_sticksOf m_page fu m_h x1 x2) (wM cI cC cB cQ kc mh q_depthOf q_kindOf q_sizeOf q_placeOf q_onOf q_sticksOf q_page q_savedDepth q_gameSize q_gamePlace q_gameSticks q_gameDepth q_keptDepth q_keptSize q_keptPlace q_keptOn q_keptSticks m_isLawn m_lawns m_wetness m_strength m_days m_balls m_asks m_books m_pageLength m_faultAt m_savedSize m_savedPlace m_savedSticks m_bestSize m_bestFirst m_seedNow m_isKept m_keptLawn m_keptBalls m_keptStrength m_keptDays m_h m_depthOf m_kindOf m_sizeOf m_placeOf m_onOf m_sticksOf m_page m_savedDepth m_gameSize m_gamePlace m_gameSticks m_gameDepth m_keptDepth m_keptSize m_keptPlace m_keptOn m_keptSticks) [(0, .ref mh), (1, .int x1), (2, .int x2)] 71 [] := by
    intro kk61 hkk61 fu
    induction fu with
    | zero =>
      intro m_h x1 x2
      rewrite [f_X8_digest_h71]
      exact s_none
    | succ fu ih =>
      intro m_h x1 x2
      rewrite [f_X8_digest_h71]
      refine s_iload_n K dX8_digest_71 rfl 2 rfl ?_
      refine s_bipush K dX8_digest_72 kib_7 ?_
      refine s_icmp_ge (tgt := 94) K dX8_digest_74 (by decide) (fun c_27 => ?_) (fun c_27 => ?_)
      · refine s_iconst K dX8_digest_94 kic_0 ?_
        refine s_istore_n (lv' := [(2, .int 0), (0, .ref mh), (1, .int x1)]) K dX8_digest_95 rfl (Nat.le_of_ble_eq_true rfl) rfl ?_
        refine s_lv (lv' := [(0, .ref mh), (1, .int x1), (2, .int 0)]) [1, 2, 0] rfl ?_
        exact L96 _ hkk61 70 m_h x1 0
      · refine s_aload_n K dX8_digest_77 rfl 0 rfl ?_
        refine s_aload_n K dX8_digest_78 rfl 0 rfl ?_
        refine s_iload_n K dX8_digest_79 rfl 1 rfl ?_
        refine s_iload_n K dX8_digest_80 rfl 2 rfl ?_
        refine s_bind (fun q hq_29 => ?_)
        obtain ⟨r_28, rfl⟩ : ∃ z, z = q := ⟨_, rfl⟩
        refine s_callV (w' := (wM cI cC cB cQ kc mh q_depthOf q_kindOf q_sizeOf q_placeOf q_onOf q_sticksOf q_page q_savedDepth q_gameSize q_gamePlace q_gameSticks q_gameDepth q_keptDepth q_keptSize q_keptPlace q_keptOn q_keptSticks m_isLawn m_lawns m_wetness m_strength m_days m_balls m_asks m_books m_pageLength m_faultAt m_savedSize m_savedPlace m_savedSticks m_bestSize m_bestFirst m_seedNow m_isKept m_keptLawn m_keptBalls m_keptStrength m_keptDays m_h m_depthOf m_kindOf m_sizeOf m_placeOf m_onOf m_sticksOf m_page m_savedDepth m_gameSize m_gamePlace m_gameSticks m_gameDepth m_keptDepth m_keptSize m_keptPlace m_keptOn m_keptSticks)) (rest := [.ref mh]) (st1 := [.int r_28, .ref mh]) K (c_X8_ballNow mh q_depthOf q_kindOf q_sizeOf q_placeOf q_onOf q_sticksOf q_page q_savedDepth q_gameSize q_gamePlace q_gameSticks q_gameDepth q_keptDepth q_keptSize q_keptPlace q_keptOn q_keptSticks m_isLawn m_lawns m_wetness m_strength m_days m_balls m_asks m_books m_pageLength m_faultAt m_savedSize m_savedPlace m_savedSticks m_bestSize m_bestFirst m_seedNow m_isKept m_keptLawn m_keptBalls m_keptStrength m_keptDays m_h m_depthOf m_kindOf m_sizeOf m_placeOf m_onOf m_sticksOf m_page m_savedDepth m_gameSize m_gamePlace m_gameSticks m_gameDepth m_keptDepth m_keptSize m_keptPlace m_keptOn m_keptSticks x1 x2 hq_29) rfl hd_X8_ballNow t_737 t_739 ts_14 t_10 t_740 ⟨(Nat.le_of_ble_eq_true rfl), (Nat.le_of_ble_eq_true rfl)⟩ ⟨rfl, rfl⟩ ⟨Nat.zero_le _, Nat.zero_le _⟩ (rv_o K 0 rfl rfl) [0, 1, 2, 3, 4, 5, 6, 7, 8, 9, 10, 11, 12, 13, 14, 15, 16, 17] [] [0, 1, 2, 3, 4, 5, 6, 7, 8, 9, 10, 11, 12, 13, 14, 15, 16, 17] rfl rfl rfl rfl (by decide) rfl rfl rfl rfl (Nat.le_of_ble_eq_true rfl) dX8_digest_81 ?_
        refine s_i2l K dX8_digest_84 ?_
        refine s_bind (fun q hq_31 => ?_)
        obtain ⟨m_h_30, rfl⟩ : ∃ z, z = q := ⟨_, rfl⟩
        refine s_callV (w' := (wM cI cC cB cQ kc mh q_depthOf q_kindOf q_sizeOf q_placeOf q_onOf q_sticksOf q_page q_savedDepth q_gameSize q_gamePlace q_gameSticks q_gameDepth q_keptDepth q_keptSize q_keptPlace q_keptOn q_keptSticks m_isLawn m_lawns m_wetness m_strength m_days m_balls m_asks m_books m_pageLength m_faultAt m_savedSize m_savedPlace m_savedSticks m_bestSize m_bestFirst m_seedNow m_isKept m_keptLawn m_keptBalls m_keptStrength m_keptDays m_h_30 m_depthOf m_kindOf m_sizeOf m_placeOf m_onOf m_sticksOf m_page m_savedDepth m_gameSize m_gamePlace m_gameSticks m_gameDepth m_keptDepth m_keptSize m_keptPlace m_keptOn m_keptSticks)) (rest := []) (st1 := []) K (c_X8_mix mh q_depthOf q_kindOf q_sizeOf q_placeOf q_onOf q_sticksOf q_page q_savedDepth q_gameSize q_gamePlace q_gameSticks q_gameDepth q_keptDepth q_keptSize q_keptPlace q_keptOn q_keptSticks m_isLawn m_lawns m_wetness m_strength m_days m_balls m_asks m_books m_pageLength m_faultAt m_savedSize m_savedPlace m_savedSticks m_bestSize m_bestFirst m_seedNow m_isKept m_keptLawn m_keptBalls m_keptStrength m_keptDays m_h m_depthOf m_kindOf m_sizeOf m_placeOf m_onOf m_sticksOf m_page m_savedDepth m_gameSize m_gamePlace m_gameSticks m_gameDepth m_keptDepth m_keptSize m_keptPlace m_keptOn m_keptSticks (Int32.toInt64 r_28) hq_31) rfl hd_X8_mix t_914 t_916 ts_39 t_10 t_917 ⟨(Nat.le_of_ble_eq_true rfl), (Nat.le_of_ble_eq_true rfl)⟩ ⟨rfl, rfl⟩ ⟨Nat.zero_le _, Nat.zero_le _⟩ (rv_o K 0 rfl rfl) [0, 1, 2, 3, 4, 5, 6, 7, 8, 9, 10, 11, 12, 13, 14, 15, 16, 17] [] [0, 1, 2, 3, 4, 5, 6, 7, 8, 9, 10, 11, 12, 13, 14, 15, 16, 17] rfl rfl rfl rfl (by decide) rfl rfl rfl rfl (Nat.le_of_ble_eq_true rfl) dX8_digest_85 ?_
        refine s_iinc (lv' := [(2, .int (x2 + 1)), (0, .ref mh), (1, .int x1)]) K dX8_digest_88 2 rfl (kii_1 _) (Nat.le_of_ble_eq_true rfl) rfl ?_
        refine s_goto (tgt := 71) K dX8_digest_91 (by decide) ?_
        refine s_lv (lv' := [(0, .ref mh), (1, .int x1), (2, .int (x2 + 1))]) [1, 2, 0] rfl ?_
        exact ih m_h_30 x1 (x2 + 1)
  have L61 : ∀ (fu : Nat) (m_h : Int64) (x1 : Int32), Sw (ρ := Int64 × Int64) p l e ({ frames := 4, cells := 0, slots := 0, locals := 235 } : Room) s m args below meth c 0 0 D A 3 (fun r => MQ below (CQ D ((fun (r : Int64 × Int64) => (wM cI cC cB cQ kc mh q_depthOf q_kindOf q_sizeOf q_placeOf q_onOf q_sticksOf q_page q_savedDepth q_gameSize q_gamePlace q_gameSticks q_gameDepth q_keptDepth q_keptSize q_keptPlace q_keptOn q_keptSticks m_isLawn m_lawns m_wetness m_strength m_days m_balls m_asks m_books m_pageLength m_faultAt m_savedSize m_savedPlace m_savedSticks m_bestSize m_bestFirst m_seedNow m_isKept m_keptLawn m_keptBalls m_keptStrength m_keptDays (r.2) m_depthOf m_kindOf m_sizeOf m_placeOf m_onOf m_sticksOf m_page m_savedDepth m_gameSize m_gamePlace m_gameSticks m_gameDepth m_keptDepth m_keptSize m_keptPlace m_keptOn m_keptSticks)) r) ((fun (r : Int64 × Int64) => some (.long (r.1))) r) A) args s 0 0 A) (f_X8_digest_h61 m_isLawn m_lawns m_wetness m_strength m_days m_balls m_asks m_books m_pageLength m_depthOf m_kindOf m_sizeOf m_placeOf m_onOf m_sticksOf m_page fu m_h x1) (wM cI cC cB cQ kc mh q_depthOf q_kindOf q_sizeOf q_placeOf q_onOf q_sticksOf q_page q_savedDepth q_gameSize q_gamePlace q_gameSticks q_gameDepth q_keptDepth q_keptSize q_keptPlace q_keptOn q_keptSticks m_isLawn m_lawns m_wetness m_strength m_days m_balls m_asks m_books m_pageLength m_faultAt m_savedSize m_savedPlace m_savedSticks m_bestSize m_bestFirst m_seedNow m_isKept m_keptLawn m_keptBalls m_keptStrength m_keptDays m_h m_depthOf m_kindOf m_sizeOf m_placeOf m_onOf m_sticksOf m_page m_savedDepth m_gameSize m_gamePlace m_gameSticks m_gameDepth m_keptDepth m_keptSize m_keptPlace m_keptOn m_keptSticks) [(0, .ref mh), (1, .int x1)] 61 [] := by
    intro  fu
    induction fu with
    | zero =>
      intro m_h x1
      rewrite [f_X8_digest_h61]
      exact s_none
    | succ fu ih =>
      intro m_h x1
      rewrite [f_X8_digest_h61]
      refine s_iload_n K dX8_digest_61 rfl 1 rfl ?_
      refine s_aload_n K dX8_digest_62 rfl 0 rfl ?_
      refine s_get K 0 rfl rfl inT8 6 (Nat.le_of_ble_eq_true rfl) t_559 rfl rfl dX8_digest_63 ?_
      refine s_icmp_ge (tgt := 131) K dX8_digest_66 (by decide) (fun c_14 => ?_) (fun c_14 => ?_)
      · refine s_aload_n K dX8_digest_131 rfl 0 rfl ?_
        refine s_aload_n K dX8_digest_132 rfl 0 rfl ?_
        refine s_iconst K dX8_digest_133 kic_0 ?_
        refine s_bind (fun q hq_16 => ?_)
        obtain ⟨r_15, rfl⟩ : ∃ z, z = q := ⟨_, rfl⟩
        refine s_callV (w' := (wM cI cC cB cQ kc mh q_depthOf q_kindOf q_sizeOf q_placeOf q_onOf q_sticksOf q_page q_savedDepth q_gameSize q_gamePlace q_gameSticks q_gameDepth q_keptDepth q_keptSize q_keptPlace q_keptOn q_keptSticks m_isLawn m_lawns m_wetness m_strength m_days m_balls m_asks m_books m_pageLength m_faultAt m_savedSize m_savedPlace m_savedSticks m_bestSize m_bestFirst m_seedNow m_isKept m_keptLawn m_keptBalls m_keptStrength m_keptDays m_h m_depthOf m_kindOf m_sizeOf m_placeOf m_onOf m_sticksOf m_page m_savedDepth m_gameSize m_gamePlace m_gameSticks m_gameDepth m_keptDepth m_keptSize m_keptPlace m_keptOn m_keptSticks)) (rest := [.ref mh]) (st1 := [.int r_15, .ref mh]) K (c_X8_highestNow mh q_depthOf q_kindOf q_sizeOf q_placeOf q_onOf q_sticksOf q_page q_savedDepth q_gameSize q_gamePlace q_gameSticks q_gameDepth q_keptDepth q_keptSize q_keptPlace q_keptOn q_keptSticks m_isLawn m_lawns m_wetness m_strength m_days m_balls m_asks m_books m_pageLength m_faultAt m_savedSize m_savedPlace m_savedSticks m_bestSize m_bestFirst m_seedNow m_isKept m_keptLawn m_keptBalls m_keptStrength m_keptDays m_h m_depthOf m_kindOf m_sizeOf m_placeOf m_onOf m_sticksOf m_page m_savedDepth m_gameSize m_gamePlace m_gameSticks m_gameDepth m_keptDepth m_keptSize m_keptPlace m_keptOn m_keptSticks 0 hq_16) rfl hd_X8_highestNow t_841 t_843 ts_29 t_10 t_844 ⟨(Nat.le_of_ble_eq_true rfl), (Nat.le_of_ble_eq_true rfl)⟩ ⟨rfl, rfl⟩ ⟨Nat.zero_le _, Nat.zero_le _⟩ (rv_o K 0 rfl rfl) [0, 1, 2, 3, 4, 5, 6, 7, 8, 9, 10, 11, 12, 13, 14, 15, 16, 17] [] [0, 1, 2, 3, 4, 5, 6, 7, 8, 9, 10, 11, 12, 13, 14, 15, 16, 17] rfl rfl rfl rfl (by decide) rfl rfl rfl rfl (Nat.le_of_ble_eq_true rfl) dX8_digest_134 ?_
        refine s_i2l K dX8_digest_137 ?_
        refine s_bind (fun q hq_18 => ?_)
        obtain ⟨m_h_17, rfl⟩ : ∃ z, z = q := ⟨_, rfl⟩
        refine s_callV (w' := (wM cI cC cB cQ kc mh q_depthOf q_kindOf q_sizeOf q_placeOf q_onOf q_sticksOf q_page q_savedDepth q_gameSize q_gamePlace q_gameSticks q_gameDepth q_keptDepth q_keptSize q_keptPlace q_keptOn q_keptSticks m_isLawn m_lawns m_wetness m_strength m_days m_balls m_asks m_books m_pageLength m_faultAt m_savedSize m_savedPlace m_savedSticks m_bestSize m_bestFirst m_seedNow m_isKept m_keptLawn m_keptBalls m_keptStrength m_keptDays m_h_17 m_depthOf m_kindOf m_sizeOf m_placeOf m_onOf m_sticksOf m_page m_savedDepth m_gameSize m_gamePlace m_gameSticks m_gameDepth m_keptDepth m_keptSize m_keptPlace m_keptOn m_keptSticks)) (rest := []) (st1 := []) K (c_X8_mix mh q_depthOf q_kindOf q_sizeOf q_placeOf q_onOf q_sticksOf q_page q_savedDepth q_gameSize q_gamePlace q_gameSticks q_gameDepth q_keptDepth q_keptSize q_keptPlace q_keptOn q_keptSticks m_isLawn m_lawns m_wetness m_strength m_days m_balls m_asks m_books m_pageLength m_faultAt m_savedSize m_savedPlace m_savedSticks m_bestSize m_bestFirst m_seedNow m_isKept m_keptLawn m_keptBalls m_keptStrength m_keptDays m_h m_depthOf m_kindOf m_sizeOf m_placeOf m_onOf m_sticksOf m_page m_savedDepth m_gameSize m_gamePlace m_gameSticks m_gameDepth m_keptDepth m_keptSize m_keptPlace m_keptOn m_keptSticks (Int32.toInt64 r_15) hq_18) rfl hd_X8_mix t_914 t_916 ts_39 t_10 t_917 ⟨(Nat.le_of_ble_eq_true rfl), (Nat.le_of_ble_eq_true rfl)⟩ ⟨rfl, rfl⟩ ⟨Nat.zero_le _, Nat.zero_le _⟩ (rv_o K 0 rfl rfl) [0, 1, 2, 3, 4, 5, 6, 7, 8, 9, 10, 11, 12, 13, 14, 15, 16, 17] [] [0, 1, 2, 3, 4, 5, 6, 7, 8, 9, 10, 11, 12, 13, 14, 15, 16, 17] rfl rfl rfl rfl (by decide) rfl rfl rfl rfl (Nat.le_of_ble_eq_true rfl) dX8_digest_138 ?_
        refine s_aload_n K dX8_digest_141 rfl 0 rfl ?_
        refine s_aload_n K dX8_digest_142 rfl 0 rfl ?_
        refine s_iconst K dX8_digest_143 kic_1 ?_
        refine s_bind (fun q hq_20 => ?_)
        obtain ⟨r_19, rfl⟩ : ∃ z, z = q := ⟨_, rfl⟩
        refine s_callV (w' := (wM cI cC cB cQ kc mh q_depthOf q_kindOf q_sizeOf q_placeOf q_onOf q_sticksOf q_page q_savedDepth q_gameSize q_gamePlace q_gameSticks q_gameDepth q_keptDepth q_keptSize q_keptPlace q_keptOn q_keptSticks m_isLawn m_lawns m_wetness m_strength m_days m_balls m_asks m_books m_pageLength m_faultAt m_savedSize m_savedPlace m_savedSticks m_bestSize m_bestFirst m_seedNow m_isKept m_keptLawn m_keptBalls m_keptStrength m_keptDays m_h_17 m_depthOf m_kindOf m_sizeOf m_placeOf m_onOf m_sticksOf m_page m_savedDepth m_gameSize m_gamePlace m_gameSticks m_gameDepth m_keptDepth m_keptSize m_keptPlace m_keptOn m_keptSticks)) (rest := [.ref mh]) (st1 := [.int r_19, .ref mh]) K (c_X8_highestNow mh q_depthOf q_kindOf q_sizeOf q_placeOf q_onOf q_sticksOf q_page q_savedDepth q_gameSize q_gamePlace q_gameSticks q_gameDepth q_keptDepth q_keptSize q_keptPlace q_keptOn q_keptSticks m_isLawn m_lawns m_wetness m_strength m_days m_balls m_asks m_books m_pageLength m_faultAt m_savedSize m_savedPlace m_savedSticks m_bestSize m_bestFirst m_seedNow m_isKept m_keptLawn m_keptBalls m_keptStrength m_keptDays m_h_17 m_depthOf m_kindOf m_sizeOf m_placeOf m_onOf m_sticksOf m_page m_savedDepth m_gameSize m_gamePlace m_gameSticks m_gameDepth m_keptDepth m_keptSize m_keptPlace m_keptOn m_keptSticks 1 hq_20) rfl hd_X8_highestNow t_841 t_843 ts_29 t_10 t_844 ⟨(Nat.le_of_ble_eq_true rfl), (Nat.le_of_ble_eq_true rfl)⟩ ⟨rfl, rfl⟩ ⟨Nat.zero_le _, Nat.zero_le _⟩ (rv_o K 0 rfl rfl) [0, 1, 2, 3, 4, 5, 6, 7, 8, 9, 10, 11, 12, 13, 14, 15, 16, 17] [] [0, 1, 2, 3, 4, 5, 6, 7, 8, 9, 10, 11, 12, 13, 14, 15, 16, 17] rfl rfl rfl rfl (by decide) rfl rfl rfl rfl (Nat.le_of_ble_eq_true rfl) dX8_digest_144 ?_
        refine s_i2l K dX8_digest_147 ?_
        refine s_bind (fun q hq_22 => ?_)
        obtain ⟨m_h_21, rfl⟩ : ∃ z, z = q := ⟨_, rfl⟩
        refine s_callV (w' := (wM cI cC cB cQ kc mh q_depthOf q_kindOf q_sizeOf q_placeOf q_onOf q_sticksOf q_page q_savedDepth q_gameSize q_gamePlace q_gameSticks q_gameDepth q_keptDepth q_keptSize q_keptPlace q_keptOn q_keptSticks m_isLawn m_lawns m_wetness m_strength m_days m_balls m_asks m_books m_pageLength m_faultAt m_savedSize m_savedPlace m_savedSticks m_bestSize m_bestFirst m_seedNow m_isKept m_keptLawn m_keptBalls m_keptStrength m_keptDays m_h_21 m_depthOf m_kindOf m_sizeOf m_placeOf m_onOf m_sticksOf m_page m_savedDepth m_gameSize m_gamePlace m_gameSticks m_gameDepth m_keptDepth m_keptSize m_keptPlace m_keptOn m_keptSticks)) (rest := []) (st1 := []) K (c_X8_mix mh q_depthOf q_kindOf q_sizeOf q_placeOf q_onOf q_sticksOf q_page q_savedDepth q_gameSize q_gamePlace q_gameSticks q_gameDepth q_keptDepth q_keptSize q_keptPlace q_keptOn q_keptSticks m_isLawn m_lawns m_wetness m_strength m_days m_balls m_asks m_books m_pageLength m_faultAt m_savedSize m_savedPlace m_savedSticks m_bestSize m_bestFirst m_seedNow m_isKept m_keptLawn m_keptBalls m_keptStrength m_keptDays m_h_17 m_depthOf m_kindOf m_sizeOf m_placeOf m_onOf m_sticksOf m_page m_savedDepth m_gameSize m_gamePlace m_gameSticks m_gameDepth m_keptDepth m_keptSize m_keptPlace m_keptOn m_keptSticks (Int32.toInt64 r_19) hq_22) rfl hd_X8_mix t_914 t_916 ts_39 t_10 t_917 ⟨(Nat.le_of_ble_eq_true rfl), (Nat.le_of_ble_eq_true rfl)⟩ ⟨rfl, rfl⟩ ⟨Nat.zero_le _, Nat.zero_le _⟩ (rv_o K 0 rfl rfl) [0, 1, 2, 3, 4, 5, 6, 7, 8, 9, 10, 11, 12, 13, 14, 15, 16, 17] [] [0, 1, 2, 3, 4, 5, 6, 7, 8, 9, 10, 11, 12, 13, 14, 15, 16, 17] rfl rfl rfl rfl (by decide) rfl rfl rfl rfl (Nat.le_of_ble_eq_true rfl) dX8_digest_148 ?_
        refine s_aload_n K dX8_digest_151 rfl 0 rfl ?_
        refine s_aload_n K dX8_digest_152 rfl 0 rfl ?_
        refine s_iconst K dX8_digest_153 kic_1 ?_
        refine s_bind (fun q hq_24 => ?_)
        obtain ⟨r_23, rfl⟩ : ∃ z, z = q := ⟨_, rfl⟩
        refine s_callV (w' := (wM cI cC cB cQ kc mh q_depthOf q_kindOf q_sizeOf q_placeOf q_onOf q_sticksOf q_page q_savedDepth q_gameSize q_gamePlace q_gameSticks q_gameDepth q_keptDepth q_keptSize q_keptPlace q_keptOn q_keptSticks m_isLawn m_lawns m_wetness m_strength m_days m_balls m_asks m_books m_pageLength m_faultAt m_savedSize m_savedPlace m_savedSticks m_bestSize m_bestFirst m_seedNow m_isKept m_keptLawn m_keptBalls m_keptStrength m_keptDays m_h_21 m_depthOf m_kindOf m_sizeOf m_placeOf m_onOf m_sticksOf m_page m_savedDepth m_gameSize m_gamePlace m_gameSticks m_gameDepth m_keptDepth m_keptSize m_keptPlace m_keptOn m_keptSticks)) (rest := [.ref mh]) (st1 := [.int r_23, .ref mh]) K (c_X8_lastsNow mh q_depthOf q_kindOf q_sizeOf q_placeOf q_onOf q_sticksOf q_page q_savedDepth q_gameSize q_gamePlace q_gameSticks q_gameDepth q_keptDepth q_keptSize q_keptPlace q_keptOn q_keptSticks m_isLawn m_lawns m_wetness m_strength m_days m_balls m_asks m_books m_pageLength m_faultAt m_savedSize m_savedPlace m_savedSticks m_bestSize m_bestFirst m_seedNow m_isKept m_keptLawn m_keptBalls m_keptStrength m_keptDays m_h_21 m_depthOf m_kindOf m_sizeOf m_placeOf m_onOf m_sticksOf m_page m_savedDepth m_gameSize m_gamePlace m_gameSticks m_gameDepth m_keptDepth m_keptSize m_keptPlace m_keptOn m_keptSticks 1 hq_24) rfl hd_X8_lastsNow t_853 t_855 ts_31 t_10 t_856 ⟨(Nat.le_of_ble_eq_true rfl), (Nat.le_of_ble_eq_true rfl)⟩ ⟨rfl, rfl⟩ ⟨Nat.zero_le _, Nat.zero_le _⟩ (rv_o K 0 rfl rfl) [0, 1, 2, 3, 4, 5, 6, 7, 8, 9, 10, 11, 12, 13, 14, 15, 16, 17] [] [0, 1, 2, 3, 4, 5, 6, 7, 8, 9, 10, 11, 12, 13, 14, 15, 16, 17] rfl rfl rfl rfl (by decide) rfl rfl rfl rfl (Nat.le_of_ble_eq_true rfl) dX8_digest_154 ?_
        refine s_i2l K dX8_digest_157 ?_
        refine s_bind (fun q hq_26 => ?_)
        obtain ⟨m_h_25, rfl⟩ : ∃ z, z = q := ⟨_, rfl⟩
        refine s_callV (w' := (wM cI cC cB cQ kc mh q_depthOf q_kindOf q_sizeOf q_placeOf q_onOf q_sticksOf q_page q_savedDepth q_gameSize q_gamePlace q_gameSticks q_gameDepth q_keptDepth q_keptSize q_keptPlace q_keptOn q_keptSticks m_isLawn m_lawns m_wetness m_strength m_days m_balls m_asks m_books m_pageLength m_faultAt m_savedSize m_savedPlace m_savedSticks m_bestSize m_bestFirst m_seedNow m_isKept m_keptLawn m_keptBalls m_keptStrength m_keptDays m_h_25 m_depthOf m_kindOf m_sizeOf m_placeOf m_onOf m_sticksOf m_page m_savedDepth m_gameSize m_gamePlace m_gameSticks m_gameDepth m_keptDepth m_keptSize m_keptPlace m_keptOn m_keptSticks)) (rest := []) (st1 := []) K (c_X8_mix mh q_depthOf q_kindOf q_sizeOf q_placeOf q_onOf q_sticksOf q_page q_savedDepth q_gameSize q_gamePlace q_gameSticks q_gameDepth q_keptDepth q_keptSize q_keptPlace q_keptOn q_keptSticks m_isLawn m_lawns m_wetness m_strength m_days m_balls m_asks m_books m_pageLength m_faultAt m_savedSize m_savedPlace m_savedSticks m_bestSize m_bestFirst m_seedNow m_isKept m_keptLawn m_keptBalls m_keptStrength m_keptDays m_h_21 m_depthOf m_kindOf m_sizeOf m_placeOf m_onOf m_sticksOf m_page m_savedDepth m_gameSize m_gamePlace m_gameSticks m_gameDepth m_keptDepth m_keptSize m_keptPlace m_keptOn m_keptSticks (Int32.toInt64 r_23) hq_26) rfl hd_X8_mix t_914 t_916 ts_39 t_10 t_917 ⟨(Nat.le_of_ble_eq_true rfl), (Nat.le_of_ble_eq_true rfl)⟩ ⟨rfl, rfl⟩ ⟨Nat.zero_le _, Nat.zero_le _⟩ (rv_o K 0 rfl rfl) [0, 1, 2, 3, 4, 5, 6, 7, 8, 9, 10, 11, 12, 13, 14, 15, 16, 17] [] [0, 1, 2, 3, 4, 5, 6, 7, 8, 9, 10, 11, 12, 13, 14, 15, 16, 17] rfl rfl rfl rfl (by decide) rfl rfl rfl rfl (Nat.le_of_ble_eq_true rfl) dX8_digest_158 ?_
        refine s_iconst K dX8_digest_161 kic_0 ?_
        refine s_istore_n (lv' := [(1, .int 0), (0, .ref mh)]) K dX8_digest_162 rfl (Nat.le_of_ble_eq_true rfl) rfl ?_
        refine s_lv (lv' := [(0, .ref mh), (1, .int 0)]) [1, 0] rfl ?_
        exact L163 70 m_h_25 0
      · refine s_iconst K dX8_digest_69 kic_0 ?_
        refine s_istore_n (lv' := [(2, .int 0), (0, .ref mh), (1, .int x1)]) K dX8_digest_70 rfl (Nat.le_of_ble_eq_true rfl) rfl ?_
        refine s_lv (lv' := [(0, .ref mh), (1, .int x1), (2, .int 0)]) [1, 2, 0] rfl ?_
        exact L71 _ (fun m_h x1 => ih m_h x1) 70 m_h x1 0
  have L9 : ∀ (fu : Nat) (m_h : Int64) (x1 : Int32), Sw (ρ := Int64 × Int64) p l e ({ frames := 4, cells := 0, slots := 0, locals := 235 } : Room) s m args below meth c 0 0 D A 3 (fun r => MQ below (CQ D ((fun (r : Int64 × Int64) => (wM cI cC cB cQ kc mh q_depthOf q_kindOf q_sizeOf q_placeOf q_onOf q_sticksOf q_page q_savedDepth q_gameSize q_gamePlace q_gameSticks q_gameDepth q_keptDepth q_keptSize q_keptPlace q_keptOn q_keptSticks m_isLawn m_lawns m_wetness m_strength m_days m_balls m_asks m_books m_pageLength m_faultAt m_savedSize m_savedPlace m_savedSticks m_bestSize m_bestFirst m_seedNow m_isKept m_keptLawn m_keptBalls m_keptStrength m_keptDays (r.2) m_depthOf m_kindOf m_sizeOf m_placeOf m_onOf m_sticksOf m_page m_savedDepth m_gameSize m_gamePlace m_gameSticks m_gameDepth m_keptDepth m_keptSize m_keptPlace m_keptOn m_keptSticks)) r) ((fun (r : Int64 × Int64) => some (.long (r.1))) r) A) args s 0 0 A) (f_X8_digest_h9 m_isLawn m_lawns m_wetness m_strength m_days m_balls m_asks m_books m_pageLength m_depthOf m_kindOf m_sizeOf m_placeOf m_onOf m_sticksOf m_page fu m_h x1) (wM cI cC cB cQ kc mh q_depthOf q_kindOf q_sizeOf q_placeOf q_onOf q_sticksOf q_page q_savedDepth q_gameSize q_gamePlace q_gameSticks q_gameDepth q_keptDepth q_keptSize q_keptPlace q_keptOn q_keptSticks m_isLawn m_lawns m_wetness m_strength m_days m_balls m_asks m_books m_pageLength m_faultAt m_savedSize m_savedPlace m_savedSticks m_bestSize m_bestFirst m_seedNow m_isKept m_keptLawn m_keptBalls m_keptStrength m_keptDays m_h m_depthOf m_kindOf m_sizeOf m_placeOf m_onOf m_sticksOf m_page m_savedDepth m_gameSize m_gamePlace m_gameSticks m_gameDepth m_keptDepth m_keptSize m_keptPlace m_keptOn m_keptSticks) [(0, .ref mh), (1, .int x1)] 9 [] := by
    intro  fu
    induction fu with
    | zero =>
      intro m_h x1
      rewrite [f_X8_digest_h9]
      exact s_none
    | succ fu ih =>
      intro m_h x1
      rewrite [f_X8_digest_h9]
      refine s_iload_n K dX8_digest_9 rfl 1 rfl ?_
      refine s_bipush K dX8_digest_10 kib_20 ?_
      refine s_icmp_ge (tgt := 59) K dX8_digest_12 (by decide) (fun c_1 => ?_) (fun c_1 => ?_)
      · refine s_iconst K dX8_digest_59 kic_0 ?_
        refine s_istore_n (lv' := [(1, .int 0), (0, .ref mh)]) K dX8_digest_60 rfl (Nat.le_of_ble_eq_true rfl) rfl ?_
        refine s_lv (lv' := [(0, .ref mh), (1, .int 0)]) [1, 0] rfl ?_
        exact L61 70 m_h 0
      · refine s_aload_n K dX8_digest_15 rfl 0 rfl ?_
        refine s_get K 0 rfl rfl inT8 0 (Nat.le_of_ble_eq_true rfl) t_553 rfl rfl dX8_digest_16 ?_
        refine s_if_eq (tgt := 59) K dX8_digest_19 (by decide) (fun c_2 => ?_) (fun c_2 => ?_)
        · refine s_iconst K dX8_digest_59 kic_0 ?_
          refine s_istore_n (lv' := [(1, .int 0), (0, .ref mh)]) K dX8_digest_60 rfl (Nat.le_of_ble_eq_true rfl) rfl ?_
          refine s_lv (lv' := [(0, .ref mh), (1, .int 0)]) [1, 0] rfl ?_
          exact L61 70 m_h 0
        · refine s_aload_n K dX8_digest_22 rfl 0 rfl ?_
          refine s_aload_n K dX8_digest_23 rfl 0 rfl ?_
          refine s_get K 0 rfl rfl inT8 2 (Nat.le_of_ble_eq_true rfl) t_555 rfl rfl dX8_digest_24 ?_
          refine s_iload_n K dX8_digest_27 rfl 1 rfl ?_
          refine s_ck (fun ho_3 => ?_)
          refine s_iald K 1 0 rfl rfl (ok_in ho_3) rfl dX8_digest_28 ?_
          refine s_i2l K dX8_digest_29 ?_
          refine s_bind (fun q hq_5 => ?_)
          obtain ⟨m_h_4, rfl⟩ : ∃ z, z = q := ⟨_, rfl⟩
          refine s_callV (w' := (wM cI cC cB cQ kc mh q_depthOf q_kindOf q_sizeOf q_placeOf q_onOf q_sticksOf q_page q_savedDepth q_gameSize q_gamePlace q_gameSticks q_gameDepth q_keptDepth q_keptSize q_keptPlace q_keptOn q_keptSticks m_isLawn m_lawns m_wetness m_strength m_days m_balls m_asks m_books m_pageLength m_faultAt m_savedSize m_savedPlace m_savedSticks m_bestSize m_bestFirst m_seedNow m_isKept m_keptLawn m_keptBalls m_keptStrength m_keptDays m_h_4 m_depthOf m_kindOf m_sizeOf m_placeOf m_onOf m_sticksOf m_page m_savedDepth m_gameSize m_gamePlace m_gameSticks m_gameDepth m_keptDepth m_keptSize m_keptPlace m_keptOn m_keptSticks)) (rest := []) (st1 := []) K (c_X8_mix mh q_depthOf q_kindOf q_sizeOf q_placeOf q_onOf q_sticksOf q_page q_savedDepth q_gameSize q_gamePlace q_gameSticks q_gameDepth q_keptDepth q_keptSize q_keptPlace q_keptOn q_keptSticks m_isLawn m_lawns m_wetness m_strength m_days m_balls m_asks m_books m_pageLength m_faultAt m_savedSize m_savedPlace m_savedSticks m_bestSize m_bestFirst m_seedNow m_isKept m_keptLawn m_keptBalls m_keptStrength m_keptDays m_h m_depthOf m_kindOf m_sizeOf m_placeOf m_onOf m_sticksOf m_page m_savedDepth m_gameSize m_gamePlace m_gameSticks m_gameDepth m_keptDepth m_keptSize m_keptPlace m_keptOn m_keptSticks (Int32.toInt64 (m_depthOf (Int32.toNatClampNeg x1))) hq_5) rfl hd_X8_mix t_914 t_916 ts_39 t_10 t_917 ⟨(Nat.le_of_ble_eq_true rfl), (Nat.le_of_ble_eq_true rfl)⟩ ⟨rfl, rfl⟩ ⟨Nat.zero_le _, Nat.zero_le _⟩ (rv_o K 0 rfl rfl) [0, 1, 2, 3, 4, 5, 6, 7, 8, 9, 10, 11, 12, 13, 14, 15, 16, 17] [] [0, 1, 2, 3, 4, 5, 6, 7, 8, 9, 10, 11, 12, 13, 14, 15, 16, 17] rfl rfl rfl rfl (by decide) rfl rfl rfl rfl (Nat.le_of_ble_eq_true rfl) dX8_digest_30 ?_
          refine s_aload_n K dX8_digest_33 rfl 0 rfl ?_
          refine s_aload_n K dX8_digest_34 rfl 0 rfl ?_
          refine s_iload_n K dX8_digest_35 rfl 1 rfl ?_
          refine s_bind (fun q hq_7 => ?_)
          obtain ⟨r_6, rfl⟩ : ∃ z, z = q := ⟨_, rfl⟩
          refine s_callV (w' := (wM cI cC cB cQ kc mh q_depthOf q_kindOf q_sizeOf q_placeOf q_onOf q_sticksOf q_page q_savedDepth q_gameSize q_gamePlace q_gameSticks q_gameDepth q_keptDepth q_keptSize q_keptPlace q_keptOn q_keptSticks m_isLawn m_lawns m_wetness m_strength m_days m_balls m_asks m_books m_pageLength m_faultAt m_savedSize m_savedPlace m_savedSticks m_bestSize m_bestFirst m_seedNow m_isKept m_keptLawn m_keptBalls m_keptStrength m_keptDays m_h_4 m_depthOf m_kindOf m_sizeOf m_placeOf m_onOf m_sticksOf m_page m_savedDepth m_gameSize m_gamePlace m_gameSticks m_gameDepth m_keptDepth m_keptSize m_keptPlace m_keptOn m_keptSticks)) (rest := [.ref mh]) (st1 := [.int r_6, .ref mh]) K (c_X8_standsOn mh q_depthOf q_kindOf q_sizeOf q_placeOf q_onOf q_sticksOf q_page q_savedDepth q_gameSize q_gamePlace q_gameSticks q_gameDepth q_keptDepth q_keptSize q_keptPlace q_keptOn q_keptSticks m_isLawn m_lawns m_wetness m_strength m_days m_balls m_asks m_books m_pageLength m_faultAt m_savedSize m_savedPlace m_savedSticks m_bestSize m_bestFirst m_seedNow m_isKept m_keptLawn m_keptBalls m_keptStrength m_keptDays m_h_4 m_depthOf m_kindOf m_sizeOf m_placeOf m_onOf m_sticksOf m_page m_savedDepth m_gameSize m_gamePlace m_gameSticks m_gameDepth m_keptDepth m_keptSize m_keptPlace m_keptOn m_keptSticks x1 hq_7) rfl hd_X8_standsOn t_706 t_708 ts_10 t_10 t_709 ⟨(Nat.le_of_ble_eq_true rfl), (Nat.le_of_ble_eq_true rfl)⟩ ⟨rfl, rfl⟩ ⟨Nat.zero_le _, Nat.zero_le _⟩ (rv_o K 0 rfl rfl) [0, 1, 2, 3, 4, 5, 6, 7, 8, 9, 10, 11, 12, 13, 14, 15, 16, 17] [] [0, 1, 2, 3, 4, 5, 6, 7, 8, 9, 10, 11, 12, 13, 14, 15, 16, 17] rfl rfl rfl rfl (by decide) rfl rfl rfl rfl (Nat.le_of_ble_eq_true rfl) dX8_digest_36 ?_
          refine s_i2l K dX8_digest_39 ?_
          refine s_bind (fun q hq_9 => ?_)
          obtain ⟨m_h_8, rfl⟩ : ∃ z, z = q := ⟨_, rfl⟩
          refine s_callV (w' := (wM cI cC cB cQ kc mh q_depthOf q_kindOf q_sizeOf q_placeOf q_onOf q_sticksOf q_page q_savedDepth q_gameSize q_gamePlace q_gameSticks q_gameDepth q_keptDepth q_keptSize q_keptPlace q_keptOn q_keptSticks m_isLawn m_lawns m_wetness m_strength m_days m_balls m_asks m_books m_pageLength m_faultAt m_savedSize m_savedPlace m_savedSticks m_bestSize m_bestFirst m_seedNow m_isKept m_keptLawn m_keptBalls m_keptStrength m_keptDays m_h_8 m_depthOf m_kindOf m_sizeOf m_placeOf m_onOf m_sticksOf m_page m_savedDepth m_gameSize m_gamePlace m_gameSticks m_gameDepth m_keptDepth m_keptSize m_keptPlace m_keptOn m_keptSticks)) (rest := []) (st1 := []) K (c_X8_mix mh q_depthOf q_kindOf q_sizeOf q_placeOf q_onOf q_sticksOf q_page q_savedDepth q_gameSize q_gamePlace q_gameSticks q_gameDepth q_keptDepth q_keptSize q_keptPlace q_keptOn q_keptSticks m_isLawn m_lawns m_wetness m_strength m_days m_balls m_asks m_books m_pageLength m_faultAt m_savedSize m_savedPlace m_savedSticks m_bestSize m_bestFirst m_seedNow m_isKept m_keptLawn m_keptBalls m_keptStrength m_keptDays m_h_4 m_depthOf m_kindOf m_sizeOf m_placeOf m_onOf m_sticksOf m_page m_savedDepth m_gameSize m_gamePlace m_gameSticks m_gameDepth m_keptDepth m_keptSize m_keptPlace m_keptOn m_keptSticks (Int32.toInt64 r_6) hq_9) rfl hd_X8_mix t_914 t_916 ts_39 t_10 t_917 ⟨(Nat.le_of_ble_eq_true rfl), (Nat.le_of_ble_eq_true rfl)⟩ ⟨rfl, rfl⟩ ⟨Nat.zero_le _, Nat.zero_le _⟩ (rv_o K 0 rfl rfl) [0, 1, 2, 3, 4, 5, 6, 7, 8, 9, 10, 11, 12, 13, 14, 15, 16, 17] [] [0, 1, 2, 3, 4, 5, 6, 7, 8, 9, 10, 11, 12, 13, 14, 15, 16, 17] rfl rfl rfl rfl (by decide) rfl rfl rfl rfl (Nat.le_of_ble_eq_true rfl) dX8_digest_40 ?_
          refine s_aload_n K dX8_digest_43 rfl 0 rfl ?_
          refine s_aload_n K dX8_digest_44 rfl 0 rfl ?_
          refine s_iload_n K dX8_digest_45 rfl 1 rfl ?_
          refine s_bind (fun q hq_11 => ?_)
          obtain ⟨r_10, rfl⟩ : ∃ z, z = q := ⟨_, rfl⟩
          refine s_callV (w' := (wM cI cC cB cQ kc mh q_depthOf q_kindOf q_sizeOf q_placeOf q_onOf q_sticksOf q_page q_savedDepth q_gameSize q_gamePlace q_gameSticks q_gameDepth q_keptDepth q_keptSize q_keptPlace q_keptOn q_keptSticks m_isLawn m_lawns m_wetness m_strength m_days m_balls m_asks m_books m_pageLength m_faultAt m_savedSize m_savedPlace m_savedSticks m_bestSize m_bestFirst m_seedNow m_isKept m_keptLawn m_keptBalls m_keptStrength m_keptDays m_h_8 m_depthOf m_kindOf m_sizeOf m_placeOf m_onOf m_sticksOf m_page m_savedDepth m_gameSize m_gamePlace m_gameSticks m_gameDepth m_keptDepth m_keptSize m_keptPlace m_keptOn m_keptSticks)) (rest := [.ref mh]) (st1 := [.int r_10, .ref mh]) K (c_X8_heightOf mh q_depthOf q_kindOf q_sizeOf q_placeOf q_onOf q_sticksOf q_page q_savedDepth q_gameSize q_gamePlace q_gameSticks q_gameDepth q_keptDepth q_keptSize q_keptPlace q_keptOn q_keptSticks m_isLawn m_lawns m_wetness m_strength m_days m_balls m_asks m_books m_pageLength m_faultAt m_savedSize m_savedPlace m_savedSticks m_bestSize m_bestFirst m_seedNow m_isKept m_keptLawn m_keptBalls m_keptStrength m_keptDays m_h_8 m_depthOf m_kindOf m_sizeOf m_placeOf m_onOf m_sticksOf m_page m_savedDepth m_gameSize m_gamePlace m_gameSticks m_gameDepth m_keptDepth m_keptSize m_keptPlace m_keptOn m_keptSticks x1 hq_11) rfl hd_X8_heightOf t_710 t_712 ts_11 t_10 t_713 ⟨(Nat.le_of_ble_eq_true rfl), (Nat.le_of_ble_eq_true rfl)⟩ ⟨rfl, rfl⟩ ⟨Nat.zero_le _, Nat.zero_le _⟩ (rv_o K 0 rfl rfl) [0, 1, 2, 3, 4, 5, 6, 7, 8, 9, 10, 11, 12, 13, 14, 15, 16, 17] [] [0, 1, 2, 3, 4, 5, 6, 7, 8, 9, 10, 11, 12, 13, 14, 15, 16, 17] rfl rfl rfl rfl (by decide) rfl rfl rfl rfl (Nat.le_of_ble_eq_true rfl) dX8_digest_46 ?_
          refine s_i2l K dX8_digest_49 ?_
          refine s_bind (fun q hq_13 => ?_)
          obtain ⟨m_h_12, rfl⟩ : ∃ z, z = q := ⟨_, rfl⟩
          refine s_callV (w' := (wM cI cC cB cQ kc mh q_depthOf q_kindOf q_sizeOf q_placeOf q_onOf q_sticksOf q_page q_savedDepth q_gameSize q_gamePlace q_gameSticks q_gameDepth q_keptDepth q_keptSize q_keptPlace q_keptOn q_keptSticks m_isLawn m_lawns m_wetness m_strength m_days m_balls m_asks m_books m_pageLength m_faultAt m_savedSize m_savedPlace m_savedSticks m_bestSize m_bestFirst m_seedNow m_isKept m_keptLawn m_keptBalls m_keptStrength m_keptDays m_h_12 m_depthOf m_kindOf m_sizeOf m_placeOf m_onOf m_sticksOf m_page m_savedDepth m_gameSize m_gamePlace m_gameSticks m_gameDepth m_keptDepth m_keptSize m_keptPlace m_keptOn m_keptSticks)) (rest := []) (st1 := []) K (c_X8_mix mh q_depthOf q_kindOf q_sizeOf q_placeOf q_onOf q_sticksOf q_page q_savedDepth q_gameSize q_gamePlace q_gameSticks q_gameDepth q_keptDepth q_keptSize q_keptPlace q_keptOn q_keptSticks m_isLawn m_lawns m_wetness m_strength m_days m_balls m_asks m_books m_pageLength m_faultAt m_savedSize m_savedPlace m_savedSticks m_bestSize m_bestFirst m_seedNow m_isKept m_keptLawn m_keptBalls m_keptStrength m_keptDays m_h_8 m_depthOf m_kindOf m_sizeOf m_placeOf m_onOf m_sticksOf m_page m_savedDepth m_gameSize m_gamePlace m_gameSticks m_gameDepth m_keptDepth m_keptSize m_keptPlace m_keptOn m_keptSticks (Int32.toInt64 r_10) hq_13) rfl hd_X8_mix t_914 t_916 ts_39 t_10 t_917 ⟨(Nat.le_of_ble_eq_true rfl), (Nat.le_of_ble_eq_true rfl)⟩ ⟨rfl, rfl⟩ ⟨Nat.zero_le _, Nat.zero_le _⟩ (rv_o K 0 rfl rfl) [0, 1, 2, 3, 4, 5, 6, 7, 8, 9, 10, 11, 12, 13, 14, 15, 16, 17] [] [0, 1, 2, 3, 4, 5, 6, 7, 8, 9, 10, 11, 12, 13, 14, 15, 16, 17] rfl rfl rfl rfl (by decide) rfl rfl rfl rfl (Nat.le_of_ble_eq_true rfl) dX8_digest_50 ?_
          refine s_iinc (lv' := [(1, .int (x1 + 1)), (0, .ref mh)]) K dX8_digest_53 1 rfl (kii_1 _) (Nat.le_of_ble_eq_true rfl) rfl ?_
          refine s_goto (tgt := 9) K dX8_digest_56 (by decide) ?_
          refine s_lv (lv' := [(0, .ref mh), (1, .int (x1 + 1))]) [1, 0] rfl ?_
          exact ih m_h_12 (x1 + 1)
  rewrite [f_X8_digest]
  refine s_aload_n K dX8_digest_0 rfl 0 rfl ?_
  refine s_ldc2 K dX8_digest_1 t_913 ?_
  refine s_put (w' := (wM cI cC cB cQ kc mh q_depthOf q_kindOf q_sizeOf q_placeOf q_onOf q_sticksOf q_page q_savedDepth q_gameSize q_gamePlace q_gameSticks q_gameDepth q_keptDepth q_keptSize q_keptPlace q_keptOn q_keptSticks m_isLawn m_lawns m_wetness m_strength m_days m_balls m_asks m_books m_pageLength m_faultAt m_savedSize m_savedPlace m_savedSticks m_bestSize m_bestFirst m_seedNow m_isKept m_keptLawn m_keptBalls m_keptStrength m_keptDays 727 m_depthOf m_kindOf m_sizeOf m_placeOf m_onOf m_sticksOf m_page m_savedDepth m_gameSize m_gamePlace m_gameSticks m_gameDepth m_keptDepth m_keptSize m_keptPlace m_keptOn m_keptSticks)) K 0 rfl rfl inT8 tyX8_ok nmX8 38 (Nat.le_of_ble_eq_true rfl) t_591 rfl rfl rfl rfl (Nat.le_of_ble_eq_true rfl) rfl dX8_digest_4 ?_
  refine s_iconst K dX8_digest_7 kic_0 ?_
  refine s_istore_n (lv' := [(1, .int 0), (0, .ref mh)]) K dX8_digest_8 rfl (Nat.le_of_ble_eq_true rfl) rfl ?_
  refine s_lv (lv' := [(0, .ref mh), (1, .int 0)]) [1, 0] rfl ?_
  exact L9 70 727 0
