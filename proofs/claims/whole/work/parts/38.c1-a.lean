set_option maxHeartbeats 4000000 in
set_option maxRecDepth 100000 in
theorem c_X7_isOutside {l : Launch} {D : va_G} {cI cC cB cQ : ClassId} {kc : Nat → Nat} {kt : Nat} (a0 a1 a2 : Int32) {r : Int32} (hF : f_X7_isOutside a0 a1 a2 = some r) : CT l D (tysOf cI cC cB cQ) kc kt yX7_isOutside cX7_isOutside 3 (some .boolean) ({ frames := 1, cells := 0, slots := 0, locals := 40 } : Room) [.int a0, .int a1, .int a2] [] ((fun (r : Int32) => []) r) ((fun (r : Int32) => some (.int r)) r) := by
  refine CT.of (ww := (fun (r : Int32) => [])) (oo := (fun (r : Int32) => some (.int r))) hF RX7 rfl rfl (Nat.le_of_ble_eq_true rfl) ?_
  intro p e s m args below meth c A K hret hlk
  rewrite [f_X7_isOutside]
  refine s_iload_n K dX7_isOutside_0 rfl 0 rfl ?_
  refine s_iload_n K dX7_isOutside_1 rfl 1 rfl ?_
  refine s_icmp_lt (tgt := 10) K dX7_isOutside_2 (by decide) (fun c_1 => ?_) (fun c_1 => ?_)
  · refine s_iconst K dX7_isOutside_10 kic_1 ?_
    refine s_goto (tgt := 15) K dX7_isOutside_11 (by decide) ?_
    exact s_zret K hret hlk rfl rfl rfl dX7_isOutside_15
  · refine s_iload_n K dX7_isOutside_5 rfl 0 rfl ?_
    refine s_iload_n K dX7_isOutside_6 rfl 2 rfl ?_
    refine s_icmp_le (tgt := 14) K dX7_isOutside_7 (by decide) (fun c_2 => ?_) (fun c_2 => ?_)
    · refine s_iconst K dX7_isOutside_14 kic_0 ?_
      exact s_zret K hret hlk rfl rfl rfl dX7_isOutside_15
    · refine s_iconst K dX7_isOutside_10 kic_1 ?_
      refine s_goto (tgt := 15) K dX7_isOutside_11 (by decide) ?_
      exact s_zret K hret hlk rfl rfl rfl dX7_isOutside_15
set_option maxHeartbeats 4000000 in
set_option maxRecDepth 100000 in
theorem c_X7_belongsAt {l : Launch} {D : va_G} {cI cC cB cQ : ClassId} {kc : Nat → Nat} {kt : Nat} (a0 a1 : Int32) {r : Int32} (hF : f_X7_belongsAt a0 a1 = some r) : CT l D (tysOf cI cC cB cQ) kc kt yX7_belongsAt cX7_belongsAt 2 (some .boolean) ({ frames := 1, cells := 0, slots := 0, locals := 40 } : Room) [.int a0, .int a1] [] ((fun (r : Int32) => []) r) ((fun (r : Int32) => some (.int r)) r) := by
  refine CT.of (ww := (fun (r : Int32) => [])) (oo := (fun (r : Int32) => some (.int r))) hF RX7 rfl rfl (Nat.le_of_ble_eq_true rfl) ?_
  intro p e s m args below meth c A K hret hlk
  rewrite [f_X7_belongsAt]
  refine s_iload_n K dX7_belongsAt_0 rfl 0 rfl ?_
  refine s_bipush K dX7_belongsAt_1 kib_25 ?_
  refine s_icmp_lt (tgt := 8) K dX7_belongsAt_3 (by decide) (fun c_1 => ?_) (fun c_1 => ?_)
  · refine s_iload_n K dX7_belongsAt_8 rfl 0 rfl ?_
    refine s_bipush K dX7_belongsAt_9 kib_23 ?_
    refine s_icmp_ne (tgt := 26) K dX7_belongsAt_11 (by decide) (fun c_2 => ?_) (fun c_2 => ?_)
    · refine s_iload_n K dX7_belongsAt_14 rfl 1 rfl ?_
      refine s_bipush K dX7_belongsAt_15 kib_59 ?_
      refine s_icmp_ne (tgt := 24) K dX7_belongsAt_17 (by decide) (fun c_3 => ?_) (fun c_3 => ?_)
      · refine s_iconst K dX7_belongsAt_20 kic_1 ?_
        refine s_goto (tgt := 25) K dX7_belongsAt_21 (by decide) ?_
        exact s_zret K hret hlk rfl rfl rfl dX7_belongsAt_25
      · refine s_iconst K dX7_belongsAt_24 kic_0 ?_
        exact s_zret K hret hlk rfl rfl rfl dX7_belongsAt_25
    · refine s_iload_n K dX7_belongsAt_26 rfl 0 rfl ?_
      refine s_bipush K dX7_belongsAt_27 kib_23 ?_
      refine s_icmp_ge (tgt := 52) K dX7_belongsAt_29 (by decide) (fun c_4 => ?_) (fun c_4 => ?_)
      · refine s_iload_n K dX7_belongsAt_52 rfl 1 rfl ?_
        refine s_bipush K dX7_belongsAt_53 kib_48 ?_
        refine s_icmp_lt (tgt := 68) K dX7_belongsAt_55 (by decide) (fun c_5 => ?_) (fun c_5 => ?_)
        · refine s_iconst K dX7_belongsAt_68 kic_0 ?_
          exact s_zret K hret hlk rfl rfl rfl dX7_belongsAt_69
        · refine s_iload_n K dX7_belongsAt_58 rfl 1 rfl ?_
          refine s_bipush K dX7_belongsAt_59 kib_57 ?_
          refine s_icmp_gt (tgt := 68) K dX7_belongsAt_61 (by decide) (fun c_6 => ?_) (fun c_6 => ?_)
          · refine s_iconst K dX7_belongsAt_68 kic_0 ?_
            exact s_zret K hret hlk rfl rfl rfl dX7_belongsAt_69
          · refine s_iconst K dX7_belongsAt_64 kic_1 ?_
            refine s_goto (tgt := 69) K dX7_belongsAt_65 (by decide) ?_
            exact s_zret K hret hlk rfl rfl rfl dX7_belongsAt_69
      · refine s_iload_n K dX7_belongsAt_32 rfl 0 rfl ?_
        refine s_bipush K dX7_belongsAt_33 kib_6 ?_
        refine s_irem K dX7_belongsAt_35 knz_6 ?_
        refine s_iconst K dX7_belongsAt_36 kic_5 ?_
        refine s_icmp_ne (tgt := 52) K dX7_belongsAt_37 (by decide) (fun c_7 => ?_) (fun c_7 => ?_)
        · refine s_iload_n K dX7_belongsAt_40 rfl 1 rfl ?_
          refine s_bipush K dX7_belongsAt_41 kib_47 ?_
          refine s_icmp_ne (tgt := 50) K dX7_belongsAt_43 (by decide) (fun c_8 => ?_) (fun c_8 => ?_)
          · refine s_iconst K dX7_belongsAt_46 kic_1 ?_
            refine s_goto (tgt := 51) K dX7_belongsAt_47 (by decide) ?_
            exact s_zret K hret hlk rfl rfl rfl dX7_belongsAt_51
          · refine s_iconst K dX7_belongsAt_50 kic_0 ?_
            exact s_zret K hret hlk rfl rfl rfl dX7_belongsAt_51
        · refine s_iload_n K dX7_belongsAt_52 rfl 1 rfl ?_
          refine s_bipush K dX7_belongsAt_53 kib_48 ?_
          refine s_icmp_lt (tgt := 68) K dX7_belongsAt_55 (by decide) (fun c_9 => ?_) (fun c_9 => ?_)
          · refine s_iconst K dX7_belongsAt_68 kic_0 ?_
            exact s_zret K hret hlk rfl rfl rfl dX7_belongsAt_69
          · refine s_iload_n K dX7_belongsAt_58 rfl 1 rfl ?_
            refine s_bipush K dX7_belongsAt_59 kib_57 ?_
            refine s_icmp_gt (tgt := 68) K dX7_belongsAt_61 (by decide) (fun c_10 => ?_) (fun c_10 => ?_)
            · refine s_iconst K dX7_belongsAt_68 kic_0 ?_
              exact s_zret K hret hlk rfl rfl rfl dX7_belongsAt_69
            · refine s_iconst K dX7_belongsAt_64 kic_1 ?_
              refine s_goto (tgt := 69) K dX7_belongsAt_65 (by decide) ?_
              exact s_zret K hret hlk rfl rfl rfl dX7_belongsAt_69
  · refine s_iconst K dX7_belongsAt_6 kic_0 ?_
    exact s_zret K hret hlk rfl rfl rfl dX7_belongsAt_7
set_option maxHeartbeats 4000000 in
set_option maxRecDepth 100000 in
theorem c_X7_letterOf {l : Launch} {D : va_G} {cI cC cB cQ : ClassId} {kc : Nat → Nat} {kt : Nat} (a0 : Int32) {r : Int32} (hF : f_X7_letterOf a0 = some r) : CT l D (tysOf cI cC cB cQ) kc kt yX7_letterOf cX7_letterOf 1 (some .int) ({ frames := 1, cells := 0, slots := 0, locals := 40 } : Room) [.int a0] [] ((fun (r : Int32) => []) r) ((fun (r : Int32) => some (.int r)) r) := by
  refine CT.of (ww := (fun (r : Int32) => [])) (oo := (fun (r : Int32) => some (.int r))) hF RX7 rfl rfl (Nat.le_of_ble_eq_true rfl) ?_
  intro p e s m args below meth c A K hret hlk
  rewrite [f_X7_letterOf]
  refine s_iload_n K dX7_letterOf_0 rfl 0 rfl ?_
  refine s_iload_n K dX7_letterOf_1 rfl 0 rfl ?_
  refine s_iconst K dX7_letterOf_2 kic_5 ?_
  refine s_idiv K dX7_letterOf_3 knz_5 ?_
  refine s_iadd K dX7_letterOf_4 ?_
  exact s_iret K hret hlk rfl rfl dX7_letterOf_5
set_option maxHeartbeats 4000000 in
set_option maxRecDepth 100000 in
theorem c_X7_isPlace {l : Launch} {D : va_G} {cI cC cB cQ : ClassId} {kc : Nat → Nat} {kt : Nat} (a0 : Int32) {r : Int32} (hF : f_X7_isPlace a0 = some r) : CT l D (tysOf cI cC cB cQ) kc kt yX7_isPlace cX7_isPlace 1 (some .boolean) ({ frames := 2, cells := 0, slots := 0, locals := 102 } : Room) [.int a0] [] ((fun (r : Int32) => []) r) ((fun (r : Int32) => some (.int r)) r) := by
  refine CT.of (ww := (fun (r : Int32) => [])) (oo := (fun (r : Int32) => some (.int r))) hF RX7 rfl rfl (Nat.le_of_ble_eq_true rfl) ?_
  intro p e s m args below meth c A K hret hlk
  rewrite [f_X7_isPlace]
  refine s_iload_n K dX7_isPlace_0 rfl 0 rfl ?_
  refine s_iconst K dX7_isPlace_1 kic_0 ?_
  refine s_bipush K dX7_isPlace_2 kib_19 ?_
  refine s_bind (fun q hq_2 => ?_)
  obtain ⟨r_1, rfl⟩ : ∃ z, z = q := ⟨_, rfl⟩
  refine s_callS0 (rest := []) (st1 := [.int r_1]) K (c_X7_isOutside a0 0 19 hq_2) hd_X7_isOutside t_185 t_186 t_1 t_187 ⟨(Nat.le_of_ble_eq_true rfl), (Nat.le_of_ble_eq_true rfl)⟩ ⟨rfl, rfl⟩ ⟨Nat.zero_le _, Nat.zero_le _⟩ rfl rfl (Nat.le_of_ble_eq_true rfl) dX7_isPlace_4 ?_
  refine s_if_ne (tgt := 14) K dX7_isPlace_7 (by decide) (fun c_3 => ?_) (fun c_3 => ?_)
  · refine s_iconst K dX7_isPlace_10 kic_1 ?_
    refine s_goto (tgt := 15) K dX7_isPlace_11 (by decide) ?_
    exact s_zret K hret hlk rfl rfl rfl dX7_isPlace_15
  · refine s_iconst K dX7_isPlace_14 kic_0 ?_
    exact s_zret K hret hlk rfl rfl rfl dX7_isPlace_15
set_option maxHeartbeats 4000000 in
set_option maxRecDepth 100000 in
theorem c_X7_rootOf {l : Launch} {D : va_G} {cI cC cB cQ : ClassId} {kc : Nat → Nat} {kt : Nat} (a0 : Int32) {r : Int32} (hF : f_X7_rootOf a0 = some r) : CT l D (tysOf cI cC cB cQ) kc kt yX7_rootOf cX7_rootOf 3 (some .int) ({ frames := 1, cells := 0, slots := 0, locals := 40 } : Room) [.int a0] [] ((fun (r : Int32) => []) r) ((fun (r : Int32) => some (.int r)) r) := by
  refine CT.of (ww := (fun (r : Int32) => [])) (oo := (fun (r : Int32) => some (.int r))) hF RX7 rfl rfl (Nat.le_of_ble_eq_true rfl) ?_
  intro p e s m args below meth c A K hret hlk
  have L4 : ∀ (fu : Nat) (x1 x2 : Int32), Sw (ρ := Int32) p l e ({ frames := 1, cells := 0, slots := 0, locals := 40 } : Room) s m args below meth c 0 0 D A 3 (fun r => MQ below (CQ D ((fun (r : Int32) => []) r) ((fun (r : Int32) => some (.int r)) r) A) args s 0 0 A) (f_X7_rootOf_h4 a0 fu x1 x2) [] [(0, .int a0), (1, .int x1), (2, .int x2)] 4 [] := by
    intro  fu
    induction fu with
    | zero =>
      intro x1 x2
      rewrite [f_X7_rootOf_h4]
      exact s_none
    | succ fu ih =>
      intro x1 x2
      rewrite [f_X7_rootOf_h4]
      refine s_iload_n K dX7_rootOf_4 rfl 2 rfl ?_
      refine s_sipush K dX7_rootOf_5 kis_1000 ?_
      refine s_icmp_gt (tgt := 26) K dX7_rootOf_8 (by decide) (fun c_1 => ?_) (fun c_1 => ?_)
      · refine s_iload_n K dX7_rootOf_26 rfl 1 rfl ?_
        exact s_iret K hret hlk rfl rfl dX7_rootOf_27
      · refine s_iload_n K dX7_rootOf_11 rfl 2 rfl ?_
        refine s_iload_n K dX7_rootOf_12 rfl 2 rfl ?_
        refine s_imul K dX7_rootOf_13 ?_
        refine s_iload_n K dX7_rootOf_14 rfl 0 rfl ?_
        refine s_icmp_gt (tgt := 26) K dX7_rootOf_15 (by decide) (fun c_2 => ?_) (fun c_2 => ?_)
        · refine s_iload_n K dX7_rootOf_26 rfl 1 rfl ?_
          exact s_iret K hret hlk rfl rfl dX7_rootOf_27
        · refine s_iload_n K dX7_rootOf_18 rfl 2 rfl ?_
          refine s_istore_n (lv' := [(1, .int x2), (0, .int a0), (2, .int x2)]) K dX7_rootOf_19 rfl (Nat.le_of_ble_eq_true rfl) rfl ?_
          refine s_iinc (lv' := [(2, .int (x2 + 1)), (1, .int x2), (0, .int a0)]) K dX7_rootOf_20 2 rfl (kii_1 _) (Nat.le_of_ble_eq_true rfl) rfl ?_
          refine s_goto (tgt := 4) K dX7_rootOf_23 (by decide) ?_
          refine s_lv (lv' := [(0, .int a0), (1, .int x2), (2, .int (x2 + 1))]) [2, 1, 0] rfl ?_
          exact ih x2 (x2 + 1)
  rewrite [f_X7_rootOf]
  refine s_iconst K dX7_rootOf_0 kic_0 ?_
  refine s_istore_n (lv' := [(1, .int 0), (0, .int a0)]) K dX7_rootOf_1 rfl (Nat.le_of_ble_eq_true rfl) rfl ?_
  refine s_iconst K dX7_rootOf_2 kic_1 ?_
  refine s_istore_n (lv' := [(2, .int 1), (1, .int 0), (0, .int a0)]) K dX7_rootOf_3 rfl (Nat.le_of_ble_eq_true rfl) rfl ?_
  refine s_lv (lv' := [(0, .int a0), (1, .int 0), (2, .int 1)]) [2, 1, 0] rfl ?_
  exact L4 70 0 1
set_option maxHeartbeats 4000000 in
set_option maxRecDepth 100000 in
theorem c_X7_isKind {l : Launch} {D : va_G} {cI cC cB cQ : ClassId} {kc : Nat → Nat} {kt : Nat} (a0 : Int32) {r : Int32} (hF : f_X7_isKind a0 = some r) : CT l D (tysOf cI cC cB cQ) kc kt yX7_isKind cX7_isKind 1 (some .boolean) ({ frames := 2, cells := 0, slots := 0, locals := 102 } : Room) [.int a0] [] ((fun (r : Int32) => []) r) ((fun (r : Int32) => some (.int r)) r) := by
  refine CT.of (ww := (fun (r : Int32) => [])) (oo := (fun (r : Int32) => some (.int r))) hF RX7 rfl rfl (Nat.le_of_ble_eq_true rfl) ?_
  intro p e s m args below meth c A K hret hlk
  rewrite [f_X7_isKind]
  refine s_iload_n K dX7_isKind_0 rfl 0 rfl ?_
  refine s_iconst K dX7_isKind_1 kic_0 ?_
  refine s_getsT K t_248 dX7_isKind_2 ?_
  refine s_lenT K dX7_isKind_5 ?_
  refine s_iconst K dX7_isKind_6 kic_1 ?_
  refine s_isub K dX7_isKind_7 ?_
  refine s_bind (fun q hq_2 => ?_)
  obtain ⟨r_1, rfl⟩ : ∃ z, z = q := ⟨_, rfl⟩
  refine s_callS0 (rest := []) (st1 := [.int r_1]) K (c_X7_isOutside a0 0 (5 - 1) hq_2) hd_X7_isOutside t_185 t_186 t_1 t_187 ⟨(Nat.le_of_ble_eq_true rfl), (Nat.le_of_ble_eq_true rfl)⟩ ⟨rfl, rfl⟩ ⟨Nat.zero_le _, Nat.zero_le _⟩ rfl rfl (Nat.le_of_ble_eq_true rfl) dX7_isKind_8 ?_
  refine s_if_ne (tgt := 18) K dX7_isKind_11 (by decide) (fun c_3 => ?_) (fun c_3 => ?_)
  · refine s_iconst K dX7_isKind_14 kic_1 ?_
    refine s_goto (tgt := 19) K dX7_isKind_15 (by decide) ?_
    exact s_zret K hret hlk rfl rfl rfl dX7_isKind_19
  · refine s_iconst K dX7_isKind_18 kic_0 ?_
    exact s_zret K hret hlk rfl rfl rfl dX7_isKind_19
set_option maxHeartbeats 4000000 in
set_option maxRecDepth 100000 in
theorem c_X1_begin {l : Launch} {D : va_G} {cI cC cB cQ : ClassId} {kc : Nat → Nat} {kt : Nat} (u : Nat → Nat) (knd : Nat → Nat) (siz plc onn axs : Nat → Int32) (a2 : Int32) (k0 k1 : Nat) (hk0 : k0 < 5) (hk1 : k1 < 5) {r : (Nat → Nat) × (Nat → Int32) × (Nat → Int32) × (Nat → Int32) × (Nat → Int32)} (hF : f_X1_begin knd siz plc onn axs a2 k0 k1 = some r) : CT l D (tysOf cI cC cB cQ) kc kt yX1_begin cX1_begin 3 none ({ frames := 1, cells := 0, slots := 0, locals := 40 } : Room) [.ref (u k0), .ref (kc k1), .int a2] (wB cI cC cB cQ kc u knd siz plc onn axs) ((fun (r : (Nat → Nat) × (Nat → Int32) × (Nat → Int32) × (Nat → Int32) × (Nat → Int32)) => (wB cI cC cB cQ kc u (r.1) (r.2.1) (r.2.2.1) (r.2.2.2.1) (r.2.2.2.2))) r) ((fun (r : (Nat → Nat) × (Nat → Int32) × (Nat → Int32) × (Nat → Int32) × (Nat → Int32)) => none) r) := by
  refine CT.of (ww := (fun (r : (Nat → Nat) × (Nat → Int32) × (Nat → Int32) × (Nat → Int32) × (Nat → Int32)) => (wB cI cC cB cQ kc u (r.1) (r.2.1) (r.2.2.1) (r.2.2.2.1) (r.2.2.2.2)))) (oo := (fun (r : (Nat → Nat) × (Nat → Int32) × (Nat → Int32) × (Nat → Int32) × (Nat → Int32)) => none)) hF RX1 rfl rfl (Nat.le_of_ble_eq_true rfl) ?_
  intro p e s m args below meth c A K hret hlk
  rewrite [f_X1_begin]
  refine s_aload_n K dX1_begin_0 rfl 0 rfl ?_
  refine s_aload_n K dX1_begin_1 rfl 1 rfl ?_
  refine s_put (w' := (wB cI cC cB cQ kc u (va_up knd k0 k1) siz plc onn axs)) K (0 + k0) (gB_0 hk0) rfl inT1 tyX1_ok nmX1 0 (Nat.le_of_ble_eq_true rfl) t_36 rfl rfl rfl rfl (Nat.le_of_ble_eq_true rfl) (pB_0_0 hk0 _) dX1_begin_2 ?_
  refine s_aload_n K dX1_begin_5 rfl 0 rfl ?_
  refine s_iconst K dX1_begin_6 kic_1 ?_
  refine s_put (w' := (wB cI cC cB cQ kc u (va_up knd k0 k1) (upd siz k0 1) plc onn axs)) K (0 + k0) (gB_0 hk0) rfl inT1 tyX1_ok nmX1 1 (Nat.le_of_ble_eq_true rfl) t_39 rfl rfl rfl rfl (Nat.le_of_ble_eq_true rfl) (pB_0_1 hk0 _) dX1_begin_7 ?_
  refine s_aload_n K dX1_begin_10 rfl 0 rfl ?_
  refine s_iload_n K dX1_begin_11 rfl 2 rfl ?_
  refine s_put (w' := (wB cI cC cB cQ kc u (va_up knd k0 k1) (upd siz k0 1) (upd plc k0 a2) onn axs)) K (0 + k0) (gB_0 hk0) rfl inT1 tyX1_ok nmX1 2 (Nat.le_of_ble_eq_true rfl) t_44 rfl rfl rfl rfl (Nat.le_of_ble_eq_true rfl) (pB_0_2 hk0 _) dX1_begin_12 ?_
  refine s_aload_n K dX1_begin_15 rfl 0 rfl ?_
  refine s_iconst K dX1_begin_16 kic_m1 ?_
  refine s_put (w' := (wB cI cC cB cQ kc u (va_up knd k0 k1) (upd siz k0 1) (upd plc k0 a2) (upd onn k0 (-1)) axs)) K (0 + k0) (gB_0 hk0) rfl inT1 tyX1_ok nmX1 3 (Nat.le_of_ble_eq_true rfl) t_48 rfl rfl rfl rfl (Nat.le_of_ble_eq_true rfl) (pB_0_3 hk0 _) dX1_begin_17 ?_
  refine s_aload_n K dX1_begin_20 rfl 0 rfl ?_
  refine s_iconst K dX1_begin_21 kic_m1 ?_
  refine s_put (w' := (wB cI cC cB cQ kc u (va_up knd k0 k1) (upd siz k0 1) (upd plc k0 a2) (upd onn k0 (-1)) (upd axs k0 (-1)))) K (0 + k0) (gB_0 hk0) rfl inT1 tyX1_ok nmX1 4 (Nat.le_of_ble_eq_true rfl) t_51 rfl rfl rfl rfl (Nat.le_of_ble_eq_true rfl) (pB_0_4 hk0 _) dX1_begin_22 ?_
  exact s_vret K hret hlk rfl rfl dX1_begin_25
set_option maxHeartbeats 4000000 in
set_option maxRecDepth 100000 in
theorem c_X2_weight {l : Launch} {D : va_G} {cI cC cB cQ : ClassId} {kc : Nat → Nat} {kt : Nat} (a1 : Int32) (k0 : Nat) (hk0 : k0 < 5) {r : Int32} (hF : f_X2_weight a1 k0 = some r) : CT l D (tysOf cI cC cB cQ) kc kt yX2_weight cX2_weight 2 (some .int) ({ frames := 1, cells := 0, slots := 0, locals := 40 } : Room) [.ref (kc k0), .int a1] [] ((fun (r : Int32) => []) r) ((fun (r : Int32) => some (.int r)) r) := by
  refine CT.of (ww := (fun (r : Int32) => [])) (oo := (fun (r : Int32) => some (.int r))) hF RX2 rfl rfl (Nat.le_of_ble_eq_true rfl) ?_
  intro p e s m args below meth c A K hret hlk
  rewrite [f_X2_weight]
  refine s_iload_n K dX2_weight_0 rfl 1 rfl ?_
  refine s_aload_n K dX2_weight_1 rfl 0 rfl ?_
  refine s_getE_weightTimes K hk0 t_920 dX2_weight_2 ?_
  refine s_imul K dX2_weight_5 ?_
  exact s_iret K hret hlk rfl rfl dX2_weight_6
set_option maxHeartbeats 4000000 in
set_option maxRecDepth 100000 in
theorem c_X1_weight {l : Launch} {D : va_G} {cI cC cB cQ : ClassId} {kc : Nat → Nat} {kt : Nat} (u : Nat → Nat) (knd : Nat → Nat) (siz plc onn axs : Nat → Int32) (k0 : Nat) (hk0 : k0 < 5) {r : Int32} (hF : f_X1_weight knd siz k0 = some r) : CT l D (tysOf cI cC cB cQ) kc kt yX1_weight cX1_weight 1 (some .int) ({ frames := 2, cells := 0, slots := 0, locals := 101 } : Room) [.ref (u k0)] (wB cI cC cB cQ kc u knd siz plc onn axs) ((fun (r : Int32) => (wB cI cC cB cQ kc u knd siz plc onn axs)) r) ((fun (r : Int32) => some (.int r)) r) := by
  refine CT.of (ww := (fun (r : Int32) => (wB cI cC cB cQ kc u knd siz plc onn axs))) (oo := (fun (r : Int32) => some (.int r))) hF RX1 rfl rfl (Nat.le_of_ble_eq_true rfl) ?_
  intro p e s m args below meth c A K hret hlk
  rewrite [f_X1_weight]
  refine s_aload_n K dX1_weight_0 rfl 0 rfl ?_
  refine s_get K (0 + k0) (gB_0 hk0) rfl inT1 0 (Nat.le_of_ble_eq_true rfl) t_36 rfl rfl dX1_weight_1 ?_
  refine s_aload_n K dX1_weight_4 rfl 0 rfl ?_
  refine s_get K (0 + k0) (gB_0 hk0) rfl inT1 1 (Nat.le_of_ble_eq_true rfl) t_39 rfl rfl dX1_weight_5 ?_
  refine s_ck (fun hk_1 => ?_)
  refine s_bind (fun q hq_3 => ?_)
  obtain ⟨r_2, rfl⟩ : ∃ z, z = q := ⟨_, rfl⟩
  refine s_callV0 (rest := []) (st1 := [.int r_2]) K (c_X2_weight (siz k0) (knd k0) hk_1 hq_3) rfl hd_X2_weight t_274 t_275 t_276 t_5 t_277 ⟨(Nat.le_of_ble_eq_true rfl), (Nat.le_of_ble_eq_true rfl)⟩ ⟨rfl, rfl⟩ ⟨Nat.zero_le _, Nat.zero_le _⟩ (rv_k K hk_1) rfl rfl (Nat.le_of_ble_eq_true rfl) dX1_weight_8 ?_
  exact s_iret K hret hlk rfl rfl dX1_weight_11
set_option maxHeartbeats 4000000 in
set_option maxRecDepth 100000 in
theorem c_X2_breadth {l : Launch} {D : va_G} {cI cC cB cQ : ClassId} {kc : Nat → Nat} {kt : Nat} (a1 : Int32) (k0 : Nat) (hk0 : k0 < 5) {r : Int32} (hF : f_X2_breadth a1 k0 = some r) : CT l D (tysOf cI cC cB cQ) kc kt yX2_breadth cX2_breadth 2 (some .int) ({ frames := 1, cells := 0, slots := 0, locals := 40 } : Room) [.ref (kc k0), .int a1] [] ((fun (r : Int32) => []) r) ((fun (r : Int32) => some (.int r)) r) := by
  refine CT.of (ww := (fun (r : Int32) => [])) (oo := (fun (r : Int32) => some (.int r))) hF RX2 rfl rfl (Nat.le_of_ble_eq_true rfl) ?_
  intro p e s m args below meth c A K hret hlk
  rewrite [f_X2_breadth]
  refine s_iconst K dX2_breadth_0 kic_1 ?_
  refine s_iload_n K dX2_breadth_1 rfl 1 rfl ?_
  refine s_bipush K dX2_breadth_2 kib_8 ?_
  refine s_idiv K dX2_breadth_4 knz_8 ?_
  refine s_iadd K dX2_breadth_5 ?_
  refine s_aload_n K dX2_breadth_6 rfl 0 rfl ?_
  refine s_getE_moreBreadth K hk0 t_921 dX2_breadth_7 ?_
  refine s_iadd K dX2_breadth_10 ?_
  exact s_iret K hret hlk rfl rfl dX2_breadth_11
set_option maxHeartbeats 4000000 in
set_option maxRecDepth 100000 in
theorem c_X2_isA {l : Launch} {D : va_G} {cI cC cB cQ : ClassId} {kc : Nat → Nat} {kt : Nat} (k0 k1 : Nat) (hk0 : k0 < 5) (hk1 : k1 < 5) {r : Int32} (hF : f_X2_isA k0 k1 = some r) : CT l D (tysOf cI cC cB cQ) kc kt yX2_isA cX2_isA 2 (some .boolean) ({ frames := 1, cells := 0, slots := 0, locals := 40 } : Room) [.ref (kc k0), .ref (kc k1)] [] ((fun (r : Int32) => []) r) ((fun (r : Int32) => some (.int r)) r) := by
  refine CT.of (ww := (fun (r : Int32) => [])) (oo := (fun (r : Int32) => some (.int r))) hF RX2 rfl rfl (Nat.le_of_ble_eq_true rfl) ?_
  intro p e s m args below meth c A K hret hlk
  rewrite [f_X2_isA]
  refine s_aload_n K dX2_isA_0 rfl 1 rfl ?_
  refine s_aload_n K dX2_isA_1 rfl 0 rfl ?_
  refine s_acmp_eq (tgt := 26) K dX2_isA_2 (by decide) hk1 hk0 (fun c_1 => ?_) (fun c_1 => ?_)
  · refine s_iconst K dX2_isA_26 kic_1 ?_
    refine s_goto (tgt := 31) K dX2_isA_27 (by decide) ?_
    exact s_zret K hret hlk rfl rfl rfl dX2_isA_31
  · refine s_aload_n K dX2_isA_5 rfl 1 rfl ?_
    refine s_getsK K 0 (by decide) rfl t_290 dX2_isA_6 ?_
    refine s_acmp_eq (tgt := 26) K dX2_isA_9 (by decide) hk1 (by decide) (fun c_2 => ?_) (fun c_2 => ?_)
    · refine s_iconst K dX2_isA_26 kic_1 ?_
      refine s_goto (tgt := 31) K dX2_isA_27 (by decide) ?_
      exact s_zret K hret hlk rfl rfl rfl dX2_isA_31
    · refine s_aload_n K dX2_isA_12 rfl 0 rfl ?_
      refine s_getsK K 4 (by decide) rfl t_291 dX2_isA_13 ?_
      refine s_acmp_ne (tgt := 30) K dX2_isA_16 (by decide) hk0 (by decide) (fun c_3 => ?_) (fun c_3 => ?_)
      · refine s_aload_n K dX2_isA_19 rfl 1 rfl ?_
        refine s_getsK K 3 (by decide) rfl t_293 dX2_isA_20 ?_
        refine s_acmp_ne (tgt := 30) K dX2_isA_23 (by decide) hk1 (by decide) (fun c_4 => ?_) (fun c_4 => ?_)
        · refine s_iconst K dX2_isA_26 kic_1 ?_
          refine s_goto (tgt := 31) K dX2_isA_27 (by decide) ?_
          exact s_zret K hret hlk rfl rfl rfl dX2_isA_31
        · refine s_iconst K dX2_isA_30 kic_0 ?_
          exact s_zret K hret hlk rfl rfl rfl dX2_isA_31
      · refine s_iconst K dX2_isA_30 kic_0 ?_
        exact s_zret K hret hlk rfl rfl rfl dX2_isA_31
set_option maxHeartbeats 4000000 in
set_option maxRecDepth 100000 in
theorem c_X7_isSide {l : Launch} {D : va_G} {cI cC cB cQ : ClassId} {kc : Nat → Nat} {kt : Nat} (a0 : Int32) {r : Int32} (hF : f_X7_isSide a0 = some r) : CT l D (tysOf cI cC cB cQ) kc kt yX7_isSide cX7_isSide 1 (some .boolean) ({ frames := 2, cells := 0, slots := 0, locals := 102 } : Room) [.int a0] [] ((fun (r : Int32) => []) r) ((fun (r : Int32) => some (.int r)) r) := by
  refine CT.of (ww := (fun (r : Int32) => [])) (oo := (fun (r : Int32) => some (.int r))) hF RX7 rfl rfl (Nat.le_of_ble_eq_true rfl) ?_
  intro p e s m args below meth c A K hret hlk
  rewrite [f_X7_isSide]
  refine s_iload_n K dX7_isSide_0 rfl 0 rfl ?_
  refine s_iconst K dX7_isSide_1 kic_0 ?_
  refine s_iconst K dX7_isSide_2 kic_3 ?_
  refine s_bind (fun q hq_2 => ?_)
  obtain ⟨r_1, rfl⟩ : ∃ z, z = q := ⟨_, rfl⟩
  refine s_callS0 (rest := []) (st1 := [.int r_1]) K (c_X7_isOutside a0 0 3 hq_2) hd_X7_isOutside t_185 t_186 t_1 t_187 ⟨(Nat.le_of_ble_eq_true rfl), (Nat.le_of_ble_eq_true rfl)⟩ ⟨rfl, rfl⟩ ⟨Nat.zero_le _, Nat.zero_le _⟩ rfl rfl (Nat.le_of_ble_eq_true rfl) dX7_isSide_3 ?_
  refine s_if_ne (tgt := 13) K dX7_isSide_6 (by decide) (fun c_3 => ?_) (fun c_3 => ?_)
  · refine s_iconst K dX7_isSide_9 kic_1 ?_
    refine s_goto (tgt := 14) K dX7_isSide_10 (by decide) ?_
    exact s_zret K hret hlk rfl rfl rfl dX7_isSide_14
  · refine s_iconst K dX7_isSide_13 kic_0 ?_
    exact s_zret K hret hlk rfl rfl rfl dX7_isSide_14
set_option maxHeartbeats 4000000 in
set_option maxRecDepth 100000 in
theorem c_X1_isGone {l : Launch} {D : va_G} {cI cC cB cQ : ClassId} {kc : Nat → Nat} {kt : Nat} (u : Nat → Nat) (knd : Nat → Nat) (siz plc onn axs : Nat → Int32) (k0 : Nat) (hk0 : k0 < 5) {r : Int32} (hF : f_X1_isGone siz k0 = some r) : CT l D (tysOf cI cC cB cQ) kc kt yX1_isGone cX1_isGone 1 (some .boolean) ({ frames := 1, cells := 0, slots := 0, locals := 40 } : Room) [.ref (u k0)] (wB cI cC cB cQ kc u knd siz plc onn axs) ((fun (r : Int32) => (wB cI cC cB cQ kc u knd siz plc onn axs)) r) ((fun (r : Int32) => some (.int r)) r) := by
  refine CT.of (ww := (fun (r : Int32) => (wB cI cC cB cQ kc u knd siz plc onn axs))) (oo := (fun (r : Int32) => some (.int r))) hF RX1 rfl rfl (Nat.le_of_ble_eq_true rfl) ?_
  intro p e s m args below meth c A K hret hlk
  rewrite [f_X1_isGone]
  refine s_aload_n K dX1_isGone_0 rfl 0 rfl ?_
  refine s_get K (0 + k0) (gB_0 hk0) rfl inT1 1 (Nat.le_of_ble_eq_true rfl) t_39 rfl rfl dX1_isGone_1 ?_
  refine s_if_gt (tgt := 11) K dX1_isGone_4 (by decide) (fun c_1 => ?_) (fun c_1 => ?_)
  · refine s_iconst K dX1_isGone_11 kic_0 ?_
    exact s_zret K hret hlk rfl rfl rfl dX1_isGone_12
  · refine s_iconst K dX1_isGone_7 kic_1 ?_
    refine s_goto (tgt := 12) K dX1_isGone_8 (by decide) ?_
    exact s_zret K hret hlk rfl rfl rfl dX1_isGone_12
set_option maxHeartbeats 4000000 in
set_option maxRecDepth 100000 in
theorem c_X7_axisOf {l : Launch} {D : va_G} {cI cC cB cQ : ClassId} {kc : Nat → Nat} {kt : Nat} (a0 : Int32) {r : Int32} (hF : f_X7_axisOf a0 = some r) : CT l D (tysOf cI cC cB cQ) kc kt yX7_axisOf cX7_axisOf 1 (some .int) ({ frames := 1, cells := 0, slots := 0, locals := 40 } : Room) [.int a0] [] ((fun (r : Int32) => []) r) ((fun (r : Int32) => some (.int r)) r) := by
  refine CT.of (ww := (fun (r : Int32) => [])) (oo := (fun (r : Int32) => some (.int r))) hF RX7 rfl rfl (Nat.le_of_ble_eq_true rfl) ?_
  intro p e s m args below meth c A K hret hlk
  rewrite [f_X7_axisOf]
  refine s_iload_n K dX7_axisOf_0 rfl 0 rfl ?_
  refine s_iconst K dX7_axisOf_1 kic_2 ?_
  refine s_irem K dX7_axisOf_2 knz_2 ?_
  exact s_iret K hret hlk rfl rfl dX7_axisOf_3
set_option maxHeartbeats 4000000 in
set_option maxRecDepth 100000 in
theorem c_X1_keepsTo {l : Launch} {D : va_G} {cI cC cB cQ : ClassId} {kc : Nat → Nat} {kt : Nat} (u : Nat → Nat) (knd : Nat → Nat) (siz plc onn axs : Nat → Int32) (a1 : Int32) (k0 : Nat) (hk0 : k0 < 5) {r : Int32} (hF : f_X1_keepsTo axs a1 k0 = some r) : CT l D (tysOf cI cC cB cQ) kc kt yX1_keepsTo cX1_keepsTo 2 (some .boolean) ({ frames := 2, cells := 0, slots := 0, locals := 100 } : Room) [.ref (u k0), .int a1] (wB cI cC cB cQ kc u knd siz plc onn axs) ((fun (r : Int32) => (wB cI cC cB cQ kc u knd siz plc onn axs)) r) ((fun (r : Int32) => some (.int r)) r) := by
  refine CT.of (ww := (fun (r : Int32) => (wB cI cC cB cQ kc u knd siz plc onn axs))) (oo := (fun (r : Int32) => some (.int r))) hF RX1 rfl rfl (Nat.le_of_ble_eq_true rfl) ?_
  intro p e s m args below meth c A K hret hlk
  rewrite [f_X1_keepsTo]
  refine s_aload_n K dX1_keepsTo_0 rfl 0 rfl ?_
  refine s_get K (0 + k0) (gB_0 hk0) rfl inT1 4 (Nat.le_of_ble_eq_true rfl) t_51 rfl rfl dX1_keepsTo_1 ?_
  refine s_iconst K dX1_keepsTo_4 kic_m1 ?_
  refine s_icmp_eq (tgt := 19) K dX1_keepsTo_5 (by decide) (fun c_1 => ?_) (fun c_1 => ?_)
  · refine s_iconst K dX1_keepsTo_19 kic_1 ?_
    refine s_goto (tgt := 24) K dX1_keepsTo_20 (by decide) ?_
    exact s_zret K hret hlk rfl rfl rfl dX1_keepsTo_24
  · refine s_aload_n K dX1_keepsTo_8 rfl 0 rfl ?_
    refine s_get K (0 + k0) (gB_0 hk0) rfl inT1 4 (Nat.le_of_ble_eq_true rfl) t_51 rfl rfl dX1_keepsTo_9 ?_
    refine s_iload_n K dX1_keepsTo_12 rfl 1 rfl ?_
    refine s_bind (fun q hq_3 => ?_)
    obtain ⟨r_2, rfl⟩ : ∃ z, z = q := ⟨_, rfl⟩
    refine s_callSN0 (rest := [.int (axs k0)]) (st1 := [.int r_2, .int (axs k0)]) K (c_X7_axisOf a1 hq_3) hd_X7_axisOf nl_7 t_324 t_1 t_325 ⟨(Nat.le_of_ble_eq_true rfl), (Nat.le_of_ble_eq_true rfl)⟩ ⟨rfl, rfl⟩ ⟨Nat.zero_le _, Nat.zero_le _⟩ rfl rfl (Nat.le_of_ble_eq_true rfl) dX1_keepsTo_13 ?_
    refine s_icmp_ne (tgt := 23) K dX1_keepsTo_16 (by decide) (fun c_4 => ?_) (fun c_4 => ?_)
    · refine s_iconst K dX1_keepsTo_19 kic_1 ?_
      refine s_goto (tgt := 24) K dX1_keepsTo_20 (by decide) ?_
      exact s_zret K hret hlk rfl rfl rfl dX1_keepsTo_24
    · refine s_iconst K dX1_keepsTo_23 kic_0 ?_
      exact s_zret K hret hlk rfl rfl rfl dX1_keepsTo_24
set_option maxHeartbeats 4000000 in
set_option maxRecDepth 100000 in
theorem c_X7_beside {l : Launch} {D : va_G} {cI cC cB cQ : ClassId} {kc : Nat → Nat} {kt : Nat} (a0 a1 : Int32) {r : Int32} (hF : f_X7_beside a0 a1 = some r) : CT l D (tysOf cI cC cB cQ) kc kt yX7_beside cX7_beside 3 (some .int) ({ frames := 3, cells := 0, slots := 0, locals := 162 } : Room) [.int a0, .int a1] [] ((fun (r : Int32) => []) r) ((fun (r : Int32) => some (.int r)) r) := by
  refine CT.of (ww := (fun (r : Int32) => [])) (oo := (fun (r : Int32) => some (.int r))) hF RX7 rfl rfl (Nat.le_of_ble_eq_true rfl) ?_
  intro p e s m args below meth c A K hret hlk
  rewrite [f_X7_beside]
  refine s_iload_n K dX7_beside_0 rfl 0 rfl ?_
  refine s_bind (fun q hq_2 => ?_)
  obtain ⟨r_1, rfl⟩ : ∃ z, z = q := ⟨_, rfl⟩
  refine s_callS0 (rest := []) (st1 := [.int r_1]) K (c_X7_isPlace a0 hq_2) hd_X7_isPlace t_219 t_220 t_1 t_221 ⟨(Nat.le_of_ble_eq_true rfl), (Nat.le_of_ble_eq_true rfl)⟩ ⟨rfl, rfl⟩ ⟨Nat.zero_le _, Nat.zero_le _⟩ rfl rfl (Nat.le_of_ble_eq_true rfl) dX7_beside_1 ?_
  refine s_if_ne (tgt := 9) K dX7_beside_4 (by decide) (fun c_3 => ?_) (fun c_3 => ?_)
  · refine s_iconst K dX7_beside_7 kic_m1 ?_
    exact s_iret K hret hlk rfl rfl dX7_beside_8
  · refine s_iload_n K dX7_beside_9 rfl 0 rfl ?_
    refine s_iconst K dX7_beside_10 kic_5 ?_
    refine s_irem K dX7_beside_11 knz_5 ?_
    refine s_istore_n (lv' := [(2, .int (a0 - a0 / 5 * 5)), (0, .int a0), (1, .int a1)]) K dX7_beside_12 rfl (Nat.le_of_ble_eq_true rfl) rfl ?_
    refine s_iload_n K dX7_beside_13 rfl 2 rfl ?_
    refine s_ite (fun c_4 => ?_) (fun c_4 => ?_)
    · refine s_swIn K (0) 44 dX7_beside_14 ⟨by decide, by decide⟩ rfl (by decide) c_4 ?_
      refine s_iload_n K dX7_beside_44 rfl 1 rfl ?_
      refine s_iconst K dX7_beside_45 kic_5 ?_
      refine s_icmp_lt (tgt := 55) K dX7_beside_46 (by decide) (fun c_5 => ?_) (fun c_5 => ?_)
      · refine s_iconst K dX7_beside_55 kic_m1 ?_
        exact s_iret K hret hlk rfl rfl dX7_beside_56
      · refine s_iload_n K dX7_beside_49 rfl 1 rfl ?_
        refine s_iconst K dX7_beside_50 kic_5 ?_
        refine s_isub K dX7_beside_51 ?_
        refine s_goto (tgt := 56) K dX7_beside_52 (by decide) ?_
        exact s_iret K hret hlk rfl rfl dX7_beside_56
    · refine s_ite (fun c_6 => ?_) (fun c_6 => ?_)
      · refine s_swIn K (1) 57 dX7_beside_14 ⟨by decide, by decide⟩ rfl (by decide) c_6 ?_
        refine s_iload_n K dX7_beside_57 rfl 0 rfl ?_
        refine s_iconst K dX7_beside_58 kic_4 ?_
        refine s_icmp_ge (tgt := 68) K dX7_beside_59 (by decide) (fun c_7 => ?_) (fun c_7 => ?_)
        · refine s_iconst K dX7_beside_68 kic_m1 ?_
          exact s_iret K hret hlk rfl rfl dX7_beside_69
        · refine s_iload_n K dX7_beside_62 rfl 1 rfl ?_
          refine s_iconst K dX7_beside_63 kic_1 ?_
          refine s_iadd K dX7_beside_64 ?_
          refine s_goto (tgt := 69) K dX7_beside_65 (by decide) ?_
          exact s_iret K hret hlk rfl rfl dX7_beside_69
      · refine s_ite (fun c_8 => ?_) (fun c_8 => ?_)
        · refine s_swIn K (2) 70 dX7_beside_14 ⟨by decide, by decide⟩ rfl (by decide) c_8 ?_
          refine s_iload_n K dX7_beside_70 rfl 1 rfl ?_
          refine s_bipush K dX7_beside_71 kib_15 ?_
          refine s_icmp_ge (tgt := 82) K dX7_beside_73 (by decide) (fun c_9 => ?_) (fun c_9 => ?_)
          · refine s_iconst K dX7_beside_82 kic_m1 ?_
            exact s_iret K hret hlk rfl rfl dX7_beside_83
          · refine s_iload_n K dX7_beside_76 rfl 1 rfl ?_
            refine s_iconst K dX7_beside_77 kic_5 ?_
            refine s_iadd K dX7_beside_78 ?_
            refine s_goto (tgt := 83) K dX7_beside_79 (by decide) ?_
            exact s_iret K hret hlk rfl rfl dX7_beside_83
        · refine s_ite (fun c_10 => ?_) (fun c_10 => ?_)
          · refine s_swIn K (3) 84 dX7_beside_14 ⟨by decide, by decide⟩ rfl (by decide) c_10 ?_
            refine s_iload_n K dX7_beside_84 rfl 0 rfl ?_
            refine s_if_le (tgt := 94) K dX7_beside_85 (by decide) (fun c_11 => ?_) (fun c_11 => ?_)
            · refine s_iconst K dX7_beside_94 kic_m1 ?_
              exact s_iret K hret hlk rfl rfl dX7_beside_95
            · refine s_iload_n K dX7_beside_88 rfl 1 rfl ?_
              refine s_iconst K dX7_beside_89 kic_1 ?_
              refine s_isub K dX7_beside_90 ?_
              refine s_goto (tgt := 95) K dX7_beside_91 (by decide) ?_
              exact s_iret K hret hlk rfl rfl dX7_beside_95
          · refine s_swOut (tgt := 96) K dX7_beside_14 (sw_out (n := 3) (by decide) (fun j hj => match j, hj with | 0, _ => c_4 | 1, _ => c_6 | 2, _ => c_8 | 3, _ => c_10 | j + 4, h => absurd h (by omega))) (by decide) ?_
            refine s_iconst K dX7_beside_96 kic_m1 ?_
            exact s_iret K hret hlk rfl rfl dX7_beside_97
set_option maxHeartbeats 4000000 in
set_option maxRecDepth 100000 in
theorem c_X2_takes {l : Launch} {D : va_G} {cI cC cB cQ : ClassId} {kc : Nat → Nat} {kt : Nat} (a1 a2 a3 : Int32) (k0 : Nat) (hk0 : k0 < 5) {r : Int32} (hF : f_X2_takes a1 a2 a3 k0 = some r) : CT l D (tysOf cI cC cB cQ) kc kt yX2_takes cX2_takes 5 (some .int) ({ frames := 2, cells := 0, slots := 0, locals := 101 } : Room) [.ref (kc k0), .int a1, .int a2, .int a3] [] ((fun (r : Int32) => []) r) ((fun (r : Int32) => some (.int r)) r) := by
  refine CT.of (ww := (fun (r : Int32) => [])) (oo := (fun (r : Int32) => some (.int r))) hF RX2 rfl rfl (Nat.le_of_ble_eq_true rfl) ?_
  intro p e s m args below meth c A K hret hlk
  rewrite [f_X2_takes]
  refine s_aload_n K dX2_takes_0 rfl 0 rfl ?_
  refine s_iload_n K dX2_takes_1 rfl 1 rfl ?_
  refine s_bind (fun q hq_2 => ?_)
  obtain ⟨r_1, rfl⟩ : ∃ z, z = q := ⟨_, rfl⟩
  refine s_callV0 (rest := []) (st1 := [.int r_1]) K (c_X2_breadth a1 k0 hk0 hq_2) rfl hd_X2_breadth t_342 t_279 t_280 t_5 t_281 ⟨(Nat.le_of_ble_eq_true rfl), (Nat.le_of_ble_eq_true rfl)⟩ ⟨rfl, rfl⟩ ⟨Nat.zero_le _, Nat.zero_le _⟩ (rv_k K hk0) rfl rfl (Nat.le_of_ble_eq_true rfl) dX2_takes_2 ?_
  refine s_iload_n K dX2_takes_5 rfl 2 rfl ?_
  refine s_min K t_343 t_344 t_11 t_345 (Nat.le_of_ble_eq_true rfl) (Nat.le_of_ble_eq_true rfl) (Nat.zero_le _) (Nat.zero_le _) dX2_takes_6 ?_
  refine s_istore (lv' := [(4, .int (if a2 < r_1 then a2 else r_1)), (0, .ref (kc k0)), (1, .int a1), (2, .int a2), (3, .int a3)]) K dX2_takes_9 (Nat.le_of_ble_eq_true rfl) rfl ?_
  refine s_iload_n K dX2_takes_11 rfl 4 rfl ?_
  refine s_aload_n K dX2_takes_12 rfl 1 rfl ?_
  refine s_getE_takesAllFrom K hk0 t_922 dX2_takes_13 ?_
  refine s_icmp_ge (tgt := 28) K dX2_takes_16 (by decide) (fun c_3 => ?_) (fun c_3 => ?_)
  · refine s_iload K dX2_takes_28 0 rfl ?_
    exact s_iret K hret hlk rfl rfl dX2_takes_30
  · refine s_iload K dX2_takes_19 0 rfl ?_
    refine s_iconst K dX2_takes_21 kic_1 ?_
    refine s_iadd K dX2_takes_22 ?_
    refine s_iconst K dX2_takes_23 kic_2 ?_
    refine s_idiv K dX2_takes_24 knz_2 ?_
    refine s_goto (tgt := 30) K dX2_takes_25 (by decide) ?_
    exact s_iret K hret hlk rfl rfl dX2_takes_30
set_option maxHeartbeats 4000000 in
set_option maxRecDepth 100000 in
theorem c_X2_sticks {l : Launch} {D : va_G} {cI cC cB cQ : ClassId} {kc : Nat → Nat} {kt : Nat} (k0 : Nat) (hk0 : k0 < 5) {r : Int32} (hF : f_X2_sticks k0 = some r) : CT l D (tysOf cI cC cB cQ) kc kt yX2_sticks cX2_sticks 1 (some .boolean) ({ frames := 1, cells := 0, slots := 0, locals := 40 } : Room) [.ref (kc k0)] [] ((fun (r : Int32) => []) r) ((fun (r : Int32) => some (.int r)) r) := by
  refine CT.of (ww := (fun (r : Int32) => [])) (oo := (fun (r : Int32) => some (.int r))) hF RX2 rfl rfl (Nat.le_of_ble_eq_true rfl) ?_
  intro p e s m args below meth c A K hret hlk
  rewrite [f_X2_sticks]
  refine s_aload_n K dX2_sticks_0 rfl 0 rfl ?_
  refine s_getsK K 1 (by decide) rfl t_350 dX2_sticks_1 ?_
  refine s_acmp_ne (tgt := 11) K dX2_sticks_4 (by decide) hk0 (by decide) (fun c_1 => ?_) (fun c_1 => ?_)
  · refine s_iconst K dX2_sticks_7 kic_1 ?_
    refine s_goto (tgt := 12) K dX2_sticks_8 (by decide) ?_
    exact s_zret K hret hlk rfl rfl rfl dX2_sticks_12
  · refine s_iconst K dX2_sticks_11 kic_0 ?_
    exact s_zret K hret hlk rfl rfl rfl dX2_sticks_12
set_option maxHeartbeats 4000000 in
set_option maxRecDepth 100000 in
theorem c_X2_crumbles {l : Launch} {D : va_G} {cI cC cB cQ : ClassId} {kc : Nat → Nat} {kt : Nat} (a1 : Int32) (k0 : Nat) (hk0 : k0 < 5) {r : Int32} (hF : f_X2_crumbles a1 k0 = some r) : CT l D (tysOf cI cC cB cQ) kc kt yX2_crumbles cX2_crumbles 2 (some .boolean) ({ frames := 1, cells := 0, slots := 0, locals := 40 } : Room) [.ref (kc k0), .int a1] [] ((fun (r : Int32) => []) r) ((fun (r : Int32) => some (.int r)) r) := by
  refine CT.of (ww := (fun (r : Int32) => [])) (oo := (fun (r : Int32) => some (.int r))) hF RX2 rfl rfl (Nat.le_of_ble_eq_true rfl) ?_
  intro p e s m args below meth c A K hret hlk
  rewrite [f_X2_crumbles]
  refine s_aload_n K dX2_crumbles_0 rfl 0 rfl ?_
  refine s_getsK K 2 (by decide) rfl t_357 dX2_crumbles_1 ?_
  refine s_acmp_ne (tgt := 17) K dX2_crumbles_4 (by decide) hk0 (by decide) (fun c_1 => ?_) (fun c_1 => ?_)
  · refine s_iload_n K dX2_crumbles_7 rfl 1 rfl ?_
    refine s_bipush K dX2_crumbles_8 kib_20 ?_
    refine s_icmp_le (tgt := 17) K dX2_crumbles_10 (by decide) (fun c_2 => ?_) (fun c_2 => ?_)
    · refine s_iconst K dX2_crumbles_17 kic_0 ?_
      exact s_zret K hret hlk rfl rfl rfl dX2_crumbles_18
    · refine s_iconst K dX2_crumbles_13 kic_1 ?_
      refine s_goto (tgt := 18) K dX2_crumbles_14 (by decide) ?_
      exact s_zret K hret hlk rfl rfl rfl dX2_crumbles_18
  · refine s_iconst K dX2_crumbles_17 kic_0 ?_
    exact s_zret K hret hlk rfl rfl rfl dX2_crumbles_18
set_option maxHeartbeats 4000000 in
set_option maxRecDepth 100000 in
theorem c_X1_leave {l : Launch} {D : va_G} {cI cC cB cQ : ClassId} {kc : Nat → Nat} {kt : Nat} (u : Nat → Nat) (knd : Nat → Nat) (siz plc onn axs : Nat → Int32) (k0 : Nat) (hk0 : k0 < 5) {r : (Nat → Int32) × (Nat → Int32) × (Nat → Int32)} (hF : f_X1_leave siz plc onn k0 = some r) : CT l D (tysOf cI cC cB cQ) kc kt yX1_leave cX1_leave 1 none ({ frames := 1, cells := 0, slots := 0, locals := 40 } : Room) [.ref (u k0)] (wB cI cC cB cQ kc u knd siz plc onn axs) ((fun (r : (Nat → Int32) × (Nat → Int32) × (Nat → Int32)) => (wB cI cC cB cQ kc u knd (r.1) (r.2.1) (r.2.2) axs)) r) ((fun (r : (Nat → Int32) × (Nat → Int32) × (Nat → Int32)) => none) r) := by
  refine CT.of (ww := (fun (r : (Nat → Int32) × (Nat → Int32) × (Nat → Int32)) => (wB cI cC cB cQ kc u knd (r.1) (r.2.1) (r.2.2) axs))) (oo := (fun (r : (Nat → Int32) × (Nat → Int32) × (Nat → Int32)) => none)) hF RX1 rfl rfl (Nat.le_of_ble_eq_true rfl) ?_
  intro p e s m args below meth c A K hret hlk
  rewrite [f_X1_leave]
  refine s_aload_n K dX1_leave_0 rfl 0 rfl ?_
  refine s_iconst K dX1_leave_1 kic_0 ?_
  refine s_put (w' := (wB cI cC cB cQ kc u knd (upd siz k0 0) plc onn axs)) K (0 + k0) (gB_0 hk0) rfl inT1 tyX1_ok nmX1 1 (Nat.le_of_ble_eq_true rfl) t_39 rfl rfl rfl rfl (Nat.le_of_ble_eq_true rfl) (pB_0_1 hk0 _) dX1_leave_2 ?_
  refine s_aload_n K dX1_leave_5 rfl 0 rfl ?_
  refine s_iconst K dX1_leave_6 kic_m1 ?_
  refine s_put (w' := (wB cI cC cB cQ kc u knd (upd siz k0 0) (upd plc k0 (-1)) onn axs)) K (0 + k0) (gB_0 hk0) rfl inT1 tyX1_ok nmX1 2 (Nat.le_of_ble_eq_true rfl) t_44 rfl rfl rfl rfl (Nat.le_of_ble_eq_true rfl) (pB_0_2 hk0 _) dX1_leave_7 ?_
  refine s_aload_n K dX1_leave_10 rfl 0 rfl ?_
  refine s_iconst K dX1_leave_11 kic_m1 ?_
  refine s_put (w' := (wB cI cC cB cQ kc u knd (upd siz k0 0) (upd plc k0 (-1)) (upd onn k0 (-1)) axs)) K (0 + k0) (gB_0 hk0) rfl inT1 tyX1_ok nmX1 3 (Nat.le_of_ble_eq_true rfl) t_48 rfl rfl rfl rfl (Nat.le_of_ble_eq_true rfl) (pB_0_3 hk0 _) dX1_leave_12 ?_
  exact s_vret K hret hlk rfl rfl dX1_leave_15
set_option maxHeartbeats 4000000 in
set_option maxRecDepth 100000 in
theorem c_X7_areBeside {l : Launch} {D : va_G} {cI cC cB cQ : ClassId} {kc : Nat → Nat} {kt : Nat} (a0 a1 : Int32) {r : Int32} (hF : f_X7_areBeside a0 a1 = some r) : CT l D (tysOf cI cC cB cQ) kc kt yX7_areBeside cX7_areBeside 3 (some .boolean) ({ frames := 4, cells := 0, slots := 0, locals := 224 } : Room) [.int a0, .int a1] [] ((fun (r : Int32) => []) r) ((fun (r : Int32) => some (.int r)) r) := by
  refine CT.of (ww := (fun (r : Int32) => [])) (oo := (fun (r : Int32) => some (.int r))) hF RX7 rfl rfl (Nat.le_of_ble_eq_true rfl) ?_
  intro p e s m args below meth c A K hret hlk
  have L9 : ∀ (fu : Nat) (x2 : Int32), Sw (ρ := Int32) p l e ({ frames := 4, cells := 0, slots := 0, locals := 224 } : Room) s m args below meth c 0 0 D A 3 (fun r => MQ below (CQ D ((fun (r : Int32) => []) r) ((fun (r : Int32) => some (.int r)) r) A) args s 0 0 A) (f_X7_areBeside_h9 a0 a1 fu x2) [] [(0, .int a0), (1, .int a1), (2, .int x2)] 9 [] := by
    intro  fu
    induction fu with
    | zero =>
      intro x2
      rewrite [f_X7_areBeside_h9]
      exact s_none
    | succ fu ih =>
      intro x2
      rewrite [f_X7_areBeside_h9]
      refine s_iload_n K dX7_areBeside_9 rfl 2 rfl ?_
      refine s_iconst K dX7_areBeside_10 kic_4 ?_
      refine s_icmp_ge (tgt := 31) K dX7_areBeside_11 (by decide) (fun c_2 => ?_) (fun c_2 => ?_)
      · refine s_iconst K dX7_areBeside_31 kic_0 ?_
        exact s_zret K hret hlk rfl rfl rfl dX7_areBeside_32
      · refine s_iload_n K dX7_areBeside_14 rfl 0 rfl ?_
        refine s_iload_n K dX7_areBeside_15 rfl 2 rfl ?_
        refine s_bind (fun q hq_4 => ?_)
        obtain ⟨r_3, rfl⟩ : ∃ z, z = q := ⟨_, rfl⟩
        refine s_callS0 (rest := []) (st1 := [.int r_3]) K (c_X7_beside a0 x2 hq_4) hd_X7_beside t_374 t_327 t_1 t_328 ⟨(Nat.le_of_ble_eq_true rfl), (Nat.le_of_ble_eq_true rfl)⟩ ⟨rfl, rfl⟩ ⟨Nat.zero_le _, Nat.zero_le _⟩ rfl rfl (Nat.le_of_ble_eq_true rfl) dX7_areBeside_16 ?_
        refine s_iload_n K dX7_areBeside_19 rfl 1 rfl ?_
        refine s_icmp_ne (tgt := 25) K dX7_areBeside_20 (by decide) (fun c_5 => ?_) (fun c_5 => ?_)
        · refine s_iconst K dX7_areBeside_23 kic_1 ?_
          exact s_zret K hret hlk rfl rfl rfl dX7_areBeside_24
        · refine s_iinc (lv' := [(2, .int (x2 + 1)), (0, .int a0), (1, .int a1)]) K dX7_areBeside_25 2 rfl (kii_1 _) (Nat.le_of_ble_eq_true rfl) rfl ?_
          refine s_goto (tgt := 9) K dX7_areBeside_28 (by decide) ?_
          refine s_lv (lv' := [(0, .int a0), (1, .int a1), (2, .int (x2 + 1))]) [1, 2, 0] rfl ?_
          exact ih (x2 + 1)
  rewrite [f_X7_areBeside]
  refine s_iload_n K dX7_areBeside_0 rfl 1 rfl ?_
  refine s_iconst K dX7_areBeside_1 kic_m1 ?_
  refine s_icmp_ne (tgt := 7) K dX7_areBeside_2 (by decide) (fun c_1 => ?_) (fun c_1 => ?_)
  · refine s_iconst K dX7_areBeside_5 kic_0 ?_
    exact s_zret K hret hlk rfl rfl rfl dX7_areBeside_6
  · refine s_iconst K dX7_areBeside_7 kic_0 ?_
    refine s_istore_n (lv' := [(2, .int 0), (0, .int a0), (1, .int a1)]) K dX7_areBeside_8 rfl (Nat.le_of_ble_eq_true rfl) rfl ?_
    refine s_lv (lv' := [(0, .int a0), (1, .int a1), (2, .int 0)]) [1, 2, 0] rfl ?_
    exact L9 70 0
set_option maxHeartbeats 4000000 in
set_option maxRecDepth 100000 in
theorem c_X2_melts {l : Launch} {D : va_G} {cI cC cB cQ : ClassId} {kc : Nat → Nat} {kt : Nat} (a1 : Int32) (k0 : Nat) (hk0 : k0 < 5) {r : Int32} (hF : f_X2_melts a1 k0 = some r) : CT l D (tysOf cI cC cB cQ) kc kt yX2_melts cX2_melts 2 (some .int) ({ frames := 1, cells := 0, slots := 0, locals := 40 } : Room) [.ref (kc k0), .int a1] [] ((fun (r : Int32) => []) r) ((fun (r : Int32) => some (.int r)) r) := by
  refine CT.of (ww := (fun (r : Int32) => [])) (oo := (fun (r : Int32) => some (.int r))) hF RX2 rfl rfl (Nat.le_of_ble_eq_true rfl) ?_
  intro p e s m args below meth c A K hret hlk
  rewrite [f_X2_melts]
  refine s_iload_n K dX2_melts_0 rfl 1 rfl ?_
  refine s_aload_n K dX2_melts_1 rfl 0 rfl ?_
  refine s_getE_meltTimes K hk0 t_923 dX2_melts_2 ?_
  refine s_imul K dX2_melts_5 ?_
  refine s_aload_n K dX2_melts_6 rfl 0 rfl ?_
  refine s_getE_moreMelt K hk0 t_924 dX2_melts_7 ?_
  refine s_iadd K dX2_melts_10 ?_
  exact s_iret K hret hlk rfl rfl dX2_melts_11
set_option maxHeartbeats 4000000 in
set_option maxRecDepth 100000 in
theorem c_X3_begin {l : Launch} {D : va_G} {cI cC cB cQ : ClassId} {kc : Nat → Nat} {kt : Nat} (g : Nat) (gsz gsd gfw : Int32) {r : Int32 × Int32 × Int32} (hF : f_X3_begin = some r) : CT l D (tysOf cI cC cB cQ) kc kt yX3_begin cX3_begin 1 none ({ frames := 1, cells := 0, slots := 0, locals := 40 } : Room) [.ref g] (wGL cI cC cB cQ kc g gsz gsd gfw) ((fun (r : Int32 × Int32 × Int32) => (wGL cI cC cB cQ kc g (r.1) (r.2.1) (r.2.2))) r) ((fun (r : Int32 × Int32 × Int32) => none) r) := by
  refine CT.of (ww := (fun (r : Int32 × Int32 × Int32) => (wGL cI cC cB cQ kc g (r.1) (r.2.1) (r.2.2)))) (oo := (fun (r : Int32 × Int32 × Int32) => none)) hF RX3 rfl rfl (Nat.le_of_ble_eq_true rfl) ?_
  intro p e s m args below meth c A K hret hlk
  rewrite [f_X3_begin]
  refine s_aload_n K dX3_begin_0 rfl 0 rfl ?_
  refine s_iconst K dX3_begin_1 kic_0 ?_
  refine s_put (w' := (wGL cI cC cB cQ kc g 0 gsd gfw)) K 0 rfl rfl inT3 tyX3_ok nmX3 0 (Nat.le_of_ble_eq_true rfl) t_101 rfl rfl rfl rfl (Nat.le_of_ble_eq_true rfl) rfl dX3_begin_2 ?_
  refine s_aload_n K dX3_begin_5 rfl 0 rfl ?_
  refine s_iconst K dX3_begin_6 kic_m1 ?_
  refine s_put (w' := (wGL cI cC cB cQ kc g 0 (-1) gfw)) K 0 rfl rfl inT3 tyX3_ok nmX3 1 (Nat.le_of_ble_eq_true rfl) t_103 rfl rfl rfl rfl (Nat.le_of_ble_eq_true rfl) rfl dX3_begin_7 ?_
  refine s_aload_n K dX3_begin_10 rfl 0 rfl ?_
  refine s_iconst K dX3_begin_11 kic_0 ?_
  refine s_put (w' := (wGL cI cC cB cQ kc g 0 (-1) 0)) K 0 rfl rfl inT3 tyX3_ok nmX3 2 (Nat.le_of_ble_eq_true rfl) t_105 rfl rfl rfl rfl (Nat.le_of_ble_eq_true rfl) rfl dX3_begin_12 ?_
  exact s_vret K hret hlk rfl rfl dX3_begin_15
set_option maxHeartbeats 4000000 in
set_option maxRecDepth 100000 in
theorem c_X1_copyFrom {l : Launch} {D : va_G} {cI cC cB cQ : ClassId} {kc : Nat → Nat} {kt : Nat} (u v : Nat → Nat) (knd : Nat → Nat) (siz plc onn axs : Nat → Int32) (o_knd : Nat → Nat) (o_siz o_plc o_onn o_axs : Nat → Int32) (k0 k1 : Nat) (hk0 : k0 < 5) (hk1 : k1 < 5) {r : (Nat → Nat) × (Nat → Int32) × (Nat → Int32) × (Nat → Int32) × (Nat → Int32)} (hF : f_X1_copyFrom knd siz plc onn axs o_knd o_siz o_plc o_onn o_axs k0 k1 = some r) : CT l D (tysOf cI cC cB cQ) kc kt yX1_copyFrom cX1_copyFrom 2 none ({ frames := 1, cells := 0, slots := 0, locals := 40 } : Room) [.ref (u k0), .ref (v k1)] (wBB cI cC cB cQ kc u v knd siz plc onn axs o_knd o_siz o_plc o_onn o_axs) ((fun (r : (Nat → Nat) × (Nat → Int32) × (Nat → Int32) × (Nat → Int32) × (Nat → Int32)) => (wBB cI cC cB cQ kc u v (r.1) (r.2.1) (r.2.2.1) (r.2.2.2.1) (r.2.2.2.2) o_knd o_siz o_plc o_onn o_axs)) r) ((fun (r : (Nat → Nat) × (Nat → Int32) × (Nat → Int32) × (Nat → Int32) × (Nat → Int32)) => none) r) := by
  refine CT.of (ww := (fun (r : (Nat → Nat) × (Nat → Int32) × (Nat → Int32) × (Nat → Int32) × (Nat → Int32)) => (wBB cI cC cB cQ kc u v (r.1) (r.2.1) (r.2.2.1) (r.2.2.2.1) (r.2.2.2.2) o_knd o_siz o_plc o_onn o_axs))) (oo := (fun (r : (Nat → Nat) × (Nat → Int32) × (Nat → Int32) × (Nat → Int32) × (Nat → Int32)) => none)) hF RX1 rfl rfl (Nat.le_of_ble_eq_true rfl) ?_
  intro p e s m args below meth c A K hret hlk
  rewrite [f_X1_copyFrom]
  refine s_aload_n K dX1_copyFrom_0 rfl 0 rfl ?_
  refine s_aload_n K dX1_copyFrom_1 rfl 1 rfl ?_
  refine s_get K (5 + k1) (gBB_1 hk1) rfl inT1 0 (Nat.le_of_ble_eq_true rfl) t_36 rfl rfl dX1_copyFrom_2 ?_
  refine s_put (w' := (wBB cI cC cB cQ kc u v (va_up knd k0 (o_knd k1)) siz plc onn axs o_knd o_siz o_plc o_onn o_axs)) K (0 + k0) (gBB_0 hk0) rfl inT1 tyX1_ok nmX1 0 (Nat.le_of_ble_eq_true rfl) t_36 rfl rfl rfl rfl (Nat.le_of_ble_eq_true rfl) (pBB_0_0 hk0 _) dX1_copyFrom_5 ?_
  refine s_aload_n K dX1_copyFrom_8 rfl 0 rfl ?_
  refine s_aload_n K dX1_copyFrom_9 rfl 1 rfl ?_
  refine s_get K (5 + k1) (gBB_1 hk1) rfl inT1 1 (Nat.le_of_ble_eq_true rfl) t_39 rfl rfl dX1_copyFrom_10 ?_
  refine s_put (w' := (wBB cI cC cB cQ kc u v (va_up knd k0 (o_knd k1)) (upd siz k0 (o_siz k1)) plc onn axs o_knd o_siz o_plc o_onn o_axs)) K (0 + k0) (gBB_0 hk0) rfl inT1 tyX1_ok nmX1 1 (Nat.le_of_ble_eq_true rfl) t_39 rfl rfl rfl rfl (Nat.le_of_ble_eq_true rfl) (pBB_0_1 hk0 _) dX1_copyFrom_13 ?_
  refine s_aload_n K dX1_copyFrom_16 rfl 0 rfl ?_
  refine s_aload_n K dX1_copyFrom_17 rfl 1 rfl ?_
  refine s_get K (5 + k1) (gBB_1 hk1) rfl inT1 2 (Nat.le_of_ble_eq_true rfl) t_44 rfl rfl dX1_copyFrom_18 ?_
  refine s_put (w' := (wBB cI cC cB cQ kc u v (va_up knd k0 (o_knd k1)) (upd siz k0 (o_siz k1)) (upd plc k0 (o_plc k1)) onn axs o_knd o_siz o_plc o_onn o_axs)) K (0 + k0) (gBB_0 hk0) rfl inT1 tyX1_ok nmX1 2 (Nat.le_of_ble_eq_true rfl) t_44 rfl rfl rfl rfl (Nat.le_of_ble_eq_true rfl) (pBB_0_2 hk0 _) dX1_copyFrom_21 ?_
  refine s_aload_n K dX1_copyFrom_24 rfl 0 rfl ?_
  refine s_aload_n K dX1_copyFrom_25 rfl 1 rfl ?_
  refine s_get K (5 + k1) (gBB_1 hk1) rfl inT1 3 (Nat.le_of_ble_eq_true rfl) t_48 rfl rfl dX1_copyFrom_26 ?_
  refine s_put (w' := (wBB cI cC cB cQ kc u v (va_up knd k0 (o_knd k1)) (upd siz k0 (o_siz k1)) (upd plc k0 (o_plc k1)) (upd onn k0 (o_onn k1)) axs o_knd o_siz o_plc o_onn o_axs)) K (0 + k0) (gBB_0 hk0) rfl inT1 tyX1_ok nmX1 3 (Nat.le_of_ble_eq_true rfl) t_48 rfl rfl rfl rfl (Nat.le_of_ble_eq_true rfl) (pBB_0_3 hk0 _) dX1_copyFrom_29 ?_
  refine s_aload_n K dX1_copyFrom_32 rfl 0 rfl ?_
  refine s_aload_n K dX1_copyFrom_33 rfl 1 rfl ?_
  refine s_get K (5 + k1) (gBB_1 hk1) rfl inT1 4 (Nat.le_of_ble_eq_true rfl) t_51 rfl rfl dX1_copyFrom_34 ?_
  refine s_put (w' := (wBB cI cC cB cQ kc u v (va_up knd k0 (o_knd k1)) (upd siz k0 (o_siz k1)) (upd plc k0 (o_plc k1)) (upd onn k0 (o_onn k1)) (upd axs k0 (o_axs k1)) o_knd o_siz o_plc o_onn o_axs)) K (0 + k0) (gBB_0 hk0) rfl inT1 tyX1_ok nmX1 4 (Nat.le_of_ble_eq_true rfl) t_51 rfl rfl rfl rfl (Nat.le_of_ble_eq_true rfl) (pBB_0_4 hk0 _) dX1_copyFrom_37 ?_
  exact s_vret K hret hlk rfl rfl dX1_copyFrom_40
set_option maxHeartbeats 4000000 in
set_option maxRecDepth 100000 in
theorem c_X3_meet {l : Launch} {D : va_G} {cI cC cB cQ : ClassId} {kc : Nat → Nat} {kt : Nat} (g : Nat) (u : Nat → Nat) (gsz gsd gfw : Int32) (knd : Nat → Nat) (siz plc onn axs : Nat → Int32) (a2 a3 : Int32) (k1 : Nat) (hk1 : k1 < 5) {r : Int32 × Int32 × Int32} (hF : f_X3_meet gsz gsd gfw siz a2 a3 k1 = some r) : CT l D (tysOf cI cC cB cQ) kc kt yX3_meet cX3_meet 4 none ({ frames := 1, cells := 0, slots := 0, locals := 40 } : Room) [.ref g, .ref (u k1), .int a2, .int a3] (wGBL cI cC cB cQ kc g u gsz gsd gfw knd siz plc onn axs) ((fun (r : Int32 × Int32 × Int32) => (wGBL cI cC cB cQ kc g u (r.1) (r.2.1) (r.2.2) knd siz plc onn axs)) r) ((fun (r : Int32 × Int32 × Int32) => none) r) := by
  refine CT.of (ww := (fun (r : Int32 × Int32 × Int32) => (wGBL cI cC cB cQ kc g u (r.1) (r.2.1) (r.2.2) knd siz plc onn axs))) (oo := (fun (r : Int32 × Int32 × Int32) => none)) hF RX3 rfl rfl (Nat.le_of_ble_eq_true rfl) ?_
  intro p e s m args below meth c A K hret hlk
  rewrite [f_X3_meet]
  refine s_aload_n K dX3_meet_0 rfl 1 rfl ?_
  refine s_get K (1 + k1) (gGBL_1 hk1) rfl inT1 1 (Nat.le_of_ble_eq_true rfl) t_40 rfl rfl dX3_meet_1 ?_
  refine s_aload_n K dX3_meet_4 rfl 0 rfl ?_
  refine s_get K 0 rfl rfl inT3 0 (Nat.le_of_ble_eq_true rfl) t_101 rfl rfl dX3_meet_5 ?_
  refine s_icmp_lt (tgt := 30) K dX3_meet_8 (by decide) (fun c_1 => ?_) (fun c_1 => ?_)
  · exact s_vret K hret hlk rfl rfl dX3_meet_30
  · refine s_aload_n K dX3_meet_11 rfl 1 rfl ?_
    refine s_get K (1 + k1) (gGBL_1 hk1) rfl inT1 1 (Nat.le_of_ble_eq_true rfl) t_40 rfl rfl dX3_meet_12 ?_
    refine s_aload_n K dX3_meet_15 rfl 0 rfl ?_
    refine s_get K 0 rfl rfl inT3 0 (Nat.le_of_ble_eq_true rfl) t_101 rfl rfl dX3_meet_16 ?_
    refine s_icmp_ne (tgt := 31) K dX3_meet_19 (by decide) (fun c_2 => ?_) (fun c_2 => ?_)
    · refine s_iload_n K dX3_meet_22 rfl 2 rfl ?_
      refine s_aload_n K dX3_meet_23 rfl 0 rfl ?_
      refine s_get K 0 rfl rfl inT3 2 (Nat.le_of_ble_eq_true rfl) t_105 rfl rfl dX3_meet_24 ?_
      refine s_icmp_lt (tgt := 31) K dX3_meet_27 (by decide) (fun c_3 => ?_) (fun c_3 => ?_)
      · refine s_aload_n K dX3_meet_31 rfl 0 rfl ?_
        refine s_aload_n K dX3_meet_32 rfl 1 rfl ?_
        refine s_get K (1 + k1) (gGBL_1 hk1) rfl inT1 1 (Nat.le_of_ble_eq_true rfl) t_40 rfl rfl dX3_meet_33 ?_
        refine s_put (w' := (wGBL cI cC cB cQ kc g u (siz k1) gsd gfw knd siz plc onn axs)) K 0 rfl rfl inT3 tyX3_ok nmX3 0 (Nat.le_of_ble_eq_true rfl) t_101 rfl rfl rfl rfl (Nat.le_of_ble_eq_true rfl) rfl dX3_meet_36 ?_
        refine s_aload_n K dX3_meet_39 rfl 0 rfl ?_
        refine s_iload_n K dX3_meet_40 rfl 2 rfl ?_
        refine s_put (w' := (wGBL cI cC cB cQ kc g u (siz k1) gsd a2 knd siz plc onn axs)) K 0 rfl rfl inT3 tyX3_ok nmX3 2 (Nat.le_of_ble_eq_true rfl) t_105 rfl rfl rfl rfl (Nat.le_of_ble_eq_true rfl) rfl dX3_meet_41 ?_
        refine s_aload_n K dX3_meet_44 rfl 0 rfl ?_
        refine s_iload_n K dX3_meet_45 rfl 3 rfl ?_
        refine s_put (w' := (wGBL cI cC cB cQ kc g u (siz k1) a3 a2 knd siz plc onn axs)) K 0 rfl rfl inT3 tyX3_ok nmX3 1 (Nat.le_of_ble_eq_true rfl) t_103 rfl rfl rfl rfl (Nat.le_of_ble_eq_true rfl) rfl dX3_meet_46 ?_
        exact s_vret K hret hlk rfl rfl dX3_meet_49
      · exact s_vret K hret hlk rfl rfl dX3_meet_30
    · refine s_aload_n K dX3_meet_31 rfl 0 rfl ?_
      refine s_aload_n K dX3_meet_32 rfl 1 rfl ?_
      refine s_get K (1 + k1) (gGBL_1 hk1) rfl inT1 1 (Nat.le_of_ble_eq_true rfl) t_40 rfl rfl dX3_meet_33 ?_
      refine s_put (w' := (wGBL cI cC cB cQ kc g u (siz k1) gsd gfw knd siz plc onn axs)) K 0 rfl rfl inT3 tyX3_ok nmX3 0 (Nat.le_of_ble_eq_true rfl) t_101 rfl rfl rfl rfl (Nat.le_of_ble_eq_true rfl) rfl dX3_meet_36 ?_
      refine s_aload_n K dX3_meet_39 rfl 0 rfl ?_
      refine s_iload_n K dX3_meet_40 rfl 2 rfl ?_
      refine s_put (w' := (wGBL cI cC cB cQ kc g u (siz k1) gsd a2 knd siz plc onn axs)) K 0 rfl rfl inT3 tyX3_ok nmX3 2 (Nat.le_of_ble_eq_true rfl) t_105 rfl rfl rfl rfl (Nat.le_of_ble_eq_true rfl) rfl dX3_meet_41 ?_
      refine s_aload_n K dX3_meet_44 rfl 0 rfl ?_
      refine s_iload_n K dX3_meet_45 rfl 3 rfl ?_
      refine s_put (w' := (wGBL cI cC cB cQ kc g u (siz k1) a3 a2 knd siz plc onn axs)) K 0 rfl rfl inT3 tyX3_ok nmX3 1 (Nat.le_of_ble_eq_true rfl) t_103 rfl rfl rfl rfl (Nat.le_of_ble_eq_true rfl) rfl dX3_meet_46 ?_
      exact s_vret K hret hlk rfl rfl dX3_meet_49
set_option maxHeartbeats 4000000 in
set_option maxRecDepth 100000 in
theorem c_X0_begin {l : Launch} {D : va_G} {cI cC cB cQ : ClassId} {kc : Nat → Nat} {kt : Nat} (g : Nat) (gfw gtg : Int32) (a1 : Int32) {r : Int32 × Int32} (hF : f_X0_begin a1 = some r) : CT l D (tysOf cI cC cB cQ) kc kt yX0_begin cX0_begin 2 none ({ frames := 1, cells := 0, slots := 0, locals := 40 } : Room) [.ref g, .int a1] (wGA cI cC cB cQ kc g gfw gtg) ((fun (r : Int32 × Int32) => (wGA cI cC cB cQ kc g (r.1) (r.2))) r) ((fun (r : Int32 × Int32) => none) r) := by
  refine CT.of (ww := (fun (r : Int32 × Int32) => (wGA cI cC cB cQ kc g (r.1) (r.2)))) (oo := (fun (r : Int32 × Int32) => none)) hF RX0 rfl rfl (Nat.le_of_ble_eq_true rfl) ?_
  intro p e s m args below meth c A K hret hlk
  rewrite [f_X0_begin]
  refine s_aload_n K dX0_begin_0 rfl 0 rfl ?_
  refine s_iload_n K dX0_begin_1 rfl 1 rfl ?_
  refine s_put (w' := (wGA cI cC cB cQ kc g gfw a1)) K 0 rfl rfl inT0 tyX0_ok nmX0 1 (Nat.le_of_ble_eq_true rfl) t_121 rfl rfl rfl rfl (Nat.le_of_ble_eq_true rfl) rfl dX0_begin_2 ?_
  refine s_aload_n K dX0_begin_5 rfl 0 rfl ?_
  refine s_iconst K dX0_begin_6 kic_m1 ?_
  refine s_put (w' := (wGA cI cC cB cQ kc g (-1) a1)) K 0 rfl rfl inT0 tyX0_ok nmX0 0 (Nat.le_of_ble_eq_true rfl) t_119 rfl rfl rfl rfl (Nat.le_of_ble_eq_true rfl) rfl dX0_begin_7 ?_
  exact s_vret K hret hlk rfl rfl dX0_begin_10
set_option maxHeartbeats 4000000 in
set_option maxRecDepth 100000 in
theorem c_X0_meet {l : Launch} {D : va_G} {cI cC cB cQ : ClassId} {kc : Nat → Nat} {kt : Nat} (g : Nat) (u : Nat → Nat) (gfw gtg : Int32) (knd : Nat → Nat) (siz plc onn axs : Nat → Int32) (a2 a3 : Int32) (k1 : Nat) (hk1 : k1 < 5) {r : Int32} (hF : f_X0_meet gfw gtg plc a2 k1 = some r) : CT l D (tysOf cI cC cB cQ) kc kt yX0_meet cX0_meet 4 none ({ frames := 1, cells := 0, slots := 0, locals := 40 } : Room) [.ref g, .ref (u k1), .int a2, .int a3] (wGBA cI cC cB cQ kc g u gfw gtg knd siz plc onn axs) ((fun (r : Int32) => (wGBA cI cC cB cQ kc g u (r) gtg knd siz plc onn axs)) r) ((fun (r : Int32) => none) r) := by
  refine CT.of (ww := (fun (r : Int32) => (wGBA cI cC cB cQ kc g u (r) gtg knd siz plc onn axs))) (oo := (fun (r : Int32) => none)) hF RX0 rfl rfl (Nat.le_of_ble_eq_true rfl) ?_
  intro p e s m args below meth c A K hret hlk
  rewrite [f_X0_meet]
  refine s_aload_n K dX0_meet_0 rfl 1 rfl ?_
  refine s_get K (1 + k1) (gGBA_1 hk1) rfl inT1 2 (Nat.le_of_ble_eq_true rfl) t_45 rfl rfl dX0_meet_1 ?_
  refine s_aload_n K dX0_meet_4 rfl 0 rfl ?_
  refine s_get K 0 rfl rfl inT0 1 (Nat.le_of_ble_eq_true rfl) t_121 rfl rfl dX0_meet_5 ?_
  refine s_icmp_eq (tgt := 12) K dX0_meet_8 (by decide) (fun c_1 => ?_) (fun c_1 => ?_)
  · refine s_aload_n K dX0_meet_12 rfl 0 rfl ?_
    refine s_get K 0 rfl rfl inT0 0 (Nat.le_of_ble_eq_true rfl) t_119 rfl rfl dX0_meet_13 ?_
    refine s_iconst K dX0_meet_16 kic_m1 ?_
    refine s_icmp_eq (tgt := 28) K dX0_meet_17 (by decide) (fun c_2 => ?_) (fun c_2 => ?_)
    · refine s_aload_n K dX0_meet_28 rfl 0 rfl ?_
      refine s_iload_n K dX0_meet_29 rfl 2 rfl ?_
      refine s_put (w' := (wGBA cI cC cB cQ kc g u a2 gtg knd siz plc onn axs)) K 0 rfl rfl inT0 tyX0_ok nmX0 0 (Nat.le_of_ble_eq_true rfl) t_119 rfl rfl rfl rfl (Nat.le_of_ble_eq_true rfl) rfl dX0_meet_30 ?_
      exact s_vret K hret hlk rfl rfl dX0_meet_33
    · refine s_iload_n K dX0_meet_20 rfl 2 rfl ?_
      refine s_aload_n K dX0_meet_21 rfl 0 rfl ?_
      refine s_get K 0 rfl rfl inT0 0 (Nat.le_of_ble_eq_true rfl) t_119 rfl rfl dX0_meet_22 ?_
      refine s_icmp_ge (tgt := 33) K dX0_meet_25 (by decide) (fun c_3 => ?_) (fun c_3 => ?_)
      · exact s_vret K hret hlk rfl rfl dX0_meet_33
      · refine s_aload_n K dX0_meet_28 rfl 0 rfl ?_
        refine s_iload_n K dX0_meet_29 rfl 2 rfl ?_
        refine s_put (w' := (wGBA cI cC cB cQ kc g u a2 gtg knd siz plc onn axs)) K 0 rfl rfl inT0 tyX0_ok nmX0 0 (Nat.le_of_ble_eq_true rfl) t_119 rfl rfl rfl rfl (Nat.le_of_ble_eq_true rfl) rfl dX0_meet_30 ?_
        exact s_vret K hret hlk rfl rfl dX0_meet_33
  · exact s_vret K hret hlk rfl rfl dX0_meet_11
set_option maxHeartbeats 4000000 in
set_option maxRecDepth 100000 in
theorem c_J6_bitCount_0f7a4 {l : Launch} {D : va_G} {cI cC cB cQ : ClassId} {kc : Nat → Nat} {kt : Nat} (a0 : Int32) {r : Int32} (hF : f_J6_bitCount_0f7a4 a0 = some r) : CT l D (tysOf cI cC cB cQ) kc kt yJ6_bitCount_0f7a4 cJ6_bitCount_0f7a4 1 (some .int) ({ frames := 1, cells := 0, slots := 0, locals := 40 } : Room) [.int a0] [] ((fun (r : Int32) => []) r) ((fun (r : Int32) => some (.int r)) r) := by
  refine CT.of (ww := (fun (r : Int32) => [])) (oo := (fun (r : Int32) => some (.int r))) hF RJ6 rfl rfl (Nat.le_of_ble_eq_true rfl) ?_
  intro p e s m args below meth c A K hret hlk
  rewrite [f_J6_bitCount_0f7a4]
  refine s_iload_n K dJ6_bitCount_0f7a4_0 rfl 0 rfl ?_
  refine s_iload_n K dJ6_bitCount_0f7a4_1 rfl 0 rfl ?_
  refine s_iconst K dJ6_bitCount_0f7a4_2 kic_1 ?_
  refine s_iushr K dJ6_bitCount_0f7a4_3 ?_
  refine s_ldcw K dJ6_bitCount_0f7a4_4 t_451 ?_
  refine s_iand K dJ6_bitCount_0f7a4_7 ?_
  refine s_isub K dJ6_bitCount_0f7a4_8 ?_
  refine s_istore_n (lv' := [(0, .int (a0 - (((Int32.toUInt32 a0 >>> (Int32.toUInt32 1 &&& Int32.toUInt32 31)).toInt32) &&& 1431655765)))]) K dJ6_bitCount_0f7a4_9 rfl (Nat.le_of_ble_eq_true rfl) rfl ?_
  refine s_iload_n K dJ6_bitCount_0f7a4_10 rfl 0 rfl ?_
  refine s_ldcw K dJ6_bitCount_0f7a4_11 t_452 ?_
  refine s_iand K dJ6_bitCount_0f7a4_14 ?_
  refine s_iload_n K dJ6_bitCount_0f7a4_15 rfl 0 rfl ?_
  refine s_iconst K dJ6_bitCount_0f7a4_16 kic_2 ?_
  refine s_iushr K dJ6_bitCount_0f7a4_17 ?_
  refine s_ldcw K dJ6_bitCount_0f7a4_18 t_452 ?_
  refine s_iand K dJ6_bitCount_0f7a4_21 ?_
  refine s_iadd K dJ6_bitCount_0f7a4_22 ?_
  refine s_istore_n (lv' := [(0, .int (((a0 - (((Int32.toUInt32 a0 >>> (Int32.toUInt32 1 &&& Int32.toUInt32 31)).toInt32) &&& 1431655765)) &&& 858993459) + (((Int32.toUInt32 (a0 - (((Int32.toUInt32 a0 >>> (Int32.toUInt32 1 &&& Int32.toUInt32 31)).toInt32) &&& 1431655765)) >>> (Int32.toUInt32 2 &&& Int32.toUInt32 31)).toInt32) &&& 858993459)))]) K dJ6_bitCount_0f7a4_23 rfl (Nat.le_of_ble_eq_true rfl) rfl ?_
  refine s_iload_n K dJ6_bitCount_0f7a4_24 rfl 0 rfl ?_
  refine s_iload_n K dJ6_bitCount_0f7a4_25 rfl 0 rfl ?_
  refine s_iconst K dJ6_bitCount_0f7a4_26 kic_4 ?_
  refine s_iushr K dJ6_bitCount_0f7a4_27 ?_
  refine s_iadd K dJ6_bitCount_0f7a4_28 ?_
  refine s_ldcw K dJ6_bitCount_0f7a4_29 t_453 ?_
  refine s_iand K dJ6_bitCount_0f7a4_32 ?_
  refine s_istore_n (lv' := [(0, .int (((((a0 - (((Int32.toUInt32 a0 >>> (Int32.toUInt32 1 &&& Int32.toUInt32 31)).toInt32) &&& 1431655765)) &&& 858993459) + (((Int32.toUInt32 (a0 - (((Int32.toUInt32 a0 >>> (Int32.toUInt32 1 &&& Int32.toUInt32 31)).toInt32) &&& 1431655765)) >>> (Int32.toUInt32 2 &&& Int32.toUInt32 31)).toInt32) &&& 858993459)) + ((Int32.toUInt32 (((a0 - (((Int32.toUInt32 a0 >>> (Int32.toUInt32 1 &&& Int32.toUInt32 31)).toInt32) &&& 1431655765)) &&& 858993459) + (((Int32.toUInt32 (a0 - (((Int32.toUInt32 a0 >>> (Int32.toUInt32 1 &&& Int32.toUInt32 31)).toInt32) &&& 1431655765)) >>> (Int32.toUInt32 2 &&& Int32.toUInt32 31)).toInt32) &&& 858993459)) >>> (Int32.toUInt32 4 &&& Int32.toUInt32 31)).toInt32)) &&& 252645135))]) K dJ6_bitCount_0f7a4_33 rfl (Nat.le_of_ble_eq_true rfl) rfl ?_
  refine s_iload_n K dJ6_bitCount_0f7a4_34 rfl 0 rfl ?_
  refine s_iload_n K dJ6_bitCount_0f7a4_35 rfl 0 rfl ?_
  refine s_bipush K dJ6_bitCount_0f7a4_36 kib_8 ?_
  refine s_iushr K dJ6_bitCount_0f7a4_38 ?_
  refine s_iadd K dJ6_bitCount_0f7a4_39 ?_
  refine s_istore_n (lv' := [(0, .int ((((((a0 - (((Int32.toUInt32 a0 >>> (Int32.toUInt32 1 &&& Int32.toUInt32 31)).toInt32) &&& 1431655765)) &&& 858993459) + (((Int32.toUInt32 (a0 - (((Int32.toUInt32 a0 >>> (Int32.toUInt32 1 &&& Int32.toUInt32 31)).toInt32) &&& 1431655765)) >>> (Int32.toUInt32 2 &&& Int32.toUInt32 31)).toInt32) &&& 858993459)) + ((Int32.toUInt32 (((a0 - (((Int32.toUInt32 a0 >>> (Int32.toUInt32 1 &&& Int32.toUInt32 31)).toInt32) &&& 1431655765)) &&& 858993459) + (((Int32.toUInt32 (a0 - (((Int32.toUInt32 a0 >>> (Int32.toUInt32 1 &&& Int32.toUInt32 31)).toInt32) &&& 1431655765)) >>> (Int32.toUInt32 2 &&& Int32.toUInt32 31)).toInt32) &&& 858993459)) >>> (Int32.toUInt32 4 &&& Int32.toUInt32 31)).toInt32)) &&& 252645135) + ((Int32.toUInt32 (((((a0 - (((Int32.toUInt32 a0 >>> (Int32.toUInt32 1 &&& Int32.toUInt32 31)).toInt32) &&& 1431655765)) &&& 858993459) + (((Int32.toUInt32 (a0 - (((Int32.toUInt32 a0 >>> (Int32.toUInt32 1 &&& Int32.toUInt32 31)).toInt32) &&& 1431655765)) >>> (Int32.toUInt32 2 &&& Int32.toUInt32 31)).toInt32) &&& 858993459)) + ((Int32.toUInt32 (((a0 - (((Int32.toUInt32 a0 >>> (Int32.toUInt32 1 &&& Int32.toUInt32 31)).toInt32) &&& 1431655765)) &&& 858993459) + (((Int32.toUInt32 (a0 - (((Int32.toUInt32 a0 >>> (Int32.toUInt32 1 &&& Int32.toUInt32 31)).toInt32) &&& 1431655765)) >>> (Int32.toUInt32 2 &&& Int32.toUInt32 31)).toInt32) &&& 858993459)) >>> (Int32.toUInt32 4 &&& Int32.toUInt32 31)).toInt32)) &&& 252645135) >>> (Int32.toUInt32 8 &&& Int32.toUInt32 31)).toInt32)))]) K dJ6_bitCount_0f7a4_40 rfl (Nat.le_of_ble_eq_true rfl) rfl ?_
  refine s_iload_n K dJ6_bitCount_0f7a4_41 rfl 0 rfl ?_
  refine s_iload_n K dJ6_bitCount_0f7a4_42 rfl 0 rfl ?_
  refine s_bipush K dJ6_bitCount_0f7a4_43 kib_16 ?_
  refine s_iushr K dJ6_bitCount_0f7a4_45 ?_
  refine s_iadd K dJ6_bitCount_0f7a4_46 ?_
  refine s_istore_n (lv' := [(0, .int (((((((a0 - (((Int32.toUInt32 a0 >>> (Int32.toUInt32 1 &&& Int32.toUInt32 31)).toInt32) &&& 1431655765)) &&& 858993459) + (((Int32.toUInt32 (a0 - (((Int32.toUInt32 a0 >>> (Int32.toUInt32 1 &&& Int32.toUInt32 31)).toInt32) &&& 1431655765)) >>> (Int32.toUInt32 2 &&& Int32.toUInt32 31)).toInt32) &&& 858993459)) + ((Int32.toUInt32 (((a0 - (((Int32.toUInt32 a0 >>> (Int32.toUInt32 1 &&& Int32.toUInt32 31)).toInt32) &&& 1431655765)) &&& 858993459) + (((Int32.toUInt32 (a0 - (((Int32.toUInt32 a0 >>> (Int32.toUInt32 1 &&& Int32.toUInt32 31)).toInt32) &&& 1431655765)) >>> (Int32.toUInt32 2 &&& Int32.toUInt32 31)).toInt32) &&& 858993459)) >>> (Int32.toUInt32 4 &&& Int32.toUInt32 31)).toInt32)) &&& 252645135) + ((Int32.toUInt32 (((((a0 - (((Int32.toUInt32 a0 >>> (Int32.toUInt32 1 &&& Int32.toUInt32 31)).toInt32) &&& 1431655765)) &&& 858993459) + (((Int32.toUInt32 (a0 - (((Int32.toUInt32 a0 >>> (Int32.toUInt32 1 &&& Int32.toUInt32 31)).toInt32) &&& 1431655765)) >>> (Int32.toUInt32 2 &&& Int32.toUInt32 31)).toInt32) &&& 858993459)) + ((Int32.toUInt32 (((a0 - (((Int32.toUInt32 a0 >>> (Int32.toUInt32 1 &&& Int32.toUInt32 31)).toInt32) &&& 1431655765)) &&& 858993459) + (((Int32.toUInt32 (a0 - (((Int32.toUInt32 a0 >>> (Int32.toUInt32 1 &&& Int32.toUInt32 31)).toInt32) &&& 1431655765)) >>> (Int32.toUInt32 2 &&& Int32.toUInt32 31)).toInt32) &&& 858993459)) >>> (Int32.toUInt32 4 &&& Int32.toUInt32 31)).toInt32)) &&& 252645135) >>> (Int32.toUInt32 8 &&& Int32.toUInt32 31)).toInt32)) + ((Int32.toUInt32 ((((((a0 - (((Int32.toUInt32 a0 >>> (Int32.toUInt32 1 &&& Int32.toUInt32 31)).toInt32) &&& 1431655765)) &&& 858993459) + (((Int32.toUInt32 (a0 - (((Int32.toUInt32 a0 >>> (Int32.toUInt32 1 &&& Int32.toUInt32 31)).toInt32) &&& 1431655765)) >>> (Int32.toUInt32 2 &&& Int32.toUInt32 31)).toInt32) &&& 858993459)) + ((Int32.toUInt32 (((a0 - (((Int32.toUInt32 a0 >>> (Int32.toUInt32 1 &&& Int32.toUInt32 31)).toInt32) &&& 1431655765)) &&& 858993459) + (((Int32.toUInt32 (a0 - (((Int32.toUInt32 a0 >>> (Int32.toUInt32 1 &&& Int32.toUInt32 31)).toInt32) &&& 1431655765)) >>> (Int32.toUInt32 2 &&& Int32.toUInt32 31)).toInt32) &&& 858993459)) >>> (Int32.toUInt32 4 &&& Int32.toUInt32 31)).toInt32)) &&& 252645135) + ((Int32.toUInt32 (((((a0 - (((Int32.toUInt32 a0 >>> (Int32.toUInt32 1 &&& Int32.toUInt32 31)).toInt32) &&& 1431655765)) &&& 858993459) + (((Int32.toUInt32 (a0 - (((Int32.toUInt32 a0 >>> (Int32.toUInt32 1 &&& Int32.toUInt32 31)).toInt32) &&& 1431655765)) >>> (Int32.toUInt32 2 &&& Int32.toUInt32 31)).toInt32) &&& 858993459)) + ((Int32.toUInt32 (((a0 - (((Int32.toUInt32 a0 >>> (Int32.toUInt32 1 &&& Int32.toUInt32 31)).toInt32) &&& 1431655765)) &&& 858993459) + (((Int32.toUInt32 (a0 - (((Int32.toUInt32 a0 >>> (Int32.toUInt32 1 &&& Int32.toUInt32 31)).toInt32) &&& 1431655765)) >>> (Int32.toUInt32 2 &&& Int32.toUInt32 31)).toInt32) &&& 858993459)) >>> (Int32.toUInt32 4 &&& Int32.toUInt32 31)).toInt32)) &&& 252645135) >>> (Int32.toUInt32 8 &&& Int32.toUInt32 31)).toInt32)) >>> (Int32.toUInt32 16 &&& Int32.toUInt32 31)).toInt32)))]) K dJ6_bitCount_0f7a4_47 rfl (Nat.le_of_ble_eq_true rfl) rfl ?_
  refine s_iload_n K dJ6_bitCount_0f7a4_48 rfl 0 rfl ?_
  refine s_bipush K dJ6_bitCount_0f7a4_49 kib_63 ?_
  refine s_iand K dJ6_bitCount_0f7a4_51 ?_
  exact s_iret K hret hlk rfl rfl dJ6_bitCount_0f7a4_52
set_option maxHeartbeats 4000000 in
set_option maxRecDepth 100000 in
theorem c_X6_begin {l : Launch} {D : va_G} {cI cC cB cQ : ClassId} {kc : Nat → Nat} {kt : Nat} (g : Nat) (gwy grl gsz : Int32) (a1 a2 : Int32) {r : Int32 × Int32 × Int32} (hF : f_X6_begin a1 a2 = some r) : CT l D (tysOf cI cC cB cQ) kc kt yX6_begin cX6_begin 3 none ({ frames := 1, cells := 0, slots := 0, locals := 40 } : Room) [.ref g, .int a1, .int a2] (wGG cI cC cB cQ kc g gwy grl gsz) ((fun (r : Int32 × Int32 × Int32) => (wGG cI cC cB cQ kc g (r.1) (r.2.1) (r.2.2))) r) ((fun (r : Int32 × Int32 × Int32) => none) r) := by
  refine CT.of (ww := (fun (r : Int32 × Int32 × Int32) => (wGG cI cC cB cQ kc g (r.1) (r.2.1) (r.2.2)))) (oo := (fun (r : Int32 × Int32 × Int32) => none)) hF RX6 rfl rfl (Nat.le_of_ble_eq_true rfl) ?_
  intro p e s m args below meth c A K hret hlk
  rewrite [f_X6_begin]
  refine s_aload_n K dX6_begin_0 rfl 0 rfl ?_
  refine s_iload_n K dX6_begin_1 rfl 1 rfl ?_
  refine s_put (w' := (wGG cI cC cB cQ kc g gwy a1 gsz)) K 0 rfl rfl inT6 tyX6_ok nmX6 1 (Nat.le_of_ble_eq_true rfl) t_135 rfl rfl rfl rfl (Nat.le_of_ble_eq_true rfl) rfl dX6_begin_2 ?_
  refine s_aload_n K dX6_begin_5 rfl 0 rfl ?_
  refine s_iload_n K dX6_begin_6 rfl 2 rfl ?_
  refine s_put (w' := (wGG cI cC cB cQ kc g gwy a1 a2)) K 0 rfl rfl inT6 tyX6_ok nmX6 2 (Nat.le_of_ble_eq_true rfl) t_136 rfl rfl rfl rfl (Nat.le_of_ble_eq_true rfl) rfl dX6_begin_7 ?_
  refine s_aload_n K dX6_begin_10 rfl 0 rfl ?_
  refine s_iconst K dX6_begin_11 kic_0 ?_
  refine s_put (w' := (wGG cI cC cB cQ kc g 0 a1 a2)) K 0 rfl rfl inT6 tyX6_ok nmX6 0 (Nat.le_of_ble_eq_true rfl) t_133 rfl rfl rfl rfl (Nat.le_of_ble_eq_true rfl) rfl dX6_begin_12 ?_
  exact s_vret K hret hlk rfl rfl dX6_begin_15
set_option maxHeartbeats 4000000 in
set_option maxRecDepth 100000 in
theorem c_X6_meet {l : Launch} {D : va_G} {cI cC cB cQ : ClassId} {kc : Nat → Nat} {kt : Nat} (g : Nat) (u : Nat → Nat) (gwy grl gsz : Int32) (knd : Nat → Nat) (siz plc onn axs : Nat → Int32) (a2 a3 : Int32) (k1 : Nat) (hk1 : k1 < 5) {r : Int32} (hF : f_X6_meet gwy grl gsz siz a2 k1 = some r) : CT l D (tysOf cI cC cB cQ) kc kt yX6_meet cX6_meet 4 none ({ frames := 1, cells := 0, slots := 0, locals := 40 } : Room) [.ref g, .ref (u k1), .int a2, .int a3] (wGBG cI cC cB cQ kc g u gwy grl gsz knd siz plc onn axs) ((fun (r : Int32) => (wGBG cI cC cB cQ kc g u (r) grl gsz knd siz plc onn axs)) r) ((fun (r : Int32) => none) r) := by
  refine CT.of (ww := (fun (r : Int32) => (wGBG cI cC cB cQ kc g u (r) grl gsz knd siz plc onn axs))) (oo := (fun (r : Int32) => none)) hF RX6 rfl rfl (Nat.le_of_ble_eq_true rfl) ?_
  intro p e s m args below meth c A K hret hlk
  rewrite [f_X6_meet]
  refine s_iload_n K dX6_meet_0 rfl 2 rfl ?_
  refine s_aload_n K dX6_meet_1 rfl 0 rfl ?_
  refine s_get K 0 rfl rfl inT6 1 (Nat.le_of_ble_eq_true rfl) t_135 rfl rfl dX6_meet_2 ?_
  refine s_icmp_ne (tgt := 29) K dX6_meet_5 (by decide) (fun c_1 => ?_) (fun c_1 => ?_)
  · refine s_aload_n K dX6_meet_8 rfl 1 rfl ?_
    refine s_get K (1 + k1) (gGBG_1 hk1) rfl inT1 1 (Nat.le_of_ble_eq_true rfl) t_41 rfl rfl dX6_meet_9 ?_
    refine s_aload_n K dX6_meet_12 rfl 0 rfl ?_
    refine s_get K 0 rfl rfl inT6 2 (Nat.le_of_ble_eq_true rfl) t_136 rfl rfl dX6_meet_13 ?_
    refine s_icmp_ne (tgt := 29) K dX6_meet_16 (by decide) (fun c_2 => ?_) (fun c_2 => ?_)
    · refine s_aload_n K dX6_meet_19 rfl 0 rfl ?_
      refine s_dup K dX6_meet_20 rfl ?_
      refine s_get K 0 rfl rfl inT6 0 (Nat.le_of_ble_eq_true rfl) t_133 rfl rfl dX6_meet_21 ?_
      refine s_iconst K dX6_meet_24 kic_1 ?_
      refine s_iadd K dX6_meet_25 ?_
      refine s_put (w' := (wGBG cI cC cB cQ kc g u (gwy + 1) grl gsz knd siz plc onn axs)) K 0 rfl rfl inT6 tyX6_ok nmX6 0 (Nat.le_of_ble_eq_true rfl) t_133 rfl rfl rfl rfl (Nat.le_of_ble_eq_true rfl) rfl dX6_meet_26 ?_
      exact s_vret K hret hlk rfl rfl dX6_meet_29
    · exact s_vret K hret hlk rfl rfl dX6_meet_29
  · exact s_vret K hret hlk rfl rfl dX6_meet_29
set_option maxHeartbeats 4000000 in
set_option maxRecDepth 100000 in
theorem c_X7_nextSeed {l : Launch} {D : va_G} {cI cC cB cQ : ClassId} {kc : Nat → Nat} {kt : Nat} (a0 : Int64) {r : Int64} (hF : f_X7_nextSeed a0 = some r) : CT l D (tysOf cI cC cB cQ) kc kt yX7_nextSeed cX7_nextSeed 2 (some .long) ({ frames := 1, cells := 0, slots := 0, locals := 40 } : Room) [.long a0] [] ((fun (r : Int64) => []) r) ((fun (r : Int64) => some (.long r)) r) := by
  refine CT.of (ww := (fun (r : Int64) => [])) (oo := (fun (r : Int64) => some (.long r))) hF RX7 rfl rfl (Nat.le_of_ble_eq_true rfl) ?_
  intro p e s m args below meth c A K hret hlk
  rewrite [f_X7_nextSeed]
  refine s_ldc2 K dX7_nextSeed_0 t_493 ?_
  refine s_lload_n K dX7_nextSeed_3 rfl 0 rfl ?_
  refine s_lmul K dX7_nextSeed_4 ?_
  refine s_ldc2 K dX7_nextSeed_5 t_494 ?_
  refine s_ladd K dX7_nextSeed_8 ?_
  refine s_ldc2 K dX7_nextSeed_9 t_495 ?_
  refine s_lrem K dX7_nextSeed_12 knzl_2147483648 ?_
  exact s_lret K hret hlk rfl rfl dX7_nextSeed_13
set_option maxHeartbeats 4000000 in
set_option maxRecDepth 100000 in
theorem c_X7_drawOf {l : Launch} {D : va_G} {cI cC cB cQ : ClassId} {kc : Nat → Nat} {kt : Nat} (a0 : Int64) (a1 : Int32) {r : Int32} (hF : f_X7_drawOf a0 a1 = some r) : CT l D (tysOf cI cC cB cQ) kc kt yX7_drawOf cX7_drawOf 3 (some .int) ({ frames := 1, cells := 0, slots := 0, locals := 40 } : Room) [.long a0, .int a1] [] ((fun (r : Int32) => []) r) ((fun (r : Int32) => some (.int r)) r) := by
  refine CT.of (ww := (fun (r : Int32) => [])) (oo := (fun (r : Int32) => some (.int r))) hF RX7 rfl rfl (Nat.le_of_ble_eq_true rfl) ?_
  intro p e s m args below meth c A K hret hlk
  rewrite [f_X7_drawOf]
  refine s_iload_n K dX7_drawOf_0 rfl 1 rfl ?_
  refine s_if_le (tgt := 16) K dX7_drawOf_1 (by decide) (fun c_1 => ?_) (fun c_1 => ?_)
  · refine s_iconst K dX7_drawOf_16 kic_0 ?_
    exact s_iret K hret hlk rfl rfl dX7_drawOf_17
  · refine s_lload_n K dX7_drawOf_4 rfl 0 rfl ?_
    refine s_ldc2 K dX7_drawOf_5 t_499 ?_
    refine s_ldiv K dX7_drawOf_8 knzl_65536 ?_
    refine s_iload_n K dX7_drawOf_9 rfl 1 rfl ?_
    refine s_i2l K dX7_drawOf_10 ?_
    refine s_ck (fun hz_2 => ?_)
    refine s_lrem K dX7_drawOf_11 hz_2 ?_
    refine s_l2i K dX7_drawOf_12 ?_
    refine s_goto (tgt := 17) K dX7_drawOf_13 (by decide) ?_
    exact s_iret K hret hlk rfl rfl dX7_drawOf_17
set_option maxHeartbeats 4000000 in
set_option maxRecDepth 100000 in
theorem c_X7_mixed {l : Launch} {D : va_G} {cI cC cB cQ : ClassId} {kc : Nat → Nat} {kt : Nat} (a0 a1 : Int64) {r : Int64} (hF : f_X7_mixed a0 a1 = some r) : CT l D (tysOf cI cC cB cQ) kc kt yX7_mixed cX7_mixed 4 (some .long) ({ frames := 1, cells := 0, slots := 0, locals := 40 } : Room) [.long a0, .long a1] [] ((fun (r : Int64) => []) r) ((fun (r : Int64) => some (.long r)) r) := by
  refine CT.of (ww := (fun (r : Int64) => [])) (oo := (fun (r : Int64) => some (.long r))) hF RX7 rfl rfl (Nat.le_of_ble_eq_true rfl) ?_
  intro p e s m args below meth c A K hret hlk
  rewrite [f_X7_mixed]
  refine s_ldc2 K dX7_mixed_0 t_537 ?_
  refine s_lload_n K dX7_mixed_3 rfl 0 rfl ?_
  refine s_lmul K dX7_mixed_4 ?_
  refine s_lload_n K dX7_mixed_5 rfl 1 rfl ?_
  refine s_ladd K dX7_mixed_6 ?_
  exact s_lret K hret hlk rfl rfl dX7_mixed_7
