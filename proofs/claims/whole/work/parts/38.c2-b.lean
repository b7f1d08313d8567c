set_option maxHeartbeats 4000000 in
set_option maxRecDepth 100000 in
theorem c_X4_clear {l : Launch} {D : va_G} {cI cC cB cQ : ClassId} {kc : Nat → Nat} {kt : Nat} (uh ud ub : Nat) (ua : Nat → Nat) (cnt wet stg dys : Int32) (dep : Nat → Int32) (knd : Nat → Nat) (siz plc onn axs : Nat → Int32) {r : Int32 × Int32 × Int32} (hF : f_X4_clear = some r) : CT l D (tysOf cI cC cB cQ) kc kt yX4_clear cX4_clear 1 none ({ frames := 1, cells := 0, slots := 0, locals := 40 } : Room) [.ref uh] (wL cI cC cB cQ kc uh ud ub ua cnt wet stg dys dep knd siz plc onn axs) ((fun (r : Int32 × Int32 × Int32) => (wL cI cC cB cQ kc uh ud ub ua (r.1) wet (r.2.1) (r.2.2) dep knd siz plc onn axs)) r) ((fun (r : Int32 × Int32 × Int32) => none) r) := by
  refine CT.of (ww := (fun (r : Int32 × Int32 × Int32) => (wL cI cC cB cQ kc uh ud ub ua (r.1) wet (r.2.1) (r.2.2) dep knd siz plc onn axs))) (oo := (fun (r : Int32 × Int32 × Int32) => none)) hF RX4 rfl rfl (Nat.le_of_ble_eq_true rfl) ?_
  intro p e s m args below meth c A K hret hlk
  rewrite [f_X4_clear]
  refine s_aload_n K dX4_clear_0 rfl 0 rfl ?_
  refine s_iconst K dX4_clear_1 kic_0 ?_
  refine s_put (w' := (wL cI cC cB cQ kc uh ud ub ua 0 wet stg dys dep knd siz plc onn axs)) K 0 rfl rfl inT4 tyX4_ok nmX4 2 (Nat.le_of_ble_eq_true rfl) t_71 rfl rfl rfl rfl (Nat.le_of_ble_eq_true rfl) rfl dX4_clear_2 ?_
  refine s_aload_n K dX4_clear_5 rfl 0 rfl ?_
  refine s_iconst K dX4_clear_6 kic_0 ?_
  refine s_put (w' := (wL cI cC cB cQ kc uh ud ub ua 0 wet stg 0 dep knd siz plc onn axs)) K 0 rfl rfl inT4 tyX4_ok nmX4 5 (Nat.le_of_ble_eq_true rfl) t_77 rfl rfl rfl rfl (Nat.le_of_ble_eq_true rfl) rfl dX4_clear_7 ?_
  refine s_aload_n K dX4_clear_10 rfl 0 rfl ?_
  refine s_bipush K dX4_clear_11 kib_20 ?_
  refine s_put (w' := (wL cI cC cB cQ kc uh ud ub ua 0 wet 20 0 dep knd siz plc onn axs)) K 0 rfl rfl inT4 tyX4_ok nmX4 4 (Nat.le_of_ble_eq_true rfl) t_75 rfl rfl rfl rfl (Nat.le_of_ble_eq_true rfl) rfl dX4_clear_13 ?_
  exact s_vret K hret hlk rfl rfl dX4_clear_16
set_option maxHeartbeats 4000000 in
set_option maxRecDepth 100000 in
theorem c_X4_allDepths {l : Launch} {D : va_G} {cI cC cB cQ : ClassId} {kc : Nat → Nat} {kt : Nat} (uh ud ub : Nat) (ua : Nat → Nat) (cnt wet stg dys : Int32) (dep : Nat → Int32) (knd : Nat → Nat) (siz plc onn axs : Nat → Int32) {r : Int32} (hF : f_X4_allDepths dep = some r) : CT l D (tysOf cI cC cB cQ) kc kt yX4_allDepths cX4_allDepths 6 (some .int) ({ frames := 1, cells := 0, slots := 0, locals := 40 } : Room) [.ref uh] (wL cI cC cB cQ kc uh ud ub ua cnt wet stg dys dep knd siz plc onn axs) ((fun (r : Int32) => (wL cI cC cB cQ kc uh ud ub ua cnt wet stg dys dep knd siz plc onn axs)) r) ((fun (r : Int32) => some (.int r)) r) := by
  refine CT.of (ww := (fun (r : Int32) => (wL cI cC cB cQ kc uh ud ub ua cnt wet stg dys dep knd siz plc onn axs))) (oo := (fun (r : Int32) => some (.int r))) hF RX4 rfl rfl (Nat.le_of_ble_eq_true rfl) ?_
  intro p e s m args below meth c A K hret hlk
  have L13 : ∀ (fu : Nat) (x1 x3 x4 : Int32), Sw (ρ := Int32) p l e ({ frames := 1, cells := 0, slots := 0, locals := 40 } : Room) s m args below meth c 0 0 D A 6 (fun r => MQ below (CQ D ((fun (r : Int32) => (wL cI cC cB cQ kc uh ud ub ua cnt wet stg dys dep knd siz plc onn axs)) r) ((fun (r : Int32) => some (.int r)) r) A) args s 0 0 A) (f_X4_allDepths_h13 dep fu x1 x3 x4) (wL cI cC cB cQ kc uh ud ub ua cnt wet stg dys dep knd siz plc onn axs) [(1, .int x1), (2, .ref ud), (3, .int x3), (4, .int x4)] 13 [] := by
    intro  fu
    induction fu with
    | zero =>
      intro x1 x3 x4
      rewrite [f_X4_allDepths_h13]
      exact s_none
    | succ fu ih =>
      intro x1 x3 x4
      rewrite [f_X4_allDepths_h13]
      refine s_iload K dX4_allDepths_13 3 rfl ?_
      refine s_iload_n K dX4_allDepths_15 rfl 2 rfl ?_
      refine s_icmp_ge (tgt := 36) K dX4_allDepths_16 (by decide) (fun c_1 => ?_) (fun c_1 => ?_)
      · refine s_iload_n K dX4_allDepths_36 rfl 0 rfl ?_
        exact s_iret K hret hlk rfl rfl dX4_allDepths_37
      · refine s_aload_n K dX4_allDepths_19 rfl 1 rfl ?_
        refine s_iload K dX4_allDepths_20 3 rfl ?_
        refine s_ck (fun ho_2 => ?_)
        refine s_iald K 1 0 rfl rfl (ok_in ho_2) rfl dX4_allDepths_22 ?_
        refine s_istore (lv' := [(5, .int (dep (Int32.toNatClampNeg x4))), (1, .int x1), (2, .ref ud), (3, .int x3), (4, .int x4)]) K dX4_allDepths_23 (Nat.le_of_ble_eq_true rfl) rfl ?_
        refine s_iload_n K dX4_allDepths_25 rfl 1 rfl ?_
        refine s_iload K dX4_allDepths_26 0 rfl ?_
        refine s_iadd K dX4_allDepths_28 ?_
        refine s_istore_n (lv' := [(1, .int (x1 + (dep (Int32.toNatClampNeg x4)))), (5, .int (dep (Int32.toNatClampNeg x4))), (2, .ref ud), (3, .int x3), (4, .int x4)]) K dX4_allDepths_29 rfl (Nat.le_of_ble_eq_true rfl) rfl ?_
        refine s_iinc (lv' := [(4, .int (x4 + 1)), (1, .int (x1 + (dep (Int32.toNatClampNeg x4)))), (5, .int (dep (Int32.toNatClampNeg x4))), (2, .ref ud), (3, .int x3)]) K dX4_allDepths_30 4 rfl (kii_1 _) (Nat.le_of_ble_eq_true rfl) rfl ?_
        refine s_goto (tgt := 13) K dX4_allDepths_33 (by decide) ?_
        refine s_lv (lv' := [(1, .int (x1 + (dep (Int32.toNatClampNeg x4)))), (2, .ref ud), (3, .int x3), (4, .int (x4 + 1))]) [1, 3, 4, 0] rfl ?_
        exact ih (x1 + (dep (Int32.toNatClampNeg x4))) x3 (x4 + 1)
  rewrite [f_X4_allDepths]
  refine s_iconst K dX4_allDepths_0 kic_0 ?_
  refine s_istore_n (lv' := [(1, .int 0), (0, .ref uh)]) K dX4_allDepths_1 rfl (Nat.le_of_ble_eq_true rfl) rfl ?_
  refine s_aload_n K dX4_allDepths_2 rfl 1 rfl ?_
  refine s_get K 0 rfl rfl inT4 0 (Nat.le_of_ble_eq_true rfl) t_67 rfl rfl dX4_allDepths_3 ?_
  refine s_astore_n (lv' := [(2, .ref ud), (1, .int 0), (0, .ref uh)]) K dX4_allDepths_6 rfl (Nat.le_of_ble_eq_true rfl) rfl ?_
  refine s_aload_n K dX4_allDepths_7 rfl 0 rfl ?_
  refine s_alen (v := 20) K 1 0 rfl rfl rfl dX4_allDepths_8 ?_
  refine s_istore_n (lv' := [(3, .int 20), (2, .ref ud), (1, .int 0), (0, .ref uh)]) K dX4_allDepths_9 rfl (Nat.le_of_ble_eq_true rfl) rfl ?_
  refine s_iconst K dX4_allDepths_10 kic_0 ?_
  refine s_istore (lv' := [(4, .int 0), (3, .int 20), (2, .ref ud), (1, .int 0), (0, .ref uh)]) K dX4_allDepths_11 (Nat.le_of_ble_eq_true rfl) rfl ?_
  refine s_lv (lv' := [(1, .int 0), (2, .ref ud), (3, .int 20), (4, .int 0)]) [3, 2, 1, 0] rfl ?_
  exact L13 70 0 20 0
set_option maxHeartbeats 4000000 in
set_option maxRecDepth 100000 in
theorem c_X4_lowestAt {l : Launch} {D : va_G} {cI cC cB cQ : ClassId} {kc : Nat → Nat} {kt : Nat} (uh ud ub : Nat) (ua : Nat → Nat) (cnt wet stg dys : Int32) (dep : Nat → Int32) (knd : Nat → Nat) (siz plc onn axs : Nat → Int32) (a1 : Int32) {r : Int32} (hF : f_X4_lowestAt cnt plc onn a1 = some r) : CT l D (tysOf cI cC cB cQ) kc kt yX4_lowestAt cX4_lowestAt 3 (some .int) ({ frames := 1, cells := 0, slots := 0, locals := 40 } : Room) [.ref uh, .int a1] (wL cI cC cB cQ kc uh ud ub ua cnt wet stg dys dep knd siz plc onn axs) ((fun (r : Int32) => (wL cI cC cB cQ kc uh ud ub ua cnt wet stg dys dep knd siz plc onn axs)) r) ((fun (r : Int32) => some (.int r)) r) := by
  refine CT.of (ww := (fun (r : Int32) => (wL cI cC cB cQ kc uh ud ub ua cnt wet stg dys dep knd siz plc onn axs))) (oo := (fun (r : Int32) => some (.int r))) hF RX4 rfl rfl (Nat.le_of_ble_eq_true rfl) ?_
  intro p e s m args below meth c A K hret hlk
  have L2 : ∀ (fu : Nat) (x2 : Int32), Sw (ρ := Int32) p l e ({ frames := 1, cells := 0, slots := 0, locals := 40 } : Room) s m args below meth c 0 0 D A 3 (fun r => MQ below (CQ D ((fun (r : Int32) => (wL cI cC cB cQ kc uh ud ub ua cnt wet stg dys dep knd siz plc onn axs)) r) ((fun (r : Int32) => some (.int r)) r) A) args s 0 0 A) (f_X4_lowestAt_h2 cnt plc onn a1 fu x2) (wL cI cC cB cQ kc uh ud ub ua cnt wet stg dys dep knd siz plc onn axs) [(0, .ref uh), (1, .int a1), (2, .int x2)] 2 [] := by
    intro  fu
    induction fu with
    | zero =>
      intro x2
      rewrite [f_X4_lowestAt_h2]
      exact s_none
    | succ fu ih =>
      intro x2
      rewrite [f_X4_lowestAt_h2]
      refine s_iload_n K dX4_lowestAt_2 rfl 2 rfl ?_
      refine s_aload_n K dX4_lowestAt_3 rfl 0 rfl ?_
      refine s_get K 0 rfl rfl inT4 2 (Nat.le_of_ble_eq_true rfl) t_71 rfl rfl dX4_lowestAt_4 ?_
      refine s_icmp_ge (tgt := 44) K dX4_lowestAt_7 (by decide) (fun c_1 => ?_) (fun c_1 => ?_)
      · refine s_iconst K dX4_lowestAt_44 kic_m1 ?_
        exact s_iret K hret hlk rfl rfl dX4_lowestAt_45
      · refine s_aload_n K dX4_lowestAt_10 rfl 0 rfl ?_
        refine s_get K 0 rfl rfl inT4 1 (Nat.le_of_ble_eq_true rfl) t_69 rfl rfl dX4_lowestAt_11 ?_
        refine s_iload_n K dX4_lowestAt_14 rfl 2 rfl ?_
        refine s_ck (fun ho_2 => ?_)
        refine s_aldb K 2 3 rfl rfl (ok_in ho_2) rfl dX4_lowestAt_15 ?_
        refine s_get K (3 + (Int32.toNatClampNeg x2)) (gL_3 (vp_lt (ok_in ho_2))) rfl inT1 2 (Nat.le_of_ble_eq_true rfl) t_46 rfl rfl dX4_lowestAt_16 ?_
        refine s_iload_n K dX4_lowestAt_19 rfl 1 rfl ?_
        refine s_icmp_ne (tgt := 38) K dX4_lowestAt_20 (by decide) (fun c_3 => ?_) (fun c_3 => ?_)
        · refine s_aload_n K dX4_lowestAt_23 rfl 0 rfl ?_
          refine s_get K 0 rfl rfl inT4 1 (Nat.le_of_ble_eq_true rfl) t_69 rfl rfl dX4_lowestAt_24 ?_
          refine s_iload_n K dX4_lowestAt_27 rfl 2 rfl ?_
          refine s_aldb K 2 3 rfl rfl (ok_in ho_2) rfl dX4_lowestAt_28 ?_
          refine s_get K (3 + (Int32.toNatClampNeg x2)) (gL_3 (vp_lt (ok_in ho_2))) rfl inT1 3 (Nat.le_of_ble_eq_true rfl) t_49 rfl rfl dX4_lowestAt_29 ?_
          refine s_iconst K dX4_lowestAt_32 kic_m1 ?_
          refine s_icmp_ne (tgt := 38) K dX4_lowestAt_33 (by decide) (fun c_4 => ?_) (fun c_4 => ?_)
          · refine s_iload_n K dX4_lowestAt_36 rfl 2 rfl ?_
            exact s_iret K hret hlk rfl rfl dX4_lowestAt_37
          · refine s_iinc (lv' := [(2, .int (x2 + 1)), (0, .ref uh), (1, .int a1)]) K dX4_lowestAt_38 2 rfl (kii_1 _) (Nat.le_of_ble_eq_true rfl) rfl ?_
            refine s_goto (tgt := 2) K dX4_lowestAt_41 (by decide) ?_
            refine s_lv (lv' := [(0, .ref uh), (1, .int a1), (2, .int (x2 + 1))]) [1, 2, 0] rfl ?_
            exact ih (x2 + 1)
        · refine s_iinc (lv' := [(2, .int (x2 + 1)), (0, .ref uh), (1, .int a1)]) K dX4_lowestAt_38 2 rfl (kii_1 _) (Nat.le_of_ble_eq_true rfl) rfl ?_
          refine s_goto (tgt := 2) K dX4_lowestAt_41 (by decide) ?_
          refine s_lv (lv' := [(0, .ref uh), (1, .int a1), (2, .int (x2 + 1))]) [1, 2, 0] rfl ?_
          exact ih (x2 + 1)
  rewrite [f_X4_lowestAt]
  refine s_iconst K dX4_lowestAt_0 kic_0 ?_
  refine s_istore_n (lv' := [(2, .int 0), (0, .ref uh), (1, .int a1)]) K dX4_lowestAt_1 rfl (Nat.le_of_ble_eq_true rfl) rfl ?_
  refine s_lv (lv' := [(0, .ref uh), (1, .int a1), (2, .int 0)]) [1, 2, 0] rfl ?_
  exact L2 70 0
set_option maxHeartbeats 4000000 in
set_option maxRecDepth 100000 in
theorem c_X4_heightAt {l : Launch} {D : va_G} {cI cC cB cQ : ClassId} {kc : Nat → Nat} {kt : Nat} (uh ud ub : Nat) (ua : Nat → Nat) (cnt wet stg dys : Int32) (dep : Nat → Int32) (knd : Nat → Nat) (siz plc onn axs : Nat → Int32) (a1 : Int32) {r : Int32} (hF : f_X4_heightAt cnt siz plc a1 = some r) : CT l D (tysOf cI cC cB cQ) kc kt yX4_heightAt cX4_heightAt 4 (some .int) ({ frames := 2, cells := 0, slots := 0, locals := 102 } : Room) [.ref uh, .int a1] (wL cI cC cB cQ kc uh ud ub ua cnt wet stg dys dep knd siz plc onn axs) ((fun (r : Int32) => (wL cI cC cB cQ kc uh ud ub ua cnt wet stg dys dep knd siz plc onn axs)) r) ((fun (r : Int32) => some (.int r)) r) := by
  refine CT.of (ww := (fun (r : Int32) => (wL cI cC cB cQ kc uh ud ub ua cnt wet stg dys dep knd siz plc onn axs))) (oo := (fun (r : Int32) => some (.int r))) hF RX4 rfl rfl (Nat.le_of_ble_eq_true rfl) ?_
  intro p e s m args below meth c A K hret hlk
  have L4 : ∀ (fu : Nat) (x2 x3 : Int32), Sw (ρ := Int32) p l e ({ frames := 2, cells := 0, slots := 0, locals := 102 } : Room) s m args below meth c 0 0 D A 4 (fun r => MQ below (CQ D ((fun (r : Int32) => (wL cI cC cB cQ kc uh ud ub ua cnt wet stg dys dep knd siz plc onn axs)) r) ((fun (r : Int32) => some (.int r)) r) A) args s 0 0 A) (f_X4_heightAt_h4 cnt siz plc a1 fu x2 x3) (wL cI cC cB cQ kc uh ud ub ua cnt wet stg dys dep knd siz plc onn axs) [(0, .ref uh), (1, .int a1), (2, .int x2), (3, .int x3)] 4 [] := by
    intro  fu
    induction fu with
    | zero =>
      intro x2 x3
      rewrite [f_X4_heightAt_h4]
      exact s_none
    | succ fu ih =>
      intro x2 x3
      rewrite [f_X4_heightAt_h4]
      refine s_iload_n K dX4_heightAt_4 rfl 3 rfl ?_
      refine s_aload_n K dX4_heightAt_5 rfl 0 rfl ?_
      refine s_get K 0 rfl rfl inT4 2 (Nat.le_of_ble_eq_true rfl) t_71 rfl rfl dX4_heightAt_6 ?_
      refine s_icmp_ge (tgt := 46) K dX4_heightAt_9 (by decide) (fun c_1 => ?_) (fun c_1 => ?_)
      · refine s_iload_n K dX4_heightAt_46 rfl 2 rfl ?_
        exact s_iret K hret hlk rfl rfl dX4_heightAt_47
      · refine s_aload_n K dX4_heightAt_12 rfl 0 rfl ?_
        refine s_get K 0 rfl rfl inT4 1 (Nat.le_of_ble_eq_true rfl) t_69 rfl rfl dX4_heightAt_13 ?_
        refine s_iload_n K dX4_heightAt_16 rfl 3 rfl ?_
        refine s_ck (fun ho_2 => ?_)
        refine s_aldb K 2 3 rfl rfl (ok_in ho_2) rfl dX4_heightAt_17 ?_
        refine s_get K (3 + (Int32.toNatClampNeg x3)) (gL_3 (vp_lt (ok_in ho_2))) rfl inT1 2 (Nat.le_of_ble_eq_true rfl) t_46 rfl rfl dX4_heightAt_18 ?_
        refine s_iload_n K dX4_heightAt_21 rfl 1 rfl ?_
        refine s_icmp_ne (tgt := 40) K dX4_heightAt_22 (by decide) (fun c_3 => ?_) (fun c_3 => ?_)
        · refine s_iload_n K dX4_heightAt_25 rfl 2 rfl ?_
          refine s_aload_n K dX4_heightAt_26 rfl 0 rfl ?_
          refine s_get K 0 rfl rfl inT4 1 (Nat.le_of_ble_eq_true rfl) t_69 rfl rfl dX4_heightAt_27 ?_
          refine s_iload_n K dX4_heightAt_30 rfl 3 rfl ?_
          refine s_aldb K 2 3 rfl rfl (ok_in ho_2) rfl dX4_heightAt_31 ?_
          refine s_get K (3 + (Int32.toNatClampNeg x3)) (gL_3 (vp_lt (ok_in ho_2))) rfl inT1 1 (Nat.le_of_ble_eq_true rfl) t_42 rfl rfl dX4_heightAt_32 ?_
          refine s_bind (fun q hq_5 => ?_)
          obtain ⟨r_4, rfl⟩ : ∃ z, z = q := ⟨_, rfl⟩
          refine s_callSN0 (rest := [.int x2]) (st1 := [.int r_4, .int x2]) K (c_X7_rootOf (siz (Int32.toNatClampNeg x3)) hq_5) hd_X7_rootOf nl_6 t_235 t_1 t_236 ⟨(Nat.le_of_ble_eq_true rfl), (Nat.le_of_ble_eq_true rfl)⟩ ⟨rfl, rfl⟩ ⟨Nat.zero_le _, Nat.zero_le _⟩ rfl rfl (Nat.le_of_ble_eq_true rfl) dX4_heightAt_35 ?_
          refine s_iadd K dX4_heightAt_38 ?_
          refine s_istore_n (lv' := [(2, .int (x2 + r_4)), (0, .ref uh), (1, .int a1), (3, .int x3)]) K dX4_heightAt_39 rfl (Nat.le_of_ble_eq_true rfl) rfl ?_
          refine s_iinc (lv' := [(3, .int (x3 + 1)), (2, .int (x2 + r_4)), (0, .ref uh), (1, .int a1)]) K dX4_heightAt_40 3 rfl (kii_1 _) (Nat.le_of_ble_eq_true rfl) rfl ?_
          refine s_goto (tgt := 4) K dX4_heightAt_43 (by decide) ?_
          refine s_lv (lv' := [(0, .ref uh), (1, .int a1), (2, .int (x2 + r_4)), (3, .int (x3 + 1))]) [2, 3, 1, 0] rfl ?_
          exact ih (x2 + r_4) (x3 + 1)
        · refine s_iinc (lv' := [(3, .int (x3 + 1)), (0, .ref uh), (1, .int a1), (2, .int x2)]) K dX4_heightAt_40 3 rfl (kii_1 _) (Nat.le_of_ble_eq_true rfl) rfl ?_
          refine s_goto (tgt := 4) K dX4_heightAt_43 (by decide) ?_
          refine s_lv (lv' := [(0, .ref uh), (1, .int a1), (2, .int x2), (3, .int (x3 + 1))]) [1, 2, 3, 0] rfl ?_
          exact ih x2 (x3 + 1)
  rewrite [f_X4_heightAt]
  refine s_iconst K dX4_heightAt_0 kic_0 ?_
  refine s_istore_n (lv' := [(2, .int 0), (0, .ref uh), (1, .int a1)]) K dX4_heightAt_1 rfl (Nat.le_of_ble_eq_true rfl) rfl ?_
  refine s_iconst K dX4_heightAt_2 kic_0 ?_
  refine s_istore_n (lv' := [(3, .int 0), (2, .int 0), (0, .ref uh), (1, .int a1)]) K dX4_heightAt_3 rfl (Nat.le_of_ble_eq_true rfl) rfl ?_
  refine s_lv (lv' := [(0, .ref uh), (1, .int a1), (2, .int 0), (3, .int 0)]) [2, 3, 1, 0] rfl ?_
  exact L4 70 0 0
set_option maxHeartbeats 4000000 in
set_option maxRecDepth 100000 in
theorem c_X4_manyAt {l : Launch} {D : va_G} {cI cC cB cQ : ClassId} {kc : Nat → Nat} {kt : Nat} (uh ud ub : Nat) (ua : Nat → Nat) (cnt wet stg dys : Int32) (dep : Nat → Int32) (knd : Nat → Nat) (siz plc onn axs : Nat → Int32) (a1 : Int32) {r : Int32} (hF : f_X4_manyAt cnt plc a1 = some r) : CT l D (tysOf cI cC cB cQ) kc kt yX4_manyAt cX4_manyAt 4 (some .int) ({ frames := 1, cells := 0, slots := 0, locals := 40 } : Room) [.ref uh, .int a1] (wL cI cC cB cQ kc uh ud ub ua cnt wet stg dys dep knd siz plc onn axs) ((fun (r : Int32) => (wL cI cC cB cQ kc uh ud ub ua cnt wet stg dys dep knd siz plc onn axs)) r) ((fun (r : Int32) => some (.int r)) r) := by
  refine CT.of (ww := (fun (r : Int32) => (wL cI cC cB cQ kc uh ud ub ua cnt wet stg dys dep knd siz plc onn axs))) (oo := (fun (r : Int32) => some (.int r))) hF RX4 rfl rfl (Nat.le_of_ble_eq_true rfl) ?_
  intro p e s m args below meth c A K hret hlk
  have L4 : ∀ (fu : Nat) (x2 x3 : Int32), Sw (ρ := Int32) p l e ({ frames := 1, cells := 0, slots := 0, locals := 40 } : Room) s m args below meth c 0 0 D A 4 (fun r => MQ below (CQ D ((fun (r : Int32) => (wL cI cC cB cQ kc uh ud ub ua cnt wet stg dys dep knd siz plc onn axs)) r) ((fun (r : Int32) => some (.int r)) r) A) args s 0 0 A) (f_X4_manyAt_h4 cnt plc a1 fu x2 x3) (wL cI cC cB cQ kc uh ud ub ua cnt wet stg dys dep knd siz plc onn axs) [(0, .ref uh), (1, .int a1), (2, .int x2), (3, .int x3)] 4 [] := by
    intro  fu
    induction fu with
    | zero =>
      intro x2 x3
      rewrite [f_X4_manyAt_h4]
      exact s_none
    | succ fu ih =>
      intro x2 x3
      rewrite [f_X4_manyAt_h4]
      refine s_iload_n K dX4_manyAt_4 rfl 3 rfl ?_
      refine s_aload_n K dX4_manyAt_5 rfl 0 rfl ?_
      refine s_get K 0 rfl rfl inT4 2 (Nat.le_of_ble_eq_true rfl) t_71 rfl rfl dX4_manyAt_6 ?_
      refine s_icmp_ge (tgt := 39) K dX4_manyAt_9 (by decide) (fun c_1 => ?_) (fun c_1 => ?_)
      · refine s_iload_n K dX4_manyAt_39 rfl 2 rfl ?_
        exact s_iret K hret hlk rfl rfl dX4_manyAt_40
      · refine s_iload_n K dX4_manyAt_12 rfl 2 rfl ?_
        refine s_aload_n K dX4_manyAt_13 rfl 0 rfl ?_
        refine s_get K 0 rfl rfl inT4 1 (Nat.le_of_ble_eq_true rfl) t_69 rfl rfl dX4_manyAt_14 ?_
        refine s_iload_n K dX4_manyAt_17 rfl 3 rfl ?_
        refine s_ck (fun ho_2 => ?_)
        refine s_aldb K 2 3 rfl rfl (ok_in ho_2) rfl dX4_manyAt_18 ?_
        refine s_get K (3 + (Int32.toNatClampNeg x3)) (gL_3 (vp_lt (ok_in ho_2))) rfl inT1 2 (Nat.le_of_ble_eq_true rfl) t_46 rfl rfl dX4_manyAt_19 ?_
        refine s_iload_n K dX4_manyAt_22 rfl 1 rfl ?_
        refine s_icmp_ne (tgt := 30) K dX4_manyAt_23 (by decide) (fun c_3 => ?_) (fun c_3 => ?_)
        · refine s_iconst K dX4_manyAt_26 kic_1 ?_
          refine s_goto (tgt := 31) K dX4_manyAt_27 (by decide) ?_
          refine s_iadd K dX4_manyAt_31 ?_
          refine s_istore_n (lv' := [(2, .int (x2 + 1)), (0, .ref uh), (1, .int a1), (3, .int x3)]) K dX4_manyAt_32 rfl (Nat.le_of_ble_eq_true rfl) rfl ?_
          refine s_iinc (lv' := [(3, .int (x3 + 1)), (2, .int (x2 + 1)), (0, .ref uh), (1, .int a1)]) K dX4_manyAt_33 3 rfl (kii_1 _) (Nat.le_of_ble_eq_true rfl) rfl ?_
          refine s_goto (tgt := 4) K dX4_manyAt_36 (by decide) ?_
          refine s_lv (lv' := [(0, .ref uh), (1, .int a1), (2, .int (x2 + 1)), (3, .int (x3 + 1))]) [2, 3, 1, 0] rfl ?_
          exact ih (x2 + 1) (x3 + 1)
        · refine s_iconst K dX4_manyAt_30 kic_0 ?_
          refine s_iadd K dX4_manyAt_31 ?_
          refine s_istore_n (lv' := [(2, .int (x2 + 0)), (0, .ref uh), (1, .int a1), (3, .int x3)]) K dX4_manyAt_32 rfl (Nat.le_of_ble_eq_true rfl) rfl ?_
          refine s_iinc (lv' := [(3, .int (x3 + 1)), (2, .int (x2 + 0)), (0, .ref uh), (1, .int a1)]) K dX4_manyAt_33 3 rfl (kii_1 _) (Nat.le_of_ble_eq_true rfl) rfl ?_
          refine s_goto (tgt := 4) K dX4_manyAt_36 (by decide) ?_
          refine s_lv (lv' := [(0, .ref uh), (1, .int a1), (2, .int (x2 + 0)), (3, .int (x3 + 1))]) [2, 3, 1, 0] rfl ?_
          exact ih (x2 + 0) (x3 + 1)
  rewrite [f_X4_manyAt]
  refine s_iconst K dX4_manyAt_0 kic_0 ?_
  refine s_istore_n (lv' := [(2, .int 0), (0, .ref uh), (1, .int a1)]) K dX4_manyAt_1 rfl (Nat.le_of_ble_eq_true rfl) rfl ?_
  refine s_iconst K dX4_manyAt_2 kic_0 ?_
  refine s_istore_n (lv' := [(3, .int 0), (2, .int 0), (0, .ref uh), (1, .int a1)]) K dX4_manyAt_3 rfl (Nat.le_of_ble_eq_true rfl) rfl ?_
  refine s_lv (lv' := [(0, .ref uh), (1, .int a1), (2, .int 0), (3, .int 0)]) [2, 3, 1, 0] rfl ?_
  exact L4 70 0 0
set_option maxHeartbeats 4000000 in
set_option maxRecDepth 100000 in
theorem c_X4_isFree {l : Launch} {D : va_G} {cI cC cB cQ : ClassId} {kc : Nat → Nat} {kt : Nat} (uh ud ub : Nat) (ua : Nat → Nat) (cnt wet stg dys : Int32) (dep : Nat → Int32) (knd : Nat → Nat) (siz plc onn axs : Nat → Int32) (a1 : Int32) {r : Int32} (hF : f_X4_isFree cnt plc a1 = some r) : CT l D (tysOf cI cC cB cQ) kc kt yX4_isFree cX4_isFree 2 (some .boolean) ({ frames := 2, cells := 0, slots := 0, locals := 103 } : Room) [.ref uh, .int a1] (wL cI cC cB cQ kc uh ud ub ua cnt wet stg dys dep knd siz plc onn axs) ((fun (r : Int32) => (wL cI cC cB cQ kc uh ud ub ua cnt wet stg dys dep knd siz plc onn axs)) r) ((fun (r : Int32) => some (.int r)) r) := by
  refine CT.of (ww := (fun (r : Int32) => (wL cI cC cB cQ kc uh ud ub ua cnt wet stg dys dep knd siz plc onn axs))) (oo := (fun (r : Int32) => some (.int r))) hF RX4 rfl rfl (Nat.le_of_ble_eq_true rfl) ?_
  intro p e s m args below meth c A K hret hlk
  rewrite [f_X4_isFree]
  refine s_aload_n K dX4_isFree_0 rfl 0 rfl ?_
  refine s_iload_n K dX4_isFree_1 rfl 1 rfl ?_
  refine s_bind (fun q hq_2 => ?_)
  obtain ⟨r_1, rfl⟩ : ∃ z, z = q := ⟨_, rfl⟩
  refine s_callV (w' := (wL cI cC cB cQ kc uh ud ub ua cnt wet stg dys dep knd siz plc onn axs)) (rest := []) (st1 := [.int r_1]) K (c_X4_manyAt uh ud ub ua cnt wet stg dys dep knd siz plc onn axs a1 hq_2) rfl hd_X4_manyAt t_254 t_255 t_256 t_2 t_257 ⟨(Nat.le_of_ble_eq_true rfl), (Nat.le_of_ble_eq_true rfl)⟩ ⟨rfl, rfl⟩ ⟨Nat.zero_le _, Nat.zero_le _⟩ (rv_o K 0 rfl rfl) [0, 1, 2, 3, 4, 5, 6, 7] [] [0, 1, 2, 3, 4, 5, 6, 7] rfl rfl rfl rfl (by decide) rfl rfl rfl rfl (Nat.le_of_ble_eq_true rfl) dX4_isFree_2 ?_
  refine s_if_ne (tgt := 12) K dX4_isFree_5 (by decide) (fun c_3 => ?_) (fun c_3 => ?_)
  · refine s_iconst K dX4_isFree_8 kic_1 ?_
    refine s_goto (tgt := 13) K dX4_isFree_9 (by decide) ?_
    exact s_zret K hret hlk rfl rfl rfl dX4_isFree_13
  · refine s_iconst K dX4_isFree_12 kic_0 ?_
    exact s_zret K hret hlk rfl rfl rfl dX4_isFree_13
set_option maxHeartbeats 4000000 in
set_option maxRecDepth 100000 in
theorem c_X4_isTopped {l : Launch} {D : va_G} {cI cC cB cQ : ClassId} {kc : Nat → Nat} {kt : Nat} (uh ud ub : Nat) (ua : Nat → Nat) (cnt wet stg dys : Int32) (dep : Nat → Int32) (knd : Nat → Nat) (siz plc onn axs : Nat → Int32) (a1 : Int32) {r : Int32} (hF : f_X4_isTopped cnt onn a1 = some r) : CT l D (tysOf cI cC cB cQ) kc kt yX4_isTopped cX4_isTopped 3 (some .boolean) ({ frames := 1, cells := 0, slots := 0, locals := 40 } : Room) [.ref uh, .int a1] (wL cI cC cB cQ kc uh ud ub ua cnt wet stg dys dep knd siz plc onn axs) ((fun (r : Int32) => (wL cI cC cB cQ kc uh ud ub ua cnt wet stg dys dep knd siz plc onn axs)) r) ((fun (r : Int32) => some (.int r)) r) := by
  refine CT.of (ww := (fun (r : Int32) => (wL cI cC cB cQ kc uh ud ub ua cnt wet stg dys dep knd siz plc onn axs))) (oo := (fun (r : Int32) => some (.int r))) hF RX4 rfl rfl (Nat.le_of_ble_eq_true rfl) ?_
  intro p e s m args below meth c A K hret hlk
  have L2 : ∀ (fu : Nat) (x2 : Int32), Sw (ρ := Int32) p l e ({ frames := 1, cells := 0, slots := 0, locals := 40 } : Room) s m args below meth c 0 0 D A 3 (fun r => MQ below (CQ D ((fun (r : Int32) => (wL cI cC cB cQ kc uh ud ub ua cnt wet stg dys dep knd siz plc onn axs)) r) ((fun (r : Int32) => some (.int r)) r) A) args s 0 0 A) (f_X4_isTopped_h2 cnt onn a1 fu x2) (wL cI cC cB cQ kc uh ud ub ua cnt wet stg dys dep knd siz plc onn axs) [(0, .ref uh), (1, .int a1), (2, .int x2)] 2 [] := by
    intro  fu
    induction fu with
    | zero =>
      intro x2
      rewrite [f_X4_isTopped_h2]
      exact s_none
    | succ fu ih =>
      intro x2
      rewrite [f_X4_isTopped_h2]
      refine s_iload_n K dX4_isTopped_2 rfl 2 rfl ?_
      refine s_aload_n K dX4_isTopped_3 rfl 0 rfl ?_
      refine s_get K 0 rfl rfl inT4 2 (Nat.le_of_ble_eq_true rfl) t_71 rfl rfl dX4_isTopped_4 ?_
      refine s_icmp_ge (tgt := 31) K dX4_isTopped_7 (by decide) (fun c_1 => ?_) (fun c_1 => ?_)
      · refine s_iconst K dX4_isTopped_31 kic_0 ?_
        exact s_zret K hret hlk rfl rfl rfl dX4_isTopped_32
      · refine s_aload_n K dX4_isTopped_10 rfl 0 rfl ?_
        refine s_get K 0 rfl rfl inT4 1 (Nat.le_of_ble_eq_true rfl) t_69 rfl rfl dX4_isTopped_11 ?_
        refine s_iload_n K dX4_isTopped_14 rfl 2 rfl ?_
        refine s_ck (fun ho_2 => ?_)
        refine s_aldb K 2 3 rfl rfl (ok_in ho_2) rfl dX4_isTopped_15 ?_
        refine s_get K (3 + (Int32.toNatClampNeg x2)) (gL_3 (vp_lt (ok_in ho_2))) rfl inT1 3 (Nat.le_of_ble_eq_true rfl) t_49 rfl rfl dX4_isTopped_16 ?_
        refine s_iload_n K dX4_isTopped_19 rfl 1 rfl ?_
        refine s_icmp_ne (tgt := 25) K dX4_isTopped_20 (by decide) (fun c_3 => ?_) (fun c_3 => ?_)
        · refine s_iconst K dX4_isTopped_23 kic_1 ?_
          exact s_zret K hret hlk rfl rfl rfl dX4_isTopped_24
        · refine s_iinc (lv' := [(2, .int (x2 + 1)), (0, .ref uh), (1, .int a1)]) K dX4_isTopped_25 2 rfl (kii_1 _) (Nat.le_of_ble_eq_true rfl) rfl ?_
          refine s_goto (tgt := 2) K dX4_isTopped_28 (by decide) ?_
          refine s_lv (lv' := [(0, .ref uh), (1, .int a1), (2, .int (x2 + 1))]) [1, 2, 0] rfl ?_
          exact ih (x2 + 1)
  rewrite [f_X4_isTopped]
  refine s_iconst K dX4_isTopped_0 kic_0 ?_
  refine s_istore_n (lv' := [(2, .int 0), (0, .ref uh), (1, .int a1)]) K dX4_isTopped_1 rfl (Nat.le_of_ble_eq_true rfl) rfl ?_
  refine s_lv (lv' := [(0, .ref uh), (1, .int a1), (2, .int 0)]) [1, 2, 0] rfl ?_
  exact L2 70 0
set_option maxHeartbeats 4000000 in
set_option maxRecDepth 100000 in
theorem c_X4_standsAlone {l : Launch} {D : va_G} {cI cC cB cQ : ClassId} {kc : Nat → Nat} {kt : Nat} (uh ud ub : Nat) (ua : Nat → Nat) (cnt wet stg dys : Int32) (dep : Nat → Int32) (knd : Nat → Nat) (siz plc onn axs : Nat → Int32) (a1 : Int32) {r : Int32} (hF : f_X4_standsAlone cnt siz onn a1 = some r) : CT l D (tysOf cI cC cB cQ) kc kt yX4_standsAlone cX4_standsAlone 3 (some .boolean) ({ frames := 2, cells := 0, slots := 0, locals := 102 } : Room) [.ref uh, .int a1] (wL cI cC cB cQ kc uh ud ub ua cnt wet stg dys dep knd siz plc onn axs) ((fun (r : Int32) => (wL cI cC cB cQ kc uh ud ub ua cnt wet stg dys dep knd siz plc onn axs)) r) ((fun (r : Int32) => some (.int r)) r) := by
  refine CT.of (ww := (fun (r : Int32) => (wL cI cC cB cQ kc uh ud ub ua cnt wet stg dys dep knd siz plc onn axs))) (oo := (fun (r : Int32) => some (.int r))) hF RX4 rfl rfl (Nat.le_of_ble_eq_true rfl) ?_
  intro p e s m args below meth c A K hret hlk
  rewrite [f_X4_standsAlone]
  refine s_aload_n K dX4_standsAlone_0 rfl 0 rfl ?_
  refine s_get K 0 rfl rfl inT4 1 (Nat.le_of_ble_eq_true rfl) t_69 rfl rfl dX4_standsAlone_1 ?_
  refine s_iload_n K dX4_standsAlone_4 rfl 1 rfl ?_
  refine s_ck (fun ho_1 => ?_)
  refine s_aldb K 2 3 rfl rfl (ok_in ho_1) rfl dX4_standsAlone_5 ?_
  refine s_astore_n (lv' := [(2, .ref (ua (Int32.toNatClampNeg a1))), (0, .ref uh), (1, .int a1)]) K dX4_standsAlone_6 rfl (Nat.le_of_ble_eq_true rfl) rfl ?_
  refine s_aload_n K dX4_standsAlone_7 rfl 0 rfl ?_
  refine s_bind (fun q hq_3 => ?_)
  obtain ⟨r_2, rfl⟩ : ∃ z, z = q := ⟨_, rfl⟩
  refine s_callV (w' := (wL cI cC cB cQ kc uh ud ub ua cnt wet stg dys dep knd siz plc onn axs)) (rest := []) (st1 := [.int r_2]) K (c_X1_isGone ua knd siz plc onn axs (Int32.toNatClampNeg a1) (vp_lt (ok_in ho_1)) hq_3) rfl hd_X1_isGone t_310 t_311 t_312 t_3 t_313 ⟨(Nat.le_of_ble_eq_true rfl), (Nat.le_of_ble_eq_true rfl)⟩ ⟨rfl, rfl⟩ ⟨Nat.zero_le _, Nat.zero_le _⟩ (rv_o K (3 + (Int32.toNatClampNeg a1)) (gL_3 (vp_lt (ok_in ho_1))) rfl) [3, 4, 5, 6, 7] [0, 1, 2] [0, 1, 2, 3, 4, 5, 6, 7] rfl rfl rfl rfl (by decide) rfl rfl rfl rfl (Nat.le_of_ble_eq_true rfl) dX4_standsAlone_8 ?_
  refine s_if_ne (tgt := 34) K dX4_standsAlone_11 (by decide) (fun c_4 => ?_) (fun c_4 => ?_)
  · refine s_aload_n K dX4_standsAlone_14 rfl 0 rfl ?_
    refine s_get K (3 + (Int32.toNatClampNeg a1)) (gL_3 (vp_lt (ok_in ho_1))) rfl inT1 3 (Nat.le_of_ble_eq_true rfl) t_49 rfl rfl dX4_standsAlone_15 ?_
    refine s_iconst K dX4_standsAlone_18 kic_m1 ?_
    refine s_icmp_ne (tgt := 34) K dX4_standsAlone_19 (by decide) (fun c_5 => ?_) (fun c_5 => ?_)
    · refine s_aload_n K dX4_standsAlone_22 rfl 1 rfl ?_
      refine s_iload_n K dX4_standsAlone_23 rfl 2 rfl ?_
      refine s_bind (fun q hq_7 => ?_)
      obtain ⟨r_6, rfl⟩ : ∃ z, z = q := ⟨_, rfl⟩
      refine s_callV (w' := (wL cI cC cB cQ kc uh ud ub ua cnt wet stg dys dep knd siz plc onn axs)) (rest := []) (st1 := [.int r_6]) K (c_X4_isTopped uh ud ub ua cnt wet stg dys dep knd siz plc onn axs a1 hq_7) rfl hd_X4_isTopped t_314 t_315 t_316 t_2 t_317 ⟨(Nat.le_of_ble_eq_true rfl), (Nat.le_of_ble_eq_true rfl)⟩ ⟨rfl, rfl⟩ ⟨Nat.zero_le _, Nat.zero_le _⟩ (rv_o K 0 rfl rfl) [0, 1, 2, 3, 4, 5, 6, 7] [] [0, 1, 2, 3, 4, 5, 6, 7] rfl rfl rfl rfl (by decide) rfl rfl rfl rfl (Nat.le_of_ble_eq_true rfl) dX4_standsAlone_24 ?_
      refine s_if_ne (tgt := 34) K dX4_standsAlone_27 (by decide) (fun c_8 => ?_) (fun c_8 => ?_)
      · refine s_iconst K dX4_standsAlone_30 kic_1 ?_
        refine s_goto (tgt := 35) K dX4_standsAlone_31 (by decide) ?_
        exact s_zret K hret hlk rfl rfl rfl dX4_standsAlone_35
      · refine s_iconst K dX4_standsAlone_34 kic_0 ?_
        exact s_zret K hret hlk rfl rfl rfl dX4_standsAlone_35
    · refine s_iconst K dX4_standsAlone_34 kic_0 ?_
      exact s_zret K hret hlk rfl rfl rfl dX4_standsAlone_35
  · refine s_iconst K dX4_standsAlone_34 kic_0 ?_
    exact s_zret K hret hlk rfl rfl rfl dX4_standsAlone_35
set_option maxHeartbeats 4000000 in
set_option maxRecDepth 100000 in
theorem c_X4_canRoll {l : Launch} {D : va_G} {cI cC cB cQ : ClassId} {kc : Nat → Nat} {kt : Nat} (uh ud ub : Nat) (ua : Nat → Nat) (cnt wet stg dys : Int32) (dep : Nat → Int32) (knd : Nat → Nat) (siz plc onn axs : Nat → Int32) (a1 a2 : Int32) {r : Int32} (hF : f_X4_canRoll cnt stg knd siz plc onn axs a1 a2 = some r) : CT l D (tysOf cI cC cB cQ) kc kt yX4_canRoll cX4_canRoll 5 (some .boolean) ({ frames := 4, cells := 0, slots := 0, locals := 224 } : Room) [.ref uh, .int a1, .int a2] (wL cI cC cB cQ kc uh ud ub ua cnt wet stg dys dep knd siz plc onn axs) ((fun (r : Int32) => (wL cI cC cB cQ kc uh ud ub ua cnt wet stg dys dep knd siz plc onn axs)) r) ((fun (r : Int32) => some (.int r)) r) := by
  refine CT.of (ww := (fun (r : Int32) => (wL cI cC cB cQ kc uh ud ub ua cnt wet stg dys dep knd siz plc onn axs))) (oo := (fun (r : Int32) => some (.int r))) hF RX4 rfl rfl (Nat.le_of_ble_eq_true rfl) ?_
  intro p e s m args below meth c A K hret hlk
  rewrite [f_X4_canRoll]
  refine s_aload_n K dX4_canRoll_0 rfl 0 rfl ?_
  refine s_get K 0 rfl rfl inT4 1 (Nat.le_of_ble_eq_true rfl) t_69 rfl rfl dX4_canRoll_1 ?_
  refine s_iload_n K dX4_canRoll_4 rfl 1 rfl ?_
  refine s_ck (fun ho_1 => ?_)
  refine s_aldb K 2 3 rfl rfl (ok_in ho_1) rfl dX4_canRoll_5 ?_
  refine s_astore_n (lv' := [(3, .ref (ua (Int32.toNatClampNeg a1))), (0, .ref uh), (1, .int a1), (2, .int a2)]) K dX4_canRoll_6 rfl (Nat.le_of_ble_eq_true rfl) rfl ?_
  refine s_aload_n K dX4_canRoll_7 rfl 1 rfl ?_
  refine s_iload_n K dX4_canRoll_8 rfl 2 rfl ?_
  refine s_bind (fun q hq_3 => ?_)
  obtain ⟨r_2, rfl⟩ : ∃ z, z = q := ⟨_, rfl⟩
  refine s_callV (w' := (wL cI cC cB cQ kc uh ud ub ua cnt wet stg dys dep knd siz plc onn axs)) (rest := []) (st1 := [.int r_2]) K (c_X4_standsAlone uh ud ub ua cnt wet stg dys dep knd siz plc onn axs a1 hq_3) rfl hd_X4_standsAlone t_306 t_307 t_308 t_2 t_309 ⟨(Nat.le_of_ble_eq_true rfl), (Nat.le_of_ble_eq_true rfl)⟩ ⟨rfl, rfl⟩ ⟨Nat.zero_le _, Nat.zero_le _⟩ (rv_o K 0 rfl rfl) [0, 1, 2, 3, 4, 5, 6, 7] [] [0, 1, 2, 3, 4, 5, 6, 7] rfl rfl rfl rfl (by decide) rfl rfl rfl rfl (Nat.le_of_ble_eq_true rfl) dX4_canRoll_9 ?_
  refine s_if_eq (tgt := 34) K dX4_canRoll_12 (by decide) (fun c_4 => ?_) (fun c_4 => ?_)
  · refine s_iconst K dX4_canRoll_34 kic_0 ?_
    exact s_zret K hret hlk rfl rfl rfl dX4_canRoll_35
  · refine s_aload_n K dX4_canRoll_15 rfl 0 rfl ?_
    refine s_bind (fun q hq_6 => ?_)
    obtain ⟨r_5, rfl⟩ : ∃ z, z = q := ⟨_, rfl⟩
    refine s_callV (w' := (wL cI cC cB cQ kc uh ud ub ua cnt wet stg dys dep knd siz plc onn axs)) (rest := []) (st1 := [.int r_5]) K (c_X1_weight ua knd siz plc onn axs (Int32.toNatClampNeg a1) (vp_lt (ok_in ho_1)) hq_6) rfl hd_X1_weight t_318 t_271 t_272 t_3 t_273 ⟨(Nat.le_of_ble_eq_true rfl), (Nat.le_of_ble_eq_true rfl)⟩ ⟨rfl, rfl⟩ ⟨Nat.zero_le _, Nat.zero_le _⟩ (rv_o K (3 + (Int32.toNatClampNeg a1)) (gL_3 (vp_lt (ok_in ho_1))) rfl) [3, 4, 5, 6, 7] [0, 1, 2] [0, 1, 2, 3, 4, 5, 6, 7] rfl rfl rfl rfl (by decide) rfl rfl rfl rfl (Nat.le_of_ble_eq_true rfl) dX4_canRoll_16 ?_
    refine s_aload_n K dX4_canRoll_19 rfl 1 rfl ?_
    refine s_get K 0 rfl rfl inT4 4 (Nat.le_of_ble_eq_true rfl) t_75 rfl rfl dX4_canRoll_20 ?_
    refine s_icmp_gt (tgt := 34) K dX4_canRoll_23 (by decide) (fun c_7 => ?_) (fun c_7 => ?_)
    · refine s_iconst K dX4_canRoll_34 kic_0 ?_
      exact s_zret K hret hlk rfl rfl rfl dX4_canRoll_35
    · refine s_aload_n K dX4_canRoll_26 rfl 0 rfl ?_
      refine s_iload_n K dX4_canRoll_27 rfl 3 rfl ?_
      refine s_bind (fun q hq_9 => ?_)
      obtain ⟨r_8, rfl⟩ : ∃ z, z = q := ⟨_, rfl⟩
      refine s_callV (w' := (wL cI cC cB cQ kc uh ud ub ua cnt wet stg dys dep knd siz plc onn axs)) (rest := []) (st1 := [.int r_8]) K (c_X1_keepsTo ua knd siz plc onn axs a2 (Int32.toNatClampNeg a1) (vp_lt (ok_in ho_1)) hq_9) rfl hd_X1_keepsTo t_319 t_320 t_321 t_3 t_322 ⟨(Nat.le_of_ble_eq_true rfl), (Nat.le_of_ble_eq_true rfl)⟩ ⟨rfl, rfl⟩ ⟨Nat.zero_le _, Nat.zero_le _⟩ (rv_o K (3 + (Int32.toNatClampNeg a1)) (gL_3 (vp_lt (ok_in ho_1))) rfl) [3, 4, 5, 6, 7] [0, 1, 2] [0, 1, 2, 3, 4, 5, 6, 7] rfl rfl rfl rfl (by decide) rfl rfl rfl rfl (Nat.le_of_ble_eq_true rfl) dX4_canRoll_28 ?_
      refine s_if_ne (tgt := 36) K dX4_canRoll_31 (by decide) (fun c_10 => ?_) (fun c_10 => ?_)
      · refine s_iconst K dX4_canRoll_34 kic_0 ?_
        exact s_zret K hret hlk rfl rfl rfl dX4_canRoll_35
      · refine s_aload_n K dX4_canRoll_36 rfl 0 rfl ?_
        refine s_get K (3 + (Int32.toNatClampNeg a1)) (gL_3 (vp_lt (ok_in ho_1))) rfl inT1 2 (Nat.le_of_ble_eq_true rfl) t_46 rfl rfl dX4_canRoll_37 ?_
        refine s_iload_n K dX4_canRoll_40 rfl 3 rfl ?_
        refine s_bind (fun q hq_12 => ?_)
        obtain ⟨r_11, rfl⟩ : ∃ z, z = q := ⟨_, rfl⟩
        refine s_callSN0 (rest := []) (st1 := [.int r_11]) K (c_X7_beside (plc (Int32.toNatClampNeg a1)) a2 hq_12) hd_X7_beside nl_8 t_327 t_1 t_328 ⟨(Nat.le_of_ble_eq_true rfl), (Nat.le_of_ble_eq_true rfl)⟩ ⟨rfl, rfl⟩ ⟨Nat.zero_le _, Nat.zero_le _⟩ rfl rfl (Nat.le_of_ble_eq_true rfl) dX4_canRoll_41 ?_
        refine s_istore (lv' := [(4, .int r_11), (3, .ref (ua (Int32.toNatClampNeg a1))), (0, .ref uh), (1, .int a1), (2, .int a2)]) K dX4_canRoll_44 (Nat.le_of_ble_eq_true rfl) rfl ?_
        refine s_iload K dX4_canRoll_46 0 rfl ?_
        refine s_iconst K dX4_canRoll_48 kic_m1 ?_
        refine s_icmp_eq (tgt := 65) K dX4_canRoll_49 (by decide) (fun c_13 => ?_) (fun c_13 => ?_)
        · refine s_iconst K dX4_canRoll_65 kic_0 ?_
          exact s_zret K hret hlk rfl rfl rfl dX4_canRoll_66
        · refine s_aload_n K dX4_canRoll_52 rfl 2 rfl ?_
          refine s_iload K dX4_canRoll_53 0 rfl ?_
          refine s_bind (fun q hq_15 => ?_)
          obtain ⟨r_14, rfl⟩ : ∃ z, z = q := ⟨_, rfl⟩
          refine s_callV (w' := (wL cI cC cB cQ kc uh ud ub ua cnt wet stg dys dep knd siz plc onn axs)) (rest := []) (st1 := [.int r_14]) K (c_X4_isFree uh ud ub ua cnt wet stg dys dep knd siz plc onn axs r_11 hq_15) rfl hd_X4_isFree t_329 t_251 t_252 t_2 t_253 ⟨(Nat.le_of_ble_eq_true rfl), (Nat.le_of_ble_eq_true rfl)⟩ ⟨rfl, rfl⟩ ⟨Nat.zero_le _, Nat.zero_le _⟩ (rv_o K 0 rfl rfl) [0, 1, 2, 3, 4, 5, 6, 7] [] [0, 1, 2, 3, 4, 5, 6, 7] rfl rfl rfl rfl (by decide) rfl rfl rfl rfl (Nat.le_of_ble_eq_true rfl) dX4_canRoll_55 ?_
          refine s_if_eq (tgt := 65) K dX4_canRoll_58 (by decide) (fun c_16 => ?_) (fun c_16 => ?_)
          · refine s_iconst K dX4_canRoll_65 kic_0 ?_
            exact s_zret K hret hlk rfl rfl rfl dX4_canRoll_66
          · refine s_iconst K dX4_canRoll_61 kic_1 ?_
            refine s_goto (tgt := 66) K dX4_canRoll_62 (by decide) ?_
            exact s_zret K hret hlk rfl rfl rfl dX4_canRoll_66
set_option maxHeartbeats 4000000 in
set_option maxRecDepth 100000 in
theorem c_X4_push {l : Launch} {D : va_G} {cI cC cB cQ : ClassId} {kc : Nat → Nat} {kt : Nat} (uh ud ub : Nat) (ua : Nat → Nat) (cnt wet stg dys : Int32) (dep : Nat → Int32) (knd : Nat → Nat) (siz plc onn axs : Nat → Int32) (a1 a2 : Int32) {r : Int32 × (Nat → Int32) × (Nat → Int32) × (Nat → Int32) × (Nat → Int32) × (Nat → Int32)} (hF : f_X4_push wet dep knd siz plc onn axs a1 a2 = some r) : CT l D (tysOf cI cC cB cQ) kc kt yX4_push cX4_push 6 (some .int) ({ frames := 4, cells := 0, slots := 0, locals := 224 } : Room) [.ref uh, .int a1, .int a2] (wL cI cC cB cQ kc uh ud ub ua cnt wet stg dys dep knd siz plc onn axs) ((fun (r : Int32 × (Nat → Int32) × (Nat → Int32) × (Nat → Int32) × (Nat → Int32) × (Nat → Int32)) => (wL cI cC cB cQ kc uh ud ub ua cnt wet stg dys (r.2.1) knd (r.2.2.1) (r.2.2.2.1) (r.2.2.2.2.1) (r.2.2.2.2.2))) r) ((fun (r : Int32 × (Nat → Int32) × (Nat → Int32) × (Nat → Int32) × (Nat → Int32) × (Nat → Int32)) => some (.int (r.1))) r) := by
  refine CT.of (ww := (fun (r : Int32 × (Nat → Int32) × (Nat → Int32) × (Nat → Int32) × (Nat → Int32) × (Nat → Int32)) => (wL cI cC cB cQ kc uh ud ub ua cnt wet stg dys (r.2.1) knd (r.2.2.1) (r.2.2.2.1) (r.2.2.2.2.1) (r.2.2.2.2.2)))) (oo := (fun (r : Int32 × (Nat → Int32) × (Nat → Int32) × (Nat → Int32) × (Nat → Int32) × (Nat → Int32)) => some (.int (r.1)))) hF RX4 rfl rfl (Nat.le_of_ble_eq_true rfl) ?_
  intro p e s m args below meth c A K hret hlk
  rewrite [f_X4_push]
  refine s_aload_n K dX4_push_0 rfl 0 rfl ?_
  refine s_get K 0 rfl rfl inT4 1 (Nat.le_of_ble_eq_true rfl) t_69 rfl rfl dX4_push_1 ?_
  refine s_iload_n K dX4_push_4 rfl 1 rfl ?_
  refine s_ck (fun ho_1 => ?_)
  refine s_aldb K 2 3 rfl rfl (ok_in ho_1) rfl dX4_push_5 ?_
  refine s_astore_n (lv' := [(3, .ref (ua (Int32.toNatClampNeg a1))), (0, .ref uh), (1, .int a1), (2, .int a2)]) K dX4_push_6 rfl (Nat.le_of_ble_eq_true rfl) rfl ?_
  refine s_aload_n K dX4_push_7 rfl 0 rfl ?_
  refine s_get K (3 + (Int32.toNatClampNeg a1)) (gL_3 (vp_lt (ok_in ho_1))) rfl inT1 2 (Nat.le_of_ble_eq_true rfl) t_46 rfl rfl dX4_push_8 ?_
  refine s_iload_n K dX4_push_11 rfl 3 rfl ?_
  refine s_bind (fun q hq_3 => ?_)
  obtain ⟨r_2, rfl⟩ : ∃ z, z = q := ⟨_, rfl⟩
  refine s_callSN0 (rest := []) (st1 := [.int r_2]) K (c_X7_beside (plc (Int32.toNatClampNeg a1)) a2 hq_3) hd_X7_beside nl_8 t_327 t_1 t_328 ⟨(Nat.le_of_ble_eq_true rfl), (Nat.le_of_ble_eq_true rfl)⟩ ⟨rfl, rfl⟩ ⟨Nat.zero_le _, Nat.zero_le _⟩ rfl rfl (Nat.le_of_ble_eq_true rfl) dX4_push_12 ?_
  refine s_istore (lv' := [(4, .int r_2), (3, .ref (ua (Int32.toNatClampNeg a1))), (0, .ref uh), (1, .int a1), (2, .int a2)]) K dX4_push_15 (Nat.le_of_ble_eq_true rfl) rfl ?_
  refine s_iload K dX4_push_17 0 rfl ?_
  refine s_iconst K dX4_push_19 kic_m1 ?_
  refine s_icmp_ne (tgt := 28) K dX4_push_20 (by decide) (fun c_4 => ?_) (fun c_4 => ?_)
  · refine s_aload_n K dX4_push_23 rfl 1 rfl ?_
    refine s_get K (3 + (Int32.toNatClampNeg a1)) (gL_3 (vp_lt (ok_in ho_1))) rfl inT1 1 (Nat.le_of_ble_eq_true rfl) t_42 rfl rfl dX4_push_24 ?_
    exact s_iret K hret hlk rfl rfl dX4_push_27
  · refine s_aload_n K dX4_push_28 rfl 1 rfl ?_
    refine s_get K (3 + (Int32.toNatClampNeg a1)) (gL_3 (vp_lt (ok_in ho_1))) rfl inT1 0 (Nat.le_of_ble_eq_true rfl) t_38 rfl rfl dX4_push_29 ?_
    refine s_aload_n K dX4_push_32 rfl 1 rfl ?_
    refine s_get K (3 + (Int32.toNatClampNeg a1)) (gL_3 (vp_lt (ok_in ho_1))) rfl inT1 1 (Nat.le_of_ble_eq_true rfl) t_42 rfl rfl dX4_push_33 ?_
    refine s_aload_n K dX4_push_36 rfl 2 rfl ?_
    refine s_get K 0 rfl rfl inT4 0 (Nat.le_of_ble_eq_true rfl) t_67 rfl rfl dX4_push_37 ?_
    refine s_iload K dX4_push_40 0 rfl ?_
    refine s_ck (fun ho_5 => ?_)
    refine s_iald K 1 0 rfl rfl (ok_in ho_5) rfl dX4_push_42 ?_
    refine s_aload_n K dX4_push_43 rfl 2 rfl ?_
    refine s_get K 0 rfl rfl inT4 3 (Nat.le_of_ble_eq_true rfl) t_73 rfl rfl dX4_push_44 ?_
    refine s_ck (fun hk_6 => ?_)
    refine s_bind (fun q hq_8 => ?_)
    obtain ⟨r_7, rfl⟩ : ∃ z, z = q := ⟨_, rfl⟩
    refine s_callV0 (rest := []) (st1 := [.int r_7]) K (c_X2_takes (siz (Int32.toNatClampNeg a1)) (dep (Int32.toNatClampNeg r_2)) wet (knd (Int32.toNatClampNeg a1)) hk_6 hq_8) rfl hd_X2_takes t_338 t_339 t_340 t_5 t_341 ⟨(Nat.le_of_ble_eq_true rfl), (Nat.le_of_ble_eq_true rfl)⟩ ⟨rfl, rfl⟩ ⟨Nat.zero_le _, Nat.zero_le _⟩ (rv_k K hk_6) rfl rfl (Nat.le_of_ble_eq_true rfl) dX4_push_47 ?_
    refine s_istore (lv' := [(5, .int r_7), (4, .int r_2), (3, .ref (ua (Int32.toNatClampNeg a1))), (0, .ref uh), (1, .int a1), (2, .int a2)]) K dX4_push_50 (Nat.le_of_ble_eq_true rfl) rfl ?_
    refine s_aload_n K dX4_push_52 rfl 3 rfl ?_
    refine s_get K 0 rfl rfl inT4 0 (Nat.le_of_ble_eq_true rfl) t_67 rfl rfl dX4_push_53 ?_
    refine s_iload K dX4_push_56 1 rfl ?_
    refine s_dup2 K dX4_push_58 rfl rfl ?_
    refine s_iald K 1 0 rfl rfl (ok_in ho_5) rfl dX4_push_59 ?_
    refine s_iload K dX4_push_60 0 rfl ?_
    refine s_isub K dX4_push_62 ?_
    refine s_iast (w' := (wL cI cC cB cQ kc uh ud ub ua cnt wet stg dys (upd dep (Int32.toNatClampNeg r_2) ((dep (Int32.toNatClampNeg r_2)) - r_7)) knd siz plc onn axs)) K 1 0 rfl rfl (ok_in ho_5) rfl rfl dX4_push_63 ?_
    refine s_aload_n K dX4_push_64 rfl 2 rfl ?_
    refine s_dup K dX4_push_65 rfl ?_
    refine s_get K (3 + (Int32.toNatClampNeg a1)) (gL_3 (vp_lt (ok_in ho_1))) rfl inT1 1 (Nat.le_of_ble_eq_true rfl) t_42 rfl rfl dX4_push_66 ?_
    refine s_iload K dX4_push_69 0 rfl ?_
    refine s_iadd K dX4_push_71 ?_
    refine s_put (w' := (wL cI cC cB cQ kc uh ud ub ua cnt wet stg dys (upd dep (Int32.toNatClampNeg r_2) ((dep (Int32.toNatClampNeg r_2)) - r_7)) knd (upd siz (Int32.toNatClampNeg a1) ((siz (Int32.toNatClampNeg a1)) + r_7)) plc onn axs)) K (3 + (Int32.toNatClampNeg a1)) (gL_3 (vp_lt (ok_in ho_1))) rfl inT1 tyX1_ok nmX1 1 (Nat.le_of_ble_eq_true rfl) t_42 rfl rfl rfl rfl (Nat.le_of_ble_eq_true rfl) (pL_3_1 (vp_lt (ok_in ho_1)) _) dX4_push_72 ?_
    refine s_aload_n K dX4_push_75 rfl 2 rfl ?_
    refine s_iload K dX4_push_76 1 rfl ?_
    refine s_put (w' := (wL cI cC cB cQ kc uh ud ub ua cnt wet stg dys (upd dep (Int32.toNatClampNeg r_2) ((dep (Int32.toNatClampNeg r_2)) - r_7)) knd (upd siz (Int32.toNatClampNeg a1) ((siz (Int32.toNatClampNeg a1)) + r_7)) (upd plc (Int32.toNatClampNeg a1) r_2) onn axs)) K (3 + (Int32.toNatClampNeg a1)) (gL_3 (vp_lt (ok_in ho_1))) rfl inT1 tyX1_ok nmX1 2 (Nat.le_of_ble_eq_true rfl) t_46 rfl rfl rfl rfl (Nat.le_of_ble_eq_true rfl) (pL_3_2 (vp_lt (ok_in ho_1)) _) dX4_push_78 ?_
    refine s_aload_n K dX4_push_81 rfl 2 rfl ?_
    refine s_get K (3 + (Int32.toNatClampNeg a1)) (gL_3 (vp_lt (ok_in ho_1))) rfl inT1 0 (Nat.le_of_ble_eq_true rfl) t_38 rfl rfl dX4_push_82 ?_
    refine s_bind (fun q hq_10 => ?_)
    obtain ⟨r_9, rfl⟩ : ∃ z, z = q := ⟨_, rfl⟩
    refine s_callV0 (rest := []) (st1 := [.int r_9]) K (c_X2_sticks (knd (Int32.toNatClampNeg a1)) hk_6 hq_10) rfl hd_X2_sticks t_346 t_347 t_348 t_5 t_349 ⟨(Nat.le_of_ble_eq_true rfl), (Nat.le_of_ble_eq_true rfl)⟩ ⟨rfl, rfl⟩ ⟨Nat.zero_le _, Nat.zero_le _⟩ (rv_k K hk_6) rfl rfl (Nat.le_of_ble_eq_true rfl) dX4_push_85 ?_
    refine s_if_eq (tgt := 99) K dX4_push_88 (by decide) (fun c_11 => ?_) (fun c_11 => ?_)
    · refine s_aload_n K dX4_push_99 rfl 2 rfl ?_
      refine s_get K (3 + (Int32.toNatClampNeg a1)) (gL_3 (vp_lt (ok_in ho_1))) rfl inT1 0 (Nat.le_of_ble_eq_true rfl) t_38 rfl rfl dX4_push_100 ?_
      refine s_aload_n K dX4_push_103 rfl 2 rfl ?_
      refine s_get K (3 + (Int32.toNatClampNeg a1)) (gL_3 (vp_lt (ok_in ho_1))) rfl inT1 1 (Nat.le_of_ble_eq_true rfl) t_42 rfl rfl dX4_push_104 ?_
      refine s_bind (fun q hq_13 => ?_)
      obtain ⟨r_12, rfl⟩ : ∃ z, z = q := ⟨_, rfl⟩
      refine s_callV0 (rest := []) (st1 := [.int r_12]) K (c_X2_crumbles ((upd siz (Int32.toNatClampNeg a1) ((siz (Int32.toNatClampNeg a1)) + r_7)) (Int32.toNatClampNeg a1)) (knd (Int32.toNatClampNeg a1)) hk_6 hq_13) rfl hd_X2_crumbles t_353 t_354 t_355 t_5 t_356 ⟨(Nat.le_of_ble_eq_true rfl), (Nat.le_of_ble_eq_true rfl)⟩ ⟨rfl, rfl⟩ ⟨Nat.zero_le _, Nat.zero_le _⟩ (rv_k K hk_6) rfl rfl (Nat.le_of_ble_eq_true rfl) dX4_push_107 ?_
      refine s_if_eq (tgt := 117) K dX4_push_110 (by decide) (fun c_14 => ?_) (fun c_14 => ?_)
      · refine s_aload_n K dX4_push_117 rfl 2 rfl ?_
        refine s_get K (3 + (Int32.toNatClampNeg a1)) (gL_3 (vp_lt (ok_in ho_1))) rfl inT1 1 (Nat.le_of_ble_eq_true rfl) t_42 rfl rfl dX4_push_118 ?_
        exact s_iret K hret hlk rfl rfl dX4_push_121
      · refine s_aload_n K dX4_push_113 rfl 2 rfl ?_
        refine s_bind (fun q hq_18 => ?_)
        obtain ⟨siz_15, plc_16, onn_17⟩ := q
        refine s_callV (w' := (wL cI cC cB cQ kc uh ud ub ua cnt wet stg dys (upd dep (Int32.toNatClampNeg r_2) ((dep (Int32.toNatClampNeg r_2)) - r_7)) knd siz_15 plc_16 onn_17 axs)) (rest := []) (st1 := []) K (c_X1_leave ua knd (upd siz (Int32.toNatClampNeg a1) ((siz (Int32.toNatClampNeg a1)) + r_7)) (upd plc (Int32.toNatClampNeg a1) r_2) onn axs (Int32.toNatClampNeg a1) (vp_lt (ok_in ho_1)) hq_18) rfl hd_X1_leave t_359 t_360 t_361 t_3 t_362 ⟨(Nat.le_of_ble_eq_true rfl), (Nat.le_of_ble_eq_true rfl)⟩ ⟨rfl, rfl⟩ ⟨Nat.zero_le _, Nat.zero_le _⟩ (rv_o K (3 + (Int32.toNatClampNeg a1)) (gL_3 (vp_lt (ok_in ho_1))) rfl) [3, 4, 5, 6, 7] [0, 1, 2] [0, 1, 2, 3, 4, 5, 6, 7] rfl rfl rfl rfl (by decide) rfl rfl rfl rfl (Nat.le_of_ble_eq_true rfl) dX4_push_114 ?_
        refine s_aload_n K dX4_push_117 rfl 2 rfl ?_
        refine s_get K (3 + (Int32.toNatClampNeg a1)) (gL_3 (vp_lt (ok_in ho_1))) rfl inT1 1 (Nat.le_of_ble_eq_true rfl) t_42 rfl rfl dX4_push_118 ?_
        exact s_iret K hret hlk rfl rfl dX4_push_121
    · refine s_aload_n K dX4_push_91 rfl 2 rfl ?_
      refine s_iload_n K dX4_push_92 rfl 5 rfl ?_
      refine s_bind (fun q hq_20 => ?_)
      obtain ⟨r_19, rfl⟩ : ∃ z, z = q := ⟨_, rfl⟩
      refine s_callSN0 (rest := [.ref (ua (Int32.toNatClampNeg a1))]) (st1 := [.int r_19, .ref (ua (Int32.toNatClampNeg a1))]) K (c_X7_axisOf a2 hq_20) hd_X7_axisOf nl_9 t_324 t_1 t_325 ⟨(Nat.le_of_ble_eq_true rfl), (Nat.le_of_ble_eq_true rfl)⟩ ⟨rfl, rfl⟩ ⟨Nat.zero_le _, Nat.zero_le _⟩ rfl rfl (Nat.le_of_ble_eq_true rfl) dX4_push_93 ?_
      refine s_put (w' := (wL cI cC cB cQ kc uh ud ub ua cnt wet stg dys (upd dep (Int32.toNatClampNeg r_2) ((dep (Int32.toNatClampNeg r_2)) - r_7)) knd (upd siz (Int32.toNatClampNeg a1) ((siz (Int32.toNatClampNeg a1)) + r_7)) (upd plc (Int32.toNatClampNeg a1) r_2) onn (upd axs (Int32.toNatClampNeg a1) r_19))) K (3 + (Int32.toNatClampNeg a1)) (gL_3 (vp_lt (ok_in ho_1))) rfl inT1 tyX1_ok nmX1 4 (Nat.le_of_ble_eq_true rfl) t_53 rfl rfl rfl rfl (Nat.le_of_ble_eq_true rfl) (pL_3_4 (vp_lt (ok_in ho_1)) _) dX4_push_96 ?_
      refine s_aload_n K dX4_push_99 rfl 2 rfl ?_
      refine s_get K (3 + (Int32.toNatClampNeg a1)) (gL_3 (vp_lt (ok_in ho_1))) rfl inT1 0 (Nat.le_of_ble_eq_true rfl) t_38 rfl rfl dX4_push_100 ?_
      refine s_aload_n K dX4_push_103 rfl 2 rfl ?_
      refine s_get K (3 + (Int32.toNatClampNeg a1)) (gL_3 (vp_lt (ok_in ho_1))) rfl inT1 1 (Nat.le_of_ble_eq_true rfl) t_42 rfl rfl dX4_push_104 ?_
      refine s_bind (fun q hq_22 => ?_)
      obtain ⟨r_21, rfl⟩ : ∃ z, z = q := ⟨_, rfl⟩
      refine s_callV0 (rest := []) (st1 := [.int r_21]) K (c_X2_crumbles ((upd siz (Int32.toNatClampNeg a1) ((siz (Int32.toNatClampNeg a1)) + r_7)) (Int32.toNatClampNeg a1)) (knd (Int32.toNatClampNeg a1)) hk_6 hq_22) rfl hd_X2_crumbles t_353 t_354 t_355 t_5 t_356 ⟨(Nat.le_of_ble_eq_true rfl), (Nat.le_of_ble_eq_true rfl)⟩ ⟨rfl, rfl⟩ ⟨Nat.zero_le _, Nat.zero_le _⟩ (rv_k K hk_6) rfl rfl (Nat.le_of_ble_eq_true rfl) dX4_push_107 ?_
      refine s_if_eq (tgt := 117) K dX4_push_110 (by decide) (fun c_23 => ?_) (fun c_23 => ?_)
      · refine s_aload_n K dX4_push_117 rfl 2 rfl ?_
        refine s_get K (3 + (Int32.toNatClampNeg a1)) (gL_3 (vp_lt (ok_in ho_1))) rfl inT1 1 (Nat.le_of_ble_eq_true rfl) t_42 rfl rfl dX4_push_118 ?_
        exact s_iret K hret hlk rfl rfl dX4_push_121
      · refine s_aload_n K dX4_push_113 rfl 2 rfl ?_
        refine s_bind (fun q hq_27 => ?_)
        obtain ⟨siz_24, plc_25, onn_26⟩ := q
        refine s_callV (w' := (wL cI cC cB cQ kc uh ud ub ua cnt wet stg dys (upd dep (Int32.toNatClampNeg r_2) ((dep (Int32.toNatClampNeg r_2)) - r_7)) knd siz_24 plc_25 onn_26 (upd axs (Int32.toNatClampNeg a1) r_19))) (rest := []) (st1 := []) K (c_X1_leave ua knd (upd siz (Int32.toNatClampNeg a1) ((siz (Int32.toNatClampNeg a1)) + r_7)) (upd plc (Int32.toNatClampNeg a1) r_2) onn (upd axs (Int32.toNatClampNeg a1) r_19) (Int32.toNatClampNeg a1) (vp_lt (ok_in ho_1)) hq_27) rfl hd_X1_leave t_359 t_360 t_361 t_3 t_362 ⟨(Nat.le_of_ble_eq_true rfl), (Nat.le_of_ble_eq_true rfl)⟩ ⟨rfl, rfl⟩ ⟨Nat.zero_le _, Nat.zero_le _⟩ (rv_o K (3 + (Int32.toNatClampNeg a1)) (gL_3 (vp_lt (ok_in ho_1))) rfl) [3, 4, 5, 6, 7] [0, 1, 2] [0, 1, 2, 3, 4, 5, 6, 7] rfl rfl rfl rfl (by decide) rfl rfl rfl rfl (Nat.le_of_ble_eq_true rfl) dX4_push_114 ?_
        refine s_aload_n K dX4_push_117 rfl 2 rfl ?_
        refine s_get K (3 + (Int32.toNatClampNeg a1)) (gL_3 (vp_lt (ok_in ho_1))) rfl inT1 1 (Nat.le_of_ble_eq_true rfl) t_42 rfl rfl dX4_push_118 ?_
        exact s_iret K hret hlk rfl rfl dX4_push_121
set_option maxHeartbeats 4000000 in
set_option maxRecDepth 100000 in
theorem c_X4_canLift {l : Launch} {D : va_G} {cI cC cB cQ : ClassId} {kc : Nat → Nat} {kt : Nat} (uh ud ub : Nat) (ua : Nat → Nat) (cnt wet stg dys : Int32) (dep : Nat → Int32) (knd : Nat → Nat) (siz plc onn axs : Nat → Int32) (a1 a2 : Int32) {r : Int32} (hF : f_X4_canLift cnt stg knd siz plc onn a1 a2 = some r) : CT l D (tysOf cI cC cB cQ) kc kt yX4_canLift cX4_canLift 5 (some .boolean) ({ frames := 5, cells := 0, slots := 0, locals := 286 } : Room) [.ref uh, .int a1, .int a2] (wL cI cC cB cQ kc uh ud ub ua cnt wet stg dys dep knd siz plc onn axs) ((fun (r : Int32) => (wL cI cC cB cQ kc uh ud ub ua cnt wet stg dys dep knd siz plc onn axs)) r) ((fun (r : Int32) => some (.int r)) r) := by
  refine CT.of (ww := (fun (r : Int32) => (wL cI cC cB cQ kc uh ud ub ua cnt wet stg dys dep knd siz plc onn axs))) (oo := (fun (r : Int32) => some (.int r))) hF RX4 rfl rfl (Nat.le_of_ble_eq_true rfl) ?_
  intro p e s m args below meth c A K hret hlk
  rewrite [f_X4_canLift]
  refine s_aload_n K dX4_canLift_0 rfl 0 rfl ?_
  refine s_get K 0 rfl rfl inT4 1 (Nat.le_of_ble_eq_true rfl) t_69 rfl rfl dX4_canLift_1 ?_
  refine s_iload_n K dX4_canLift_4 rfl 1 rfl ?_
  refine s_ck (fun ho_1 => ?_)
  refine s_aldb K 2 3 rfl rfl (ok_in ho_1) rfl dX4_canLift_5 ?_
  refine s_astore_n (lv' := [(3, .ref (ua (Int32.toNatClampNeg a1))), (0, .ref uh), (1, .int a1), (2, .int a2)]) K dX4_canLift_6 rfl (Nat.le_of_ble_eq_true rfl) rfl ?_
  refine s_aload_n K dX4_canLift_7 rfl 1 rfl ?_
  refine s_get K 0 rfl rfl inT4 1 (Nat.le_of_ble_eq_true rfl) t_69 rfl rfl dX4_canLift_8 ?_
  refine s_iload_n K dX4_canLift_11 rfl 3 rfl ?_
  refine s_ck (fun ho_2 => ?_)
  refine s_aldb K 2 3 rfl rfl (ok_in ho_2) rfl dX4_canLift_12 ?_
  refine s_astore (lv' := [(4, .ref (ua (Int32.toNatClampNeg a2))), (3, .ref (ua (Int32.toNatClampNeg a1))), (0, .ref uh), (1, .int a1), (2, .int a2)]) K dX4_canLift_13 (Nat.le_of_ble_eq_true rfl) rfl ?_
  refine s_aload_n K dX4_canLift_15 rfl 2 rfl ?_
  refine s_iload_n K dX4_canLift_16 rfl 3 rfl ?_
  refine s_bind (fun q hq_4 => ?_)
  obtain ⟨r_3, rfl⟩ : ∃ z, z = q := ⟨_, rfl⟩
  refine s_callV (w' := (wL cI cC cB cQ kc uh ud ub ua cnt wet stg dys dep knd siz plc onn axs)) (rest := []) (st1 := [.int r_3]) K (c_X4_standsAlone uh ud ub ua cnt wet stg dys dep knd siz plc onn axs a1 hq_4) rfl hd_X4_standsAlone t_306 t_307 t_308 t_2 t_309 ⟨(Nat.le_of_ble_eq_true rfl), (Nat.le_of_ble_eq_true rfl)⟩ ⟨rfl, rfl⟩ ⟨Nat.zero_le _, Nat.zero_le _⟩ (rv_o K 0 rfl rfl) [0, 1, 2, 3, 4, 5, 6, 7] [] [0, 1, 2, 3, 4, 5, 6, 7] rfl rfl rfl rfl (by decide) rfl rfl rfl rfl (Nat.le_of_ble_eq_true rfl) dX4_canLift_17 ?_
  refine s_if_eq (tgt := 36) K dX4_canLift_20 (by decide) (fun c_5 => ?_) (fun c_5 => ?_)
  · refine s_iconst K dX4_canLift_36 kic_0 ?_
    exact s_zret K hret hlk rfl rfl rfl dX4_canLift_37
  · refine s_iconst K dX4_canLift_23 kic_2 ?_
    refine s_aload_n K dX4_canLift_24 rfl 1 rfl ?_
    refine s_bind (fun q hq_7 => ?_)
    obtain ⟨r_6, rfl⟩ : ∃ z, z = q := ⟨_, rfl⟩
    refine s_callV (w' := (wL cI cC cB cQ kc uh ud ub ua cnt wet stg dys dep knd siz plc onn axs)) (rest := [.int 2]) (st1 := [.int r_6, .int 2]) K (c_X1_weight ua knd siz plc onn axs (Int32.toNatClampNeg a1) (vp_lt (ok_in ho_1)) hq_7) rfl hd_X1_weight t_318 t_271 t_272 t_3 t_273 ⟨(Nat.le_of_ble_eq_true rfl), (Nat.le_of_ble_eq_true rfl)⟩ ⟨rfl, rfl⟩ ⟨Nat.zero_le _, Nat.zero_le _⟩ (rv_o K (3 + (Int32.toNatClampNeg a1)) (gL_3 (vp_lt (ok_in ho_1))) rfl) [3, 4, 5, 6, 7] [0, 1, 2] [0, 1, 2, 3, 4, 5, 6, 7] rfl rfl rfl rfl (by decide) rfl rfl rfl rfl (Nat.le_of_ble_eq_true rfl) dX4_canLift_25 ?_
    refine s_imul K dX4_canLift_28 ?_
    refine s_aload_n K dX4_canLift_29 rfl 2 rfl ?_
    refine s_get K 0 rfl rfl inT4 4 (Nat.le_of_ble_eq_true rfl) t_75 rfl rfl dX4_canLift_30 ?_
    refine s_icmp_le (tgt := 38) K dX4_canLift_33 (by decide) (fun c_8 => ?_) (fun c_8 => ?_)
    · refine s_aload K dX4_canLift_38 0 rfl ?_
      refine s_bind (fun q hq_10 => ?_)
      obtain ⟨r_9, rfl⟩ : ∃ z, z = q := ⟨_, rfl⟩
      refine s_callV (w' := (wL cI cC cB cQ kc uh ud ub ua cnt wet stg dys dep knd siz plc onn axs)) (rest := []) (st1 := [.int r_9]) K (c_X1_isGone ua knd siz plc onn axs (Int32.toNatClampNeg a2) (vp_lt (ok_in ho_2)) hq_10) rfl hd_X1_isGone t_310 t_311 t_312 t_3 t_313 ⟨(Nat.le_of_ble_eq_true rfl), (Nat.le_of_ble_eq_true rfl)⟩ ⟨rfl, rfl⟩ ⟨Nat.zero_le _, Nat.zero_le _⟩ (rv_o K (3 + (Int32.toNatClampNeg a2)) (gL_3 (vp_lt (ok_in ho_2))) rfl) [3, 4, 5, 6, 7] [0, 1, 2] [0, 1, 2, 3, 4, 5, 6, 7] rfl rfl rfl rfl (by decide) rfl rfl rfl rfl (Nat.le_of_ble_eq_true rfl) dX4_canLift_40 ?_
      refine s_if_ne (tgt := 66) K dX4_canLift_43 (by decide) (fun c_11 => ?_) (fun c_11 => ?_)
      · refine s_aload_n K dX4_canLift_46 rfl 2 rfl ?_
        refine s_iload_n K dX4_canLift_47 rfl 4 rfl ?_
        refine s_bind (fun q hq_13 => ?_)
        obtain ⟨r_12, rfl⟩ : ∃ z, z = q := ⟨_, rfl⟩
        refine s_callV (w' := (wL cI cC cB cQ kc uh ud ub ua cnt wet stg dys dep knd siz plc onn axs)) (rest := []) (st1 := [.int r_12]) K (c_X4_isTopped uh ud ub ua cnt wet stg dys dep knd siz plc onn axs a2 hq_13) rfl hd_X4_isTopped t_314 t_315 t_316 t_2 t_317 ⟨(Nat.le_of_ble_eq_true rfl), (Nat.le_of_ble_eq_true rfl)⟩ ⟨rfl, rfl⟩ ⟨Nat.zero_le _, Nat.zero_le _⟩ (rv_o K 0 rfl rfl) [0, 1, 2, 3, 4, 5, 6, 7] [] [0, 1, 2, 3, 4, 5, 6, 7] rfl rfl rfl rfl (by decide) rfl rfl rfl rfl (Nat.le_of_ble_eq_true rfl) dX4_canLift_48 ?_
        refine s_if_ne (tgt := 66) K dX4_canLift_51 (by decide) (fun c_14 => ?_) (fun c_14 => ?_)
        · refine s_aload K dX4_canLift_54 0 rfl ?_
          refine s_get K (3 + (Int32.toNatClampNeg a2)) (gL_3 (vp_lt (ok_in ho_2))) rfl inT1 1 (Nat.le_of_ble_eq_true rfl) t_42 rfl rfl dX4_canLift_56 ?_
          refine s_aload_n K dX4_canLift_59 rfl 1 rfl ?_
          refine s_get K (3 + (Int32.toNatClampNeg a1)) (gL_3 (vp_lt (ok_in ho_1))) rfl inT1 1 (Nat.le_of_ble_eq_true rfl) t_42 rfl rfl dX4_canLift_60 ?_
          refine s_icmp_gt (tgt := 68) K dX4_canLift_63 (by decide) (fun c_15 => ?_) (fun c_15 => ?_)
          · refine s_aload_n K dX4_canLift_68 rfl 1 rfl ?_
            refine s_get K (3 + (Int32.toNatClampNeg a1)) (gL_3 (vp_lt (ok_in ho_1))) rfl inT1 2 (Nat.le_of_ble_eq_true rfl) t_46 rfl rfl dX4_canLift_69 ?_
            refine s_aload K dX4_canLift_72 0 rfl ?_
            refine s_get K (3 + (Int32.toNatClampNeg a2)) (gL_3 (vp_lt (ok_in ho_2))) rfl inT1 2 (Nat.le_of_ble_eq_true rfl) t_46 rfl rfl dX4_canLift_74 ?_
            refine s_bind (fun q hq_17 => ?_)
            obtain ⟨r_16, rfl⟩ : ∃ z, z = q := ⟨_, rfl⟩
            refine s_callSN0 (rest := []) (st1 := [.int r_16]) K (c_X7_areBeside (plc (Int32.toNatClampNeg a1)) (plc (Int32.toNatClampNeg a2)) hq_17) hd_X7_areBeside nl_10 t_372 t_1 t_373 ⟨(Nat.le_of_ble_eq_true rfl), (Nat.le_of_ble_eq_true rfl)⟩ ⟨rfl, rfl⟩ ⟨Nat.zero_le _, Nat.zero_le _⟩ rfl rfl (Nat.le_of_ble_eq_true rfl) dX4_canLift_77 ?_
            refine s_if_eq (tgt := 100) K dX4_canLift_80 (by decide) (fun c_18 => ?_) (fun c_18 => ?_)
            · refine s_iconst K dX4_canLift_100 kic_0 ?_
              exact s_zret K hret hlk rfl rfl rfl dX4_canLift_101
            · refine s_aload_n K dX4_canLift_83 rfl 2 rfl ?_
              refine s_aload K dX4_canLift_84 0 rfl ?_
              refine s_get K (3 + (Int32.toNatClampNeg a2)) (gL_3 (vp_lt (ok_in ho_2))) rfl inT1 2 (Nat.le_of_ble_eq_true rfl) t_46 rfl rfl dX4_canLift_86 ?_
              refine s_bind (fun q hq_20 => ?_)
              obtain ⟨r_19, rfl⟩ : ∃ z, z = q := ⟨_, rfl⟩
              refine s_callV (w' := (wL cI cC cB cQ kc uh ud ub ua cnt wet stg dys dep knd siz plc onn axs)) (rest := []) (st1 := [.int r_19]) K (c_X4_manyAt uh ud ub ua cnt wet stg dys dep knd siz plc onn axs (plc (Int32.toNatClampNeg a2)) hq_20) rfl hd_X4_manyAt t_254 t_255 t_256 t_2 t_257 ⟨(Nat.le_of_ble_eq_true rfl), (Nat.le_of_ble_eq_true rfl)⟩ ⟨rfl, rfl⟩ ⟨Nat.zero_le _, Nat.zero_le _⟩ (rv_o K 0 rfl rfl) [0, 1, 2, 3, 4, 5, 6, 7] [] [0, 1, 2, 3, 4, 5, 6, 7] rfl rfl rfl rfl (by decide) rfl rfl rfl rfl (Nat.le_of_ble_eq_true rfl) dX4_canLift_89 ?_
              refine s_iconst K dX4_canLift_92 kic_3 ?_
              refine s_icmp_ge (tgt := 100) K dX4_canLift_93 (by decide) (fun c_21 => ?_) (fun c_21 => ?_)
              · refine s_iconst K dX4_canLift_100 kic_0 ?_
                exact s_zret K hret hlk rfl rfl rfl dX4_canLift_101
              · refine s_iconst K dX4_canLift_96 kic_1 ?_
                refine s_goto (tgt := 101) K dX4_canLift_97 (by decide) ?_
                exact s_zret K hret hlk rfl rfl rfl dX4_canLift_101
          · refine s_iconst K dX4_canLift_66 kic_0 ?_
            exact s_zret K hret hlk rfl rfl rfl dX4_canLift_67
        · refine s_iconst K dX4_canLift_66 kic_0 ?_
          exact s_zret K hret hlk rfl rfl rfl dX4_canLift_67
      · refine s_iconst K dX4_canLift_66 kic_0 ?_
        exact s_zret K hret hlk rfl rfl rfl dX4_canLift_67
    · refine s_iconst K dX4_canLift_36 kic_0 ?_
      exact s_zret K hret hlk rfl rfl rfl dX4_canLift_37
set_option maxHeartbeats 4000000 in
set_option maxRecDepth 100000 in
theorem c_X4_raise {l : Launch} {D : va_G} {cI cC cB cQ : ClassId} {kc : Nat → Nat} {kt : Nat} (uh ud ub : Nat) (ua : Nat → Nat) (cnt wet stg dys : Int32) (dep : Nat → Int32) (knd : Nat → Nat) (siz plc onn axs : Nat → Int32) (a1 a2 : Int32) {r : Int32 × (Nat → Int32) × (Nat → Int32)} (hF : f_X4_raise cnt siz plc onn a1 a2 = some r) : CT l D (tysOf cI cC cB cQ) kc kt yX4_raise cX4_raise 3 (some .int) ({ frames := 3, cells := 0, slots := 0, locals := 165 } : Room) [.ref uh, .int a1, .int a2] (wL cI cC cB cQ kc uh ud ub ua cnt wet stg dys dep knd siz plc onn axs) ((fun (r : Int32 × (Nat → Int32) × (Nat → Int32)) => (wL cI cC cB cQ kc uh ud ub ua cnt wet stg dys dep knd siz (r.2.1) (r.2.2) axs)) r) ((fun (r : Int32 × (Nat → Int32) × (Nat → Int32)) => some (.int (r.1))) r) := by
  refine CT.of (ww := (fun (r : Int32 × (Nat → Int32) × (Nat → Int32)) => (wL cI cC cB cQ kc uh ud ub ua cnt wet stg dys dep knd siz (r.2.1) (r.2.2) axs))) (oo := (fun (r : Int32 × (Nat → Int32) × (Nat → Int32)) => some (.int (r.1)))) hF RX4 rfl rfl (Nat.le_of_ble_eq_true rfl) ?_
  intro p e s m args below meth c A K hret hlk
  rewrite [f_X4_raise]
  refine s_aload_n K dX4_raise_0 rfl 0 rfl ?_
  refine s_get K 0 rfl rfl inT4 1 (Nat.le_of_ble_eq_true rfl) t_69 rfl rfl dX4_raise_1 ?_
  refine s_iload_n K dX4_raise_4 rfl 1 rfl ?_
  refine s_ck (fun ho_1 => ?_)
  refine s_aldb K 2 3 rfl rfl (ok_in ho_1) rfl dX4_raise_5 ?_
  refine s_aload_n K dX4_raise_6 rfl 0 rfl ?_
  refine s_get K 0 rfl rfl inT4 1 (Nat.le_of_ble_eq_true rfl) t_69 rfl rfl dX4_raise_7 ?_
  refine s_iload_n K dX4_raise_10 rfl 2 rfl ?_
  refine s_ck (fun ho_2 => ?_)
  refine s_aldb K 2 3 rfl rfl (ok_in ho_2) rfl dX4_raise_11 ?_
  refine s_get K (3 + (Int32.toNatClampNeg a2)) (gL_3 (vp_lt (ok_in ho_2))) rfl inT1 2 (Nat.le_of_ble_eq_true rfl) t_46 rfl rfl dX4_raise_12 ?_
  refine s_put (w' := (wL cI cC cB cQ kc uh ud ub ua cnt wet stg dys dep knd siz (upd plc (Int32.toNatClampNeg a1) (plc (Int32.toNatClampNeg a2))) onn axs)) K (3 + (Int32.toNatClampNeg a1)) (gL_3 (vp_lt (ok_in ho_1))) rfl inT1 tyX1_ok nmX1 2 (Nat.le_of_ble_eq_true rfl) t_46 rfl rfl rfl rfl (Nat.le_of_ble_eq_true rfl) (pL_3_2 (vp_lt (ok_in ho_1)) _) dX4_raise_15 ?_
  refine s_aload_n K dX4_raise_18 rfl 0 rfl ?_
  refine s_get K 0 rfl rfl inT4 1 (Nat.le_of_ble_eq_true rfl) t_69 rfl rfl dX4_raise_19 ?_
  refine s_iload_n K dX4_raise_22 rfl 1 rfl ?_
  refine s_aldb K 2 3 rfl rfl (ok_in ho_1) rfl dX4_raise_23 ?_
  refine s_iload_n K dX4_raise_24 rfl 2 rfl ?_
  refine s_put (w' := (wL cI cC cB cQ kc uh ud ub ua cnt wet stg dys dep knd siz (upd plc (Int32.toNatClampNeg a1) (plc (Int32.toNatClampNeg a2))) (upd onn (Int32.toNatClampNeg a1) a2) axs)) K (3 + (Int32.toNatClampNeg a1)) (gL_3 (vp_lt (ok_in ho_1))) rfl inT1 tyX1_ok nmX1 3 (Nat.le_of_ble_eq_true rfl) t_49 rfl rfl rfl rfl (Nat.le_of_ble_eq_true rfl) (pL_3_3 (vp_lt (ok_in ho_1)) _) dX4_raise_25 ?_
  refine s_aload_n K dX4_raise_28 rfl 0 rfl ?_
  refine s_aload_n K dX4_raise_29 rfl 0 rfl ?_
  refine s_get K 0 rfl rfl inT4 1 (Nat.le_of_ble_eq_true rfl) t_69 rfl rfl dX4_raise_30 ?_
  refine s_iload_n K dX4_raise_33 rfl 2 rfl ?_
  refine s_aldb K 2 3 rfl rfl (ok_in ho_2) rfl dX4_raise_34 ?_
  refine s_get K (3 + (Int32.toNatClampNeg a2)) (gL_3 (vp_lt (ok_in ho_2))) rfl inT1 2 (Nat.le_of_ble_eq_true rfl) t_46 rfl rfl dX4_raise_35 ?_
  refine s_bind (fun q hq_4 => ?_)
  obtain ⟨r_3, rfl⟩ : ∃ z, z = q := ⟨_, rfl⟩
  refine s_callV (w' := (wL cI cC cB cQ kc uh ud ub ua cnt wet stg dys dep knd siz (upd plc (Int32.toNatClampNeg a1) (plc (Int32.toNatClampNeg a2))) (upd onn (Int32.toNatClampNeg a1) a2) axs)) (rest := []) (st1 := [.int r_3]) K (c_X4_heightAt uh ud ub ua cnt wet stg dys dep knd siz (upd plc (Int32.toNatClampNeg a1) (plc (Int32.toNatClampNeg a2))) (upd onn (Int32.toNatClampNeg a1) a2) axs ((upd plc (Int32.toNatClampNeg a1) (plc (Int32.toNatClampNeg a2))) (Int32.toNatClampNeg a2)) hq_4) rfl hd_X4_heightAt t_379 t_231 t_232 t_2 t_233 ⟨(Nat.le_of_ble_eq_true rfl), (Nat.le_of_ble_eq_true rfl)⟩ ⟨rfl, rfl⟩ ⟨Nat.zero_le _, Nat.zero_le _⟩ (rv_o K 0 rfl rfl) [0, 1, 2, 3, 4, 5, 6, 7] [] [0, 1, 2, 3, 4, 5, 6, 7] rfl rfl rfl rfl (by decide) rfl rfl rfl rfl (Nat.le_of_ble_eq_true rfl) dX4_raise_38 ?_
  exact s_iret K hret hlk rfl rfl dX4_raise_41
set_option maxHeartbeats 4000000 in
set_option maxRecDepth 100000 in
theorem c_X4_lower {l : Launch} {D : va_G} {cI cC cB cQ : ClassId} {kc : Nat → Nat} {kt : Nat} (uh ud ub : Nat) (ua : Nat → Nat) (cnt wet stg dys : Int32) (dep : Nat → Int32) (knd : Nat → Nat) (siz plc onn axs : Nat → Int32) (a1 a2 : Int32) {r : (Nat → Int32)} (hF : f_X4_lower cnt onn a1 a2 = some r) : CT l D (tysOf cI cC cB cQ) kc kt yX4_lower cX4_lower 4 none ({ frames := 1, cells := 0, slots := 0, locals := 40 } : Room) [.ref uh, .int a1, .int a2] (wL cI cC cB cQ kc uh ud ub ua cnt wet stg dys dep knd siz plc onn axs) ((fun (r : (Nat → Int32)) => (wL cI cC cB cQ kc uh ud ub ua cnt wet stg dys dep knd siz plc (r) axs)) r) ((fun (r : (Nat → Int32)) => none) r) := by
  refine CT.of (ww := (fun (r : (Nat → Int32)) => (wL cI cC cB cQ kc uh ud ub ua cnt wet stg dys dep knd siz plc (r) axs))) (oo := (fun (r : (Nat → Int32)) => none)) hF RX4 rfl rfl (Nat.le_of_ble_eq_true rfl) ?_
  intro p e s m args below meth c A K hret hlk
  have L2 : ∀ (fu : Nat) (onn : Nat → Int32) (x3 : Int32), Sw (ρ := (Nat → Int32)) p l e ({ frames := 1, cells := 0, slots := 0, locals := 40 } : Room) s m args below meth c 0 0 D A 4 (fun r => MQ below (CQ D ((fun (r : (Nat → Int32)) => (wL cI cC cB cQ kc uh ud ub ua cnt wet stg dys dep knd siz plc (r) axs)) r) ((fun (r : (Nat → Int32)) => none) r) A) args s 0 0 A) (f_X4_lower_h2 cnt a1 a2 fu onn x3) (wL cI cC cB cQ kc uh ud ub ua cnt wet stg dys dep knd siz plc onn axs) [(0, .ref uh), (1, .int a1), (2, .int a2), (3, .int x3)] 2 [] := by
    intro  fu
    induction fu with
    | zero =>
      intro onn x3
      rewrite [f_X4_lower_h2]
      exact s_none
    | succ fu ih =>
      intro onn x3
      rewrite [f_X4_lower_h2]
      refine s_iload_n K dX4_lower_2 rfl 3 rfl ?_
      refine s_aload_n K dX4_lower_3 rfl 0 rfl ?_
      refine s_get K 0 rfl rfl inT4 2 (Nat.le_of_ble_eq_true rfl) t_71 rfl rfl dX4_lower_4 ?_
      refine s_icmp_ge (tgt := 39) K dX4_lower_7 (by decide) (fun c_1 => ?_) (fun c_1 => ?_)
      · exact s_vret K hret hlk rfl rfl dX4_lower_39
      · refine s_aload_n K dX4_lower_10 rfl 0 rfl ?_
        refine s_get K 0 rfl rfl inT4 1 (Nat.le_of_ble_eq_true rfl) t_69 rfl rfl dX4_lower_11 ?_
        refine s_iload_n K dX4_lower_14 rfl 3 rfl ?_
        refine s_ck (fun ho_2 => ?_)
        refine s_aldb K 2 3 rfl rfl (ok_in ho_2) rfl dX4_lower_15 ?_
        refine s_get K (3 + (Int32.toNatClampNeg x3)) (gL_3 (vp_lt (ok_in ho_2))) rfl inT1 3 (Nat.le_of_ble_eq_true rfl) t_49 rfl rfl dX4_lower_16 ?_
        refine s_iload_n K dX4_lower_19 rfl 1 rfl ?_
        refine s_icmp_ne (tgt := 33) K dX4_lower_20 (by decide) (fun c_3 => ?_) (fun c_3 => ?_)
        · refine s_aload_n K dX4_lower_23 rfl 0 rfl ?_
          refine s_get K 0 rfl rfl inT4 1 (Nat.le_of_ble_eq_true rfl) t_69 rfl rfl dX4_lower_24 ?_
          refine s_iload_n K dX4_lower_27 rfl 3 rfl ?_
          refine s_aldb K 2 3 rfl rfl (ok_in ho_2) rfl dX4_lower_28 ?_
          refine s_iload_n K dX4_lower_29 rfl 2 rfl ?_
          refine s_put (w' := (wL cI cC cB cQ kc uh ud ub ua cnt wet stg dys dep knd siz plc (upd onn (Int32.toNatClampNeg x3) a2) axs)) K (3 + (Int32.toNatClampNeg x3)) (gL_3 (vp_lt (ok_in ho_2))) rfl inT1 tyX1_ok nmX1 3 (Nat.le_of_ble_eq_true rfl) t_49 rfl rfl rfl rfl (Nat.le_of_ble_eq_true rfl) (pL_3_3 (vp_lt (ok_in ho_2)) _) dX4_lower_30 ?_
          refine s_iinc (lv' := [(3, .int (x3 + 1)), (0, .ref uh), (1, .int a1), (2, .int a2)]) K dX4_lower_33 3 rfl (kii_1 _) (Nat.le_of_ble_eq_true rfl) rfl ?_
          refine s_goto (tgt := 2) K dX4_lower_36 (by decide) ?_
          refine s_lv (lv' := [(0, .ref uh), (1, .int a1), (2, .int a2), (3, .int (x3 + 1))]) [1, 2, 3, 0] rfl ?_
          exact ih (upd onn (Int32.toNatClampNeg x3) a2) (x3 + 1)
        · refine s_iinc (lv' := [(3, .int (x3 + 1)), (0, .ref uh), (1, .int a1), (2, .int a2)]) K dX4_lower_33 3 rfl (kii_1 _) (Nat.le_of_ble_eq_true rfl) rfl ?_
          refine s_goto (tgt := 2) K dX4_lower_36 (by decide) ?_
          refine s_lv (lv' := [(0, .ref uh), (1, .int a1), (2, .int a2), (3, .int (x3 + 1))]) [1, 2, 3, 0] rfl ?_
          exact ih onn (x3 + 1)
  rewrite [f_X4_lower]
  refine s_iconst K dX4_lower_0 kic_0 ?_
  refine s_istore_n (lv' := [(3, .int 0), (0, .ref uh), (1, .int a1), (2, .int a2)]) K dX4_lower_1 rfl (Nat.le_of_ble_eq_true rfl) rfl ?_
  refine s_lv (lv' := [(0, .ref uh), (1, .int a1), (2, .int a2), (3, .int 0)]) [1, 2, 3, 0] rfl ?_
  exact L2 70 onn 0
set_option maxHeartbeats 4000000 in
set_option maxRecDepth 100000 in
theorem c_X4_melt {l : Launch} {D : va_G} {cI cC cB cQ : ClassId} {kc : Nat → Nat} {kt : Nat} (uh ud ub : Nat) (ua : Nat → Nat) (cnt wet stg dys : Int32) (dep : Nat → Int32) (knd : Nat → Nat) (siz plc onn axs : Nat → Int32) (a1 : Int32) {r : Int32 × Int32 × (Nat → Int32) × (Nat → Int32) × (Nat → Int32)} (hF : f_X4_melt cnt dys knd siz plc onn a1 = some r) : CT l D (tysOf cI cC cB cQ) kc kt yX4_melt cX4_melt 6 (some .int) ({ frames := 2, cells := 0, slots := 0, locals := 103 } : Room) [.ref uh, .int a1] (wL cI cC cB cQ kc uh ud ub ua cnt wet stg dys dep knd siz plc onn axs) ((fun (r : Int32 × Int32 × (Nat → Int32) × (Nat → Int32) × (Nat → Int32)) => (wL cI cC cB cQ kc uh ud ub ua cnt wet stg (r.2.1) dep knd (r.2.2.1) (r.2.2.2.1) (r.2.2.2.2) axs)) r) ((fun (r : Int32 × Int32 × (Nat → Int32) × (Nat → Int32) × (Nat → Int32)) => some (.int (r.1))) r) := by
  refine CT.of (ww := (fun (r : Int32 × Int32 × (Nat → Int32) × (Nat → Int32) × (Nat → Int32)) => (wL cI cC cB cQ kc uh ud ub ua cnt wet stg (r.2.1) dep knd (r.2.2.1) (r.2.2.2.1) (r.2.2.2.2) axs))) (oo := (fun (r : Int32 × Int32 × (Nat → Int32) × (Nat → Int32) × (Nat → Int32)) => some (.int (r.1)))) hF RX4 rfl rfl (Nat.le_of_ble_eq_true rfl) ?_
  intro p e s m args below meth c A K hret hlk
  have L4 : ∀ (fu : Nat) (siz plc onn : Nat → Int32) (x2 x3 : Int32), Sw (ρ := Int32 × Int32 × (Nat → Int32) × (Nat → Int32) × (Nat → Int32)) p l e ({ frames := 2, cells := 0, slots := 0, locals := 103 } : Room) s m args below meth c 0 0 D A 6 (fun r => MQ below (CQ D ((fun (r : Int32 × Int32 × (Nat → Int32) × (Nat → Int32) × (Nat → Int32)) => (wL cI cC cB cQ kc uh ud ub ua cnt wet stg (r.2.1) dep knd (r.2.2.1) (r.2.2.2.1) (r.2.2.2.2) axs)) r) ((fun (r : Int32 × Int32 × (Nat → Int32) × (Nat → Int32) × (Nat → Int32)) => some (.int (r.1))) r) A) args s 0 0 A) (f_X4_melt_h4 cnt dys knd a1 fu siz plc onn x2 x3) (wL cI cC cB cQ kc uh ud ub ua cnt wet stg dys dep knd siz plc onn axs) [(0, .ref uh), (1, .int a1), (2, .int x2), (3, .int x3)] 4 [] := by
    intro  fu
    induction fu with
    | zero =>
      intro siz plc onn x2 x3
      rewrite [f_X4_melt_h4]
      exact s_none
    | succ fu ih =>
      intro siz plc onn x2 x3
      rewrite [f_X4_melt_h4]
      refine s_iload_n K dX4_melt_4 rfl 3 rfl ?_
      refine s_aload_n K dX4_melt_5 rfl 0 rfl ?_
      refine s_get K 0 rfl rfl inT4 2 (Nat.le_of_ble_eq_true rfl) t_71 rfl rfl dX4_melt_6 ?_
      refine s_icmp_ge (tgt := 91) K dX4_melt_9 (by decide) (fun c_1 => ?_) (fun c_1 => ?_)
      · refine s_aload_n K dX4_melt_91 rfl 0 rfl ?_
        refine s_dup K dX4_melt_92 rfl ?_
        refine s_get K 0 rfl rfl inT4 5 (Nat.le_of_ble_eq_true rfl) t_77 rfl rfl dX4_melt_93 ?_
        refine s_iconst K dX4_melt_96 kic_1 ?_
        refine s_iadd K dX4_melt_97 ?_
        refine s_put (w' := (wL cI cC cB cQ kc uh ud ub ua cnt wet stg (dys + 1) dep knd siz plc onn axs)) K 0 rfl rfl inT4 tyX4_ok nmX4 5 (Nat.le_of_ble_eq_true rfl) t_77 rfl rfl rfl rfl (Nat.le_of_ble_eq_true rfl) rfl dX4_melt_98 ?_
        refine s_iload_n K dX4_melt_101 rfl 2 rfl ?_
        exact s_iret K hret hlk rfl rfl dX4_melt_102
      · refine s_aload_n K dX4_melt_12 rfl 0 rfl ?_
        refine s_get K 0 rfl rfl inT4 1 (Nat.le_of_ble_eq_true rfl) t_69 rfl rfl dX4_melt_13 ?_
        refine s_iload_n K dX4_melt_16 rfl 3 rfl ?_
        refine s_ck (fun ho_2 => ?_)
        refine s_aldb K 2 3 rfl rfl (ok_in ho_2) rfl dX4_melt_17 ?_
        refine s_astore (lv' := [(4, .ref (ua (Int32.toNatClampNeg x3))), (0, .ref uh), (1, .int a1), (2, .int x2), (3, .int x3)]) K dX4_melt_18 (Nat.le_of_ble_eq_true rfl) rfl ?_
        refine s_aload K dX4_melt_20 0 rfl ?_
        refine s_bind (fun q hq_4 => ?_)
        obtain ⟨r_3, rfl⟩ : ∃ z, z = q := ⟨_, rfl⟩
        refine s_callV (w' := (wL cI cC cB cQ kc uh ud ub ua cnt wet stg dys dep knd siz plc onn axs)) (rest := []) (st1 := [.int r_3]) K (c_X1_isGone ua knd siz plc onn axs (Int32.toNatClampNeg x3) (vp_lt (ok_in ho_2)) hq_4) rfl hd_X1_isGone t_310 t_311 t_312 t_3 t_313 ⟨(Nat.le_of_ble_eq_true rfl), (Nat.le_of_ble_eq_true rfl)⟩ ⟨rfl, rfl⟩ ⟨Nat.zero_le _, Nat.zero_le _⟩ (rv_o K (3 + (Int32.toNatClampNeg x3)) (gL_3 (vp_lt (ok_in ho_2))) rfl) [3, 4, 5, 6, 7] [0, 1, 2] [0, 1, 2, 3, 4, 5, 6, 7] rfl rfl rfl rfl (by decide) rfl rfl rfl rfl (Nat.le_of_ble_eq_true rfl) dX4_melt_22 ?_
        refine s_if_eq (tgt := 31) K dX4_melt_25 (by decide) (fun c_5 => ?_) (fun c_5 => ?_)
        · refine s_aload K dX4_melt_31 0 rfl ?_
          refine s_get K (3 + (Int32.toNatClampNeg x3)) (gL_3 (vp_lt (ok_in ho_2))) rfl inT1 0 (Nat.le_of_ble_eq_true rfl) t_38 rfl rfl dX4_melt_33 ?_
          refine s_iload_n K dX4_melt_36 rfl 2 rfl ?_
          refine s_ck (fun hk_6 => ?_)
          refine s_bind (fun q hq_8 => ?_)
          obtain ⟨r_7, rfl⟩ : ∃ z, z = q := ⟨_, rfl⟩
          refine s_callV0 (rest := []) (st1 := [.int r_7]) K (c_X2_melts a1 (knd (Int32.toNatClampNeg x3)) hk_6 hq_8) rfl hd_X2_melts t_388 t_389 t_390 t_5 t_391 ⟨(Nat.le_of_ble_eq_true rfl), (Nat.le_of_ble_eq_true rfl)⟩ ⟨rfl, rfl⟩ ⟨Nat.zero_le _, Nat.zero_le _⟩ (rv_k K hk_6) rfl rfl (Nat.le_of_ble_eq_true rfl) dX4_melt_37 ?_
          refine s_istore (lv' := [(5, .int r_7), (4, .ref (ua (Int32.toNatClampNeg x3))), (0, .ref uh), (1, .int a1), (2, .int x2), (3, .int x3)]) K dX4_melt_40 (Nat.le_of_ble_eq_true rfl) rfl ?_
          refine s_iload K dX4_melt_42 0 rfl ?_
          refine s_aload K dX4_melt_44 1 rfl ?_
          refine s_get K (3 + (Int32.toNatClampNeg x3)) (gL_3 (vp_lt (ok_in ho_2))) rfl inT1 1 (Nat.le_of_ble_eq_true rfl) t_42 rfl rfl dX4_melt_46 ?_
          refine s_icmp_ge (tgt := 67) K dX4_melt_49 (by decide) (fun c_9 => ?_) (fun c_9 => ?_)
          · refine s_aload_n K dX4_melt_67 rfl 2 rfl ?_
            refine s_iload_n K dX4_melt_68 rfl 5 rfl ?_
            refine s_aload K dX4_melt_69 1 rfl ?_
            refine s_get K (3 + (Int32.toNatClampNeg x3)) (gL_3 (vp_lt (ok_in ho_2))) rfl inT1 3 (Nat.le_of_ble_eq_true rfl) t_49 rfl rfl dX4_melt_71 ?_
            refine s_bind (fun q hq_11 => ?_)
            obtain ⟨onn_10, rfl⟩ : ∃ z, z = q := ⟨_, rfl⟩
            refine s_callV (w' := (wL cI cC cB cQ kc uh ud ub ua cnt wet stg dys dep knd siz plc onn_10 axs)) (rest := []) (st1 := []) K (c_X4_lower uh ud ub ua cnt wet stg dys dep knd siz plc onn axs x3 (onn (Int32.toNatClampNeg x3)) hq_11) rfl hd_X4_lower t_392 t_394 ts_2 t_2 t_395 ⟨(Nat.le_of_ble_eq_true rfl), (Nat.le_of_ble_eq_true rfl)⟩ ⟨rfl, rfl⟩ ⟨Nat.zero_le _, Nat.zero_le _⟩ (rv_o K 0 rfl rfl) [0, 1, 2, 3, 4, 5, 6, 7] [] [0, 1, 2, 3, 4, 5, 6, 7] rfl rfl rfl rfl (by decide) rfl rfl rfl rfl (Nat.le_of_ble_eq_true rfl) dX4_melt_74 ?_
            refine s_aload K dX4_melt_77 1 rfl ?_
            refine s_bind (fun q hq_15 => ?_)
            obtain ⟨siz_12, plc_13, onn_14⟩ := q
            refine s_callV (w' := (wL cI cC cB cQ kc uh ud ub ua cnt wet stg dys dep knd siz_12 plc_13 onn_14 axs)) (rest := []) (st1 := []) K (c_X1_leave ua knd siz plc onn_10 axs (Int32.toNatClampNeg x3) (vp_lt (ok_in ho_2)) hq_15) rfl hd_X1_leave t_359 t_360 t_361 t_3 t_362 ⟨(Nat.le_of_ble_eq_true rfl), (Nat.le_of_ble_eq_true rfl)⟩ ⟨rfl, rfl⟩ ⟨Nat.zero_le _, Nat.zero_le _⟩ (rv_o K (3 + (Int32.toNatClampNeg x3)) (gL_3 (vp_lt (ok_in ho_2))) rfl) [3, 4, 5, 6, 7] [0, 1, 2] [0, 1, 2, 3, 4, 5, 6, 7] rfl rfl rfl rfl (by decide) rfl rfl rfl rfl (Nat.le_of_ble_eq_true rfl) dX4_melt_79 ?_
            refine s_iinc (lv' := [(2, .int (x2 + 1)), (5, .int r_7), (4, .ref (ua (Int32.toNatClampNeg x3))), (0, .ref uh), (1, .int a1), (3, .int x3)]) K dX4_melt_82 4 rfl (kii_1 _) (Nat.le_of_ble_eq_true rfl) rfl ?_
            refine s_iinc (lv' := [(3, .int (x3 + 1)), (2, .int (x2 + 1)), (5, .int r_7), (4, .ref (ua (Int32.toNatClampNeg x3))), (0, .ref uh), (1, .int a1)]) K dX4_melt_85 5 rfl (kii_1 _) (Nat.le_of_ble_eq_true rfl) rfl ?_
            refine s_goto (tgt := 4) K dX4_melt_88 (by decide) ?_
            refine s_lv (lv' := [(0, .ref uh), (1, .int a1), (2, .int (x2 + 1)), (3, .int (x3 + 1))]) [4, 5, 1, 0] rfl ?_
            exact ih siz_12 plc_13 onn_14 (x2 + 1) (x3 + 1)
          · refine s_aload K dX4_melt_52 1 rfl ?_
            refine s_dup K dX4_melt_54 rfl ?_
            refine s_get K (3 + (Int32.toNatClampNeg x3)) (gL_3 (vp_lt (ok_in ho_2))) rfl inT1 1 (Nat.le_of_ble_eq_true rfl) t_42 rfl rfl dX4_melt_55 ?_
            refine s_iload K dX4_melt_58 0 rfl ?_
            refine s_isub K dX4_melt_60 ?_
            refine s_put (w' := (wL cI cC cB cQ kc uh ud ub ua cnt wet stg dys dep knd (upd siz (Int32.toNatClampNeg x3) ((siz (Int32.toNatClampNeg x3)) - r_7)) plc onn axs)) K (3 + (Int32.toNatClampNeg x3)) (gL_3 (vp_lt (ok_in ho_2))) rfl inT1 tyX1_ok nmX1 1 (Nat.le_of_ble_eq_true rfl) t_42 rfl rfl rfl rfl (Nat.le_of_ble_eq_true rfl) (pL_3_1 (vp_lt (ok_in ho_2)) _) dX4_melt_61 ?_
            refine s_goto (tgt := 85) K dX4_melt_64 (by decide) ?_
            refine s_iinc (lv' := [(3, .int (x3 + 1)), (5, .int r_7), (4, .ref (ua (Int32.toNatClampNeg x3))), (0, .ref uh), (1, .int a1), (2, .int x2)]) K dX4_melt_85 5 rfl (kii_1 _) (Nat.le_of_ble_eq_true rfl) rfl ?_
            refine s_goto (tgt := 4) K dX4_melt_88 (by decide) ?_
            refine s_lv (lv' := [(0, .ref uh), (1, .int a1), (2, .int x2), (3, .int (x3 + 1))]) [3, 4, 5, 0] rfl ?_
            exact ih (upd siz (Int32.toNatClampNeg x3) ((siz (Int32.toNatClampNeg x3)) - r_7)) plc onn x2 (x3 + 1)
        · refine s_goto (tgt := 85) K dX4_melt_28 (by decide) ?_
          refine s_iinc (lv' := [(3, .int (x3 + 1)), (4, .ref (ua (Int32.toNatClampNeg x3))), (0, .ref uh), (1, .int a1), (2, .int x2)]) K dX4_melt_85 4 rfl (kii_1 _) (Nat.le_of_ble_eq_true rfl) rfl ?_
          refine s_goto (tgt := 4) K dX4_melt_88 (by decide) ?_
          refine s_lv (lv' := [(0, .ref uh), (1, .int a1), (2, .int x2), (3, .int (x3 + 1))]) [2, 3, 4, 0] rfl ?_
          exact ih siz plc onn x2 (x3 + 1)
  rewrite [f_X4_melt]
  refine s_iconst K dX4_melt_0 kic_0 ?_
  refine s_istore_n (lv' := [(2, .int 0), (0, .ref uh), (1, .int a1)]) K dX4_melt_1 rfl (Nat.le_of_ble_eq_true rfl) rfl ?_
  refine s_iconst K dX4_melt_2 kic_0 ?_
  refine s_istore_n (lv' := [(3, .int 0), (2, .int 0), (0, .ref uh), (1, .int a1)]) K dX4_melt_3 rfl (Nat.le_of_ble_eq_true rfl) rfl ?_
  refine s_lv (lv' := [(0, .ref uh), (1, .int a1), (2, .int 0), (3, .int 0)]) [2, 3, 1, 0] rfl ?_
  exact L4 70 siz plc onn 0 0
set_option maxHeartbeats 4000000 in
set_option maxRecDepth 100000 in
theorem c_X4_copyFrom {l : Launch} {D : va_G} {cI cC cB cQ : ClassId} {kc : Nat → Nat} {kt : Nat} (uh ud ub : Nat) (ua : Nat → Nat) (vh vd vb : Nat) (va : Nat → Nat) (cnt wet stg dys : Int32) (dep : Nat → Int32) (knd : Nat → Nat) (siz plc onn axs : Nat → Int32) (o_cnt o_wet o_stg o_dys : Int32) (o_dep : Nat → Int32) (o_knd : Nat → Nat) (o_siz o_plc o_onn o_axs : Nat → Int32) {r : Int32 × Int32 × Int32 × Int32 × (Nat → Int32) × (Nat → Nat) × (Nat → Int32) × (Nat → Int32) × (Nat → Int32) × (Nat → Int32)} (hF : f_X4_copyFrom dep knd siz plc onn axs o_cnt o_wet o_stg o_dys o_dep o_knd o_siz o_plc o_onn o_axs = some r) : CT l D (tysOf cI cC cB cQ) kc kt yX4_copyFrom cX4_copyFrom 3 none ({ frames := 2, cells := 0, slots := 0, locals := 101 } : Room) [.ref uh, .ref vh] (wLL cI cC cB cQ kc uh ud ub ua vh vd vb va cnt wet stg dys dep knd siz plc onn axs o_cnt o_wet o_stg o_dys o_dep o_knd o_siz o_plc o_onn o_axs) ((fun (r : Int32 × Int32 × Int32 × Int32 × (Nat → Int32) × (Nat → Nat) × (Nat → Int32) × (Nat → Int32) × (Nat → Int32) × (Nat → Int32)) => (wLL cI cC cB cQ kc uh ud ub ua vh vd vb va (r.1) (r.2.1) (r.2.2.1) (r.2.2.2.1) (r.2.2.2.2.1) (r.2.2.2.2.2.1) (r.2.2.2.2.2.2.1) (r.2.2.2.2.2.2.2.1) (r.2.2.2.2.2.2.2.2.1) (r.2.2.2.2.2.2.2.2.2) o_cnt o_wet o_stg o_dys o_dep o_knd o_siz o_plc o_onn o_axs)) r) ((fun (r : Int32 × Int32 × Int32 × Int32 × (Nat → Int32) × (Nat → Nat) × (Nat → Int32) × (Nat → Int32) × (Nat → Int32) × (Nat → Int32)) => none) r) := by
  refine CT.of (ww := (fun (r : Int32 × Int32 × Int32 × Int32 × (Nat → Int32) × (Nat → Nat) × (Nat → Int32) × (Nat → Int32) × (Nat → Int32) × (Nat → Int32)) => (wLL cI cC cB cQ kc uh ud ub ua vh vd vb va (r.1) (r.2.1) (r.2.2.1) (r.2.2.2.1) (r.2.2.2.2.1) (r.2.2.2.2.2.1) (r.2.2.2.2.2.2.1) (r.2.2.2.2.2.2.2.1) (r.2.2.2.2.2.2.2.2.1) (r.2.2.2.2.2.2.2.2.2) o_cnt o_wet o_stg o_dys o_dep o_knd o_siz o_plc o_onn o_axs))) (oo := (fun (r : Int32 × Int32 × Int32 × Int32 × (Nat → Int32) × (Nat → Nat) × (Nat → Int32) × (Nat → Int32) × (Nat → Int32) × (Nat → Int32)) => none)) hF RX4 rfl rfl (Nat.le_of_ble_eq_true rfl) ?_
  intro p e s m args below meth c A K hret hlk
  have L28 : ∀ (fu : Nat) (dep : Nat → Int32) (knd : Nat → Nat) (siz plc onn axs : Nat → Int32) (x2 : Int32), Sw (ρ := Int32 × Int32 × Int32 × Int32 × (Nat → Int32) × (Nat → Nat) × (Nat → Int32) × (Nat → Int32) × (Nat → Int32) × (Nat → Int32)) p l e ({ frames := 2, cells := 0, slots := 0, locals := 101 } : Room) s m args below meth c 0 0 D A 3 (fun r => MQ below (CQ D ((fun (r : Int32 × Int32 × Int32 × Int32 × (Nat → Int32) × (Nat → Nat) × (Nat → Int32) × (Nat → Int32) × (Nat → Int32) × (Nat → Int32)) => (wLL cI cC cB cQ kc uh ud ub ua vh vd vb va (r.1) (r.2.1) (r.2.2.1) (r.2.2.2.1) (r.2.2.2.2.1) (r.2.2.2.2.2.1) (r.2.2.2.2.2.2.1) (r.2.2.2.2.2.2.2.1) (r.2.2.2.2.2.2.2.2.1) (r.2.2.2.2.2.2.2.2.2) o_cnt o_wet o_stg o_dys o_dep o_knd o_siz o_plc o_onn o_axs)) r) ((fun (r : Int32 × Int32 × Int32 × Int32 × (Nat → Int32) × (Nat → Nat) × (Nat → Int32) × (Nat → Int32) × (Nat → Int32) × (Nat → Int32)) => none) r) A) args s 0 0 A) (f_X4_copyFrom_h28 o_cnt o_wet o_stg o_dys o_knd o_siz o_plc o_onn o_axs fu dep knd siz plc onn axs x2) (wLL cI cC cB cQ kc uh ud ub ua vh vd vb va cnt wet stg dys dep knd siz plc onn axs o_cnt o_wet o_stg o_dys o_dep o_knd o_siz o_plc o_onn o_axs) [(0, .ref uh), (1, .ref vh), (2, .int x2)] 28 [] := by
    intro  fu
    induction fu with
    | zero =>
      intro dep knd siz plc onn axs x2
      rewrite [f_X4_copyFrom_h28]
      exact s_none
    | succ fu ih =>
      intro dep knd siz plc onn axs x2
      rewrite [f_X4_copyFrom_h28]
      refine s_iload_n K dX4_copyFrom_28 rfl 2 rfl ?_
      refine s_iconst K dX4_copyFrom_29 kic_4 ?_
      refine s_icmp_ge (tgt := 54) K dX4_copyFrom_30 (by decide) (fun c_3 => ?_) (fun c_3 => ?_)
      · refine s_aload_n K dX4_copyFrom_54 rfl 0 rfl ?_
        refine s_aload_n K dX4_copyFrom_55 rfl 1 rfl ?_
        refine s_get K 8 rfl rfl inT4 2 (Nat.le_of_ble_eq_true rfl) t_71 rfl rfl dX4_copyFrom_56 ?_
        refine s_put (w' := (wLL cI cC cB cQ kc uh ud ub ua vh vd vb va o_cnt wet stg dys dep knd siz plc onn axs o_cnt o_wet o_stg o_dys o_dep o_knd o_siz o_plc o_onn o_axs)) K 0 rfl rfl inT4 tyX4_ok nmX4 2 (Nat.le_of_ble_eq_true rfl) t_71 rfl rfl rfl rfl (Nat.le_of_ble_eq_true rfl) rfl dX4_copyFrom_59 ?_
        refine s_aload_n K dX4_copyFrom_62 rfl 0 rfl ?_
        refine s_aload_n K dX4_copyFrom_63 rfl 1 rfl ?_
        refine s_get K 8 rfl rfl inT4 3 (Nat.le_of_ble_eq_true rfl) t_73 rfl rfl dX4_copyFrom_64 ?_
        refine s_put (w' := (wLL cI cC cB cQ kc uh ud ub ua vh vd vb va o_cnt o_wet stg dys dep knd siz plc onn axs o_cnt o_wet o_stg o_dys o_dep o_knd o_siz o_plc o_onn o_axs)) K 0 rfl rfl inT4 tyX4_ok nmX4 3 (Nat.le_of_ble_eq_true rfl) t_73 rfl rfl rfl rfl (Nat.le_of_ble_eq_true rfl) rfl dX4_copyFrom_67 ?_
        refine s_aload_n K dX4_copyFrom_70 rfl 0 rfl ?_
        refine s_aload_n K dX4_copyFrom_71 rfl 1 rfl ?_
        refine s_get K 8 rfl rfl inT4 4 (Nat.le_of_ble_eq_true rfl) t_75 rfl rfl dX4_copyFrom_72 ?_
        refine s_put (w' := (wLL cI cC cB cQ kc uh ud ub ua vh vd vb va o_cnt o_wet o_stg dys dep knd siz plc onn axs o_cnt o_wet o_stg o_dys o_dep o_knd o_siz o_plc o_onn o_axs)) K 0 rfl rfl inT4 tyX4_ok nmX4 4 (Nat.le_of_ble_eq_true rfl) t_75 rfl rfl rfl rfl (Nat.le_of_ble_eq_true rfl) rfl dX4_copyFrom_75 ?_
        refine s_aload_n K dX4_copyFrom_78 rfl 0 rfl ?_
        refine s_aload_n K dX4_copyFrom_79 rfl 1 rfl ?_
        refine s_get K 8 rfl rfl inT4 5 (Nat.le_of_ble_eq_true rfl) t_77 rfl rfl dX4_copyFrom_80 ?_
        refine s_put (w' := (wLL cI cC cB cQ kc uh ud ub ua vh vd vb va o_cnt o_wet o_stg o_dys dep knd siz plc onn axs o_cnt o_wet o_stg o_dys o_dep o_knd o_siz o_plc o_onn o_axs)) K 0 rfl rfl inT4 tyX4_ok nmX4 5 (Nat.le_of_ble_eq_true rfl) t_77 rfl rfl rfl rfl (Nat.le_of_ble_eq_true rfl) rfl dX4_copyFrom_83 ?_
        exact s_vret K hret hlk rfl rfl dX4_copyFrom_86
      · refine s_aload_n K dX4_copyFrom_33 rfl 0 rfl ?_
        refine s_get K 0 rfl rfl inT4 1 (Nat.le_of_ble_eq_true rfl) t_69 rfl rfl dX4_copyFrom_34 ?_
        refine s_iload_n K dX4_copyFrom_37 rfl 2 rfl ?_
        refine s_ck (fun ho_4 => ?_)
        refine s_aldb K 2 3 rfl rfl (ok_in ho_4) rfl dX4_copyFrom_38 ?_
        refine s_aload_n K dX4_copyFrom_39 rfl 1 rfl ?_
        refine s_get K 8 rfl rfl inT4 1 (Nat.le_of_ble_eq_true rfl) t_69 rfl rfl dX4_copyFrom_40 ?_
        refine s_iload_n K dX4_copyFrom_43 rfl 2 rfl ?_
        refine s_aldb K 10 3 rfl rfl (ok_in ho_4) rfl dX4_copyFrom_44 ?_
        refine s_bind (fun q hq_10 => ?_)
        obtain ⟨knd_5, siz_6, plc_7, onn_8, axs_9⟩ := q
        refine s_callV (w' := (wLL cI cC cB cQ kc uh ud ub ua vh vd vb va cnt wet stg dys dep knd_5 siz_6 plc_7 onn_8 axs_9 o_cnt o_wet o_stg o_dys o_dep o_knd o_siz o_plc o_onn o_axs)) (rest := []) (st1 := []) K (c_X1_copyFrom ua va knd siz plc onn axs o_knd o_siz o_plc o_onn o_axs (Int32.toNatClampNeg x2) (Int32.toNatClampNeg x2) (vp_lt (ok_in ho_4)) (vp_lt (ok_in ho_4)) hq_10) rfl hd_X1_copyFrom t_413 t_414 t_415 t_3 t_416 ⟨(Nat.le_of_ble_eq_true rfl), (Nat.le_of_ble_eq_true rfl)⟩ ⟨rfl, rfl⟩ ⟨Nat.zero_le _, Nat.zero_le _⟩ (rv_o K (3 + (Int32.toNatClampNeg x2)) (gLL_3 (vp_lt (ok_in ho_4))) rfl) [3, 4, 5, 6, 7, 11, 12, 13, 14, 15] [0, 1, 2, 8, 9, 10] [0, 1, 2, 6, 7, 8, 9, 10, 3, 4, 5, 11, 12, 13, 14, 15] rfl rfl rfl rfl (by decide) rfl rfl rfl rfl (Nat.le_of_ble_eq_true rfl) dX4_copyFrom_45 ?_
        refine s_iinc (lv' := [(2, .int (x2 + 1)), (0, .ref uh), (1, .ref vh)]) K dX4_copyFrom_48 2 rfl (kii_1 _) (Nat.le_of_ble_eq_true rfl) rfl ?_
        refine s_goto (tgt := 28) K dX4_copyFrom_51 (by decide) ?_
        refine s_lv (lv' := [(0, .ref uh), (1, .ref vh), (2, .int (x2 + 1))]) [1, 2, 0] rfl ?_
        exact ih dep knd_5 siz_6 plc_7 onn_8 axs_9 (x2 + 1)
  have L2 : ∀ (fu : Nat) (dep : Nat → Int32) (x2 : Int32), Sw (ρ := Int32 × Int32 × Int32 × Int32 × (Nat → Int32) × (Nat → Nat) × (Nat → Int32) × (Nat → Int32) × (Nat → Int32) × (Nat → Int32)) p l e ({ frames := 2, cells := 0, slots := 0, locals := 101 } : Room) s m args below meth c 0 0 D A 3 (fun r => MQ below (CQ D ((fun (r : Int32 × Int32 × Int32 × Int32 × (Nat → Int32) × (Nat → Nat) × (Nat → Int32) × (Nat → Int32) × (Nat → Int32) × (Nat → Int32)) => (wLL cI cC cB cQ kc uh ud ub ua vh vd vb va (r.1) (r.2.1) (r.2.2.1) (r.2.2.2.1) (r.2.2.2.2.1) (r.2.2.2.2.2.1) (r.2.2.2.2.2.2.1) (r.2.2.2.2.2.2.2.1) (r.2.2.2.2.2.2.2.2.1) (r.2.2.2.2.2.2.2.2.2) o_cnt o_wet o_stg o_dys o_dep o_knd o_siz o_plc o_onn o_axs)) r) ((fun (r : Int32 × Int32 × Int32 × Int32 × (Nat → Int32) × (Nat → Nat) × (Nat → Int32) × (Nat → Int32) × (Nat → Int32) × (Nat → Int32)) => none) r) A) args s 0 0 A) (f_X4_copyFrom_h2 knd siz plc onn axs o_cnt o_wet o_stg o_dys o_dep o_knd o_siz o_plc o_onn o_axs fu dep x2) (wLL cI cC cB cQ kc uh ud ub ua vh vd vb va cnt wet stg dys dep knd siz plc onn axs o_cnt o_wet o_stg o_dys o_dep o_knd o_siz o_plc o_onn o_axs) [(0, .ref uh), (1, .ref vh), (2, .int x2)] 2 [] := by
    intro  fu
    induction fu with
    | zero =>
      intro dep x2
      rewrite [f_X4_copyFrom_h2]
      exact s_none
    | succ fu ih =>
      intro dep x2
      rewrite [f_X4_copyFrom_h2]
      refine s_iload_n K dX4_copyFrom_2 rfl 2 rfl ?_
      refine s_bipush K dX4_copyFrom_3 kib_20 ?_
      refine s_icmp_ge (tgt := 26) K dX4_copyFrom_5 (by decide) (fun c_1 => ?_) (fun c_1 => ?_)
      · refine s_iconst K dX4_copyFrom_26 kic_0 ?_
        refine s_istore_n (lv' := [(2, .int 0), (0, .ref uh), (1, .ref vh)]) K dX4_copyFrom_27 rfl (Nat.le_of_ble_eq_true rfl) rfl ?_
        refine s_lv (lv' := [(0, .ref uh), (1, .ref vh), (2, .int 0)]) [1, 2, 0] rfl ?_
        exact L28 70 dep knd siz plc onn axs 0
      · refine s_aload_n K dX4_copyFrom_8 rfl 0 rfl ?_
        refine s_get K 0 rfl rfl inT4 0 (Nat.le_of_ble_eq_true rfl) t_67 rfl rfl dX4_copyFrom_9 ?_
        refine s_iload_n K dX4_copyFrom_12 rfl 2 rfl ?_
        refine s_aload_n K dX4_copyFrom_13 rfl 1 rfl ?_
        refine s_get K 8 rfl rfl inT4 0 (Nat.le_of_ble_eq_true rfl) t_67 rfl rfl dX4_copyFrom_14 ?_
        refine s_iload_n K dX4_copyFrom_17 rfl 2 rfl ?_
        refine s_ck (fun ho_2 => ?_)
        refine s_iald K 9 0 rfl rfl (ok_in ho_2) rfl dX4_copyFrom_18 ?_
        refine s_iast (w' := (wLL cI cC cB cQ kc uh ud ub ua vh vd vb va cnt wet stg dys (upd dep (Int32.toNatClampNeg x2) (o_dep (Int32.toNatClampNeg x2))) knd siz plc onn axs o_cnt o_wet o_stg o_dys o_dep o_knd o_siz o_plc o_onn o_axs)) K 1 0 rfl rfl (ok_in ho_2) rfl rfl dX4_copyFrom_19 ?_
        refine s_iinc (lv' := [(2, .int (x2 + 1)), (0, .ref uh), (1, .ref vh)]) K dX4_copyFrom_20 2 rfl (kii_1 _) (Nat.le_of_ble_eq_true rfl) rfl ?_
        refine s_goto (tgt := 2) K dX4_copyFrom_23 (by decide) ?_
        refine s_lv (lv' := [(0, .ref uh), (1, .ref vh), (2, .int (x2 + 1))]) [1, 2, 0] rfl ?_
        exact ih (upd dep (Int32.toNatClampNeg x2) (o_dep (Int32.toNatClampNeg x2))) (x2 + 1)
  rewrite [f_X4_copyFrom]
  refine s_iconst K dX4_copyFrom_0 kic_0 ?_
  refine s_istore_n (lv' := [(2, .int 0), (0, .ref uh), (1, .ref vh)]) K dX4_copyFrom_1 rfl (Nat.le_of_ble_eq_true rfl) rfl ?_
  refine s_lv (lv' := [(0, .ref uh), (1, .ref vh), (2, .int 0)]) [1, 2, 0] rfl ?_
  exact L2 70 dep 0
set_option maxHeartbeats 4000000 in
set_option maxRecDepth 100000 in
theorem cr_X7_explore_L {l : Launch} {D : va_G} {cI cC cB cQ : ClassId} {kc : Nat → Nat} {kt : Nat} : ∀ (d : Nat) (uh ud ub : Nat) (ua : Nat → Nat) (g : Nat) (cnt wet stg dys : Int32) (dep : Nat → Int32) (knd : Nat → Nat) (siz plc onn axs : Nat → Int32) (gsz gsd gfw : Int32) (a1 a3 a4 a5 : Int32) {r : (Nat → Int32) × (Nat → Int32) × (Nat → Int32) × (Nat → Int32) × (Nat → Int32) × Int32 × Int32 × Int32}, fr_X7_explore_L d cnt wet stg dys dep knd siz plc onn axs gsz gsd gfw a1 a3 a4 a5 = some r → CT l D (tysOf cI cC cB cQ) kc kt yX7_explore cX7_explore 13 none ({ frames := d + 20, cells := 0, slots := 0, locals := d * 100 + 1500 } : Room) [.ref uh, .int a1, .ref g, .int a3, .int a4, .int a5] (wLGL cI cC cB cQ kc uh ud ub ua g cnt wet stg dys dep knd siz plc onn axs gsz gsd gfw) ((fun (r : (Nat → Int32) × (Nat → Int32) × (Nat → Int32) × (Nat → Int32) × (Nat → Int32) × Int32 × Int32 × Int32) => (wLGL cI cC cB cQ kc uh ud ub ua g cnt wet stg dys (r.1) knd (r.2.1) (r.2.2.1) (r.2.2.2.1) (r.2.2.2.2.1) (r.2.2.2.2.2.1) (r.2.2.2.2.2.2.1) (r.2.2.2.2.2.2.2))) r) ((fun (r : (Nat → Int32) × (Nat → Int32) × (Nat → Int32) × (Nat → Int32) × (Nat → Int32) × Int32 × Int32 × Int32) => none) r) := by
  intro d
  induction d with
  | zero =>
    intro uh ud ub ua g cnt wet stg dys dep knd siz plc onn axs gsz gsd gfw a1 a3 a4 a5 r hF
    rewrite [fr_X7_explore_L] at hF
    cases hF
  | succ d ihr =>
    intro uh ud ub ua g cnt wet stg dys dep knd siz plc onn axs gsz gsd gfw a1 a3 a4 a5 r hF
    refine CT.of (ww := (fun (r : (Nat → Int32) × (Nat → Int32) × (Nat → Int32) × (Nat → Int32) × (Nat → Int32) × Int32 × Int32 × Int32) => (wLGL cI cC cB cQ kc uh ud ub ua g cnt wet stg dys (r.1) knd (r.2.1) (r.2.2.1) (r.2.2.2.1) (r.2.2.2.2.1) (r.2.2.2.2.2.1) (r.2.2.2.2.2.2.1) (r.2.2.2.2.2.2.2)))) (oo := (fun (r : (Nat → Int32) × (Nat → Int32) × (Nat → Int32) × (Nat → Int32) × (Nat → Int32) × Int32 × Int32 × Int32) => none)) hF RX7 rfl rfl (Nat.le_of_ble_eq_true rfl) ?_
    intro p e s m args below meth c A K hret hlk
    have L56 : ∀ (fu : Nat) (dep siz plc onn axs : Nat → Int32) (gsz gsd gfw x7 x8 x9 x10 : Int32), (Int32.toNatClampNeg a1) < 5 → Sw (ρ := (Nat → Int32) × (Nat → Int32) × (Nat → Int32) × (Nat → Int32) × (Nat → Int32) × Int32 × Int32 × Int32) p l e ({ frames := (d + 1) + 20, cells := 0, slots := 0, locals := (d + 1) * 100 + 1500 } : Room) s m args below meth c 0 0 D A 13 (fun r => MQ below (CQ D ((fun (r : (Nat → Int32) × (Nat → Int32) × (Nat → Int32) × (Nat → Int32) × (Nat → Int32) × Int32 × Int32 × Int32) => (wLGL cI cC cB cQ kc uh ud ub ua g cnt wet stg dys (r.1) knd (r.2.1) (r.2.2.1) (r.2.2.2.1) (r.2.2.2.2.1) (r.2.2.2.2.2.1) (r.2.2.2.2.2.2.1) (r.2.2.2.2.2.2.2))) r) ((fun (r : (Nat → Int32) × (Nat → Int32) × (Nat → Int32) × (Nat → Int32) × (Nat → Int32) × Int32 × Int32 × Int32) => none) r) A) args s 0 0 A) (f_X7_explore_L_h56 (fr_X7_explore_L d) cnt wet stg dys knd a1 a3 a4 a5 fu dep siz plc onn axs gsz gsd gfw x7 x8 x9 x10) (wLGL cI cC cB cQ kc uh ud ub ua g cnt wet stg dys dep knd siz plc onn axs gsz gsd gfw) [(0, .ref uh), (1, .int a1), (2, .ref g), (3, .int a3), (4, .int a4), (5, .int a5), (6, .ref (ua (Int32.toNatClampNeg a1))), (7, .int x7), (8, .int x8), (9, .int x9), (10, .int x10)] 56 [] := by
      intro  fu
      induction fu with
      | zero =>
        intro dep siz plc onn axs gsz gsd gfw x7 x8 x9 x10 hq6
        rewrite [f_X7_explore_L_h56]
        exact s_none
      | succ fu ih =>
        intro dep siz plc onn axs gsz gsd gfw x7 x8 x9 x10 hq6
        rewrite [f_X7_explore_L_h56]
        refine s_iload K dX7_explore_56 10 rfl ?_
        refine s_iconst K dX7_explore_58 kic_4 ?_
        refine s_icmp_ge (tgt := 169) K dX7_explore_59 (by decide) (fun c_8 => ?_) (fun c_8 => ?_)
        · exact s_vret K hret hlk rfl rfl dX7_explore_169
        · refine s_aload_n K dX7_explore_62 rfl 0 rfl ?_
          refine s_iload_n K dX7_explore_63 rfl 1 rfl ?_
          refine s_iload K dX7_explore_64 10 rfl ?_
          refine s_bind (fun q hq_10 => ?_)
          obtain ⟨r_9, rfl⟩ : ∃ z, z = q := ⟨_, rfl⟩
          refine s_callV (w' := (wLGL cI cC cB cQ kc uh ud ub ua g cnt wet stg dys dep knd siz plc onn axs gsz gsd gfw)) (rest := []) (st1 := [.int r_9]) K (c_X4_canRoll uh ud ub ua cnt wet stg dys dep knd siz plc onn axs a1 x10 hq_10) rfl hd_X4_canRoll t_302 t_303 t_304 t_2 t_305 ⟨by show 4 + 1 ≤ d + 1 + 20; omega, by show 8 + (5 + 11) + 224 ≤ (d + 1) * 100 + 1500; omega⟩ ⟨rfl, rfl⟩ ⟨Nat.zero_le _, Nat.zero_le _⟩ (rv_o K 0 rfl rfl) [0, 1, 2, 3, 4, 5, 6, 7] [8] [1, 2, 3, 4, 5, 6, 7, 8, 0] rfl rfl rfl rfl (by decide) rfl rfl rfl rfl (Nat.le_of_ble_eq_true rfl) dX7_explore_66 ?_
          refine s_if_ne (tgt := 75) K dX7_explore_69 (by decide) (fun c_11 => ?_) (fun c_11 => ?_)
          · refine s_goto (tgt := 163) K dX7_explore_72 (by decide) ?_
            refine s_iinc (lv' := [(10, .int (x10 + 1)), (0, .ref uh), (1, .int a1), (2, .ref g), (3, .int a3), (4, .int a4), (5, .int a5), (6, .ref (ua (Int32.toNatClampNeg a1))), (7, .int x7), (8, .int x8), (9, .int x9)]) K dX7_explore_163 10 rfl (kii_1 _) (Nat.le_of_ble_eq_true rfl) rfl ?_
            refine s_goto (tgt := 56) K dX7_explore_166 (by decide) ?_
            refine s_lv (lv' := [(0, .ref uh), (1, .int a1), (2, .ref g), (3, .int a3), (4, .int a4), (5, .int a5), (6, .ref (ua (Int32.toNatClampNeg a1))), (7, .int x7), (8, .int x8), (9, .int x9), (10, .int (x10 + 1))]) [1, 2, 3, 4, 5, 6, 7, 8, 9, 10, 0] rfl ?_
            exact ih dep siz plc onn axs gsz gsd gfw x7 x8 x9 (x10 + 1) hq6
          · refine s_iload K dX7_explore_75 7 rfl ?_
            refine s_iload K dX7_explore_77 10 rfl ?_
            refine s_bind (fun q hq_13 => ?_)
            obtain ⟨r_12, rfl⟩ : ∃ z, z = q := ⟨_, rfl⟩
            refine s_callS0 (rest := []) (st1 := [.int r_12]) K (c_X7_beside x7 x10 hq_13) hd_X7_beside t_374 t_327 t_1 t_328 ⟨by show 3 + 1 ≤ d + 1 + 20; omega, by show 8 + (3 + 11) + 162 ≤ (d + 1) * 100 + 1500; omega⟩ ⟨rfl, rfl⟩ ⟨Nat.zero_le _, Nat.zero_le _⟩ rfl rfl (Nat.le_of_ble_eq_true rfl) dX7_explore_79 ?_
            refine s_istore (lv' := [(11, .int r_12), (0, .ref uh), (1, .int a1), (2, .ref g), (3, .int a3), (4, .int a4), (5, .int a5), (6, .ref (ua (Int32.toNatClampNeg a1))), (7, .int x7), (8, .int x8), (9, .int x9), (10, .int x10)]) K dX7_explore_82 (Nat.le_of_ble_eq_true rfl) rfl ?_
            refine s_iload K dX7_explore_84 0 rfl ?_
            refine s_iconst K dX7_explore_86 kic_m1 ?_
            refine s_icmp_ne (tgt := 93) K dX7_explore_87 (by decide) (fun c_14 => ?_) (fun c_14 => ?_)
            · refine s_goto (tgt := 163) K dX7_explore_90 (by decide) ?_
              refine s_iinc (lv' := [(10, .int (x10 + 1)), (11, .int r_12), (0, .ref uh), (1, .int a1), (2, .ref g), (3, .int a3), (4, .int a4), (5, .int a5), (6, .ref (ua (Int32.toNatClampNeg a1))), (7, .int x7), (8, .int x8), (9, .int x9)]) K dX7_explore_163 11 rfl (kii_1 _) (Nat.le_of_ble_eq_true rfl) rfl ?_
              refine s_goto (tgt := 56) K dX7_explore_166 (by decide) ?_
              refine s_lv (lv' := [(0, .ref uh), (1, .int a1), (2, .ref g), (3, .int a3), (4, .int a4), (5, .int a5), (6, .ref (ua (Int32.toNatClampNeg a1))), (7, .int x7), (8, .int x8), (9, .int x9), (10, .int (x10 + 1))]) [2, 3, 4, 5, 6, 7, 8, 9, 10, 11, 0] rfl ?_
              exact ih dep siz plc onn axs gsz gsd gfw x7 x8 x9 (x10 + 1) hq6
            · refine s_aload_n K dX7_explore_93 rfl 1 rfl ?_
              refine s_get K 0 rfl rfl inT4 0 (Nat.le_of_ble_eq_true rfl) t_68 rfl rfl dX7_explore_94 ?_
              refine s_iload K dX7_explore_97 0 rfl ?_
              refine s_ck (fun ho_15 => ?_)
              refine s_iald K 1 0 rfl rfl (ok_in ho_15) rfl dX7_explore_99 ?_
              refine s_istore (lv' := [(12, .int (dep (Int32.toNatClampNeg r_12))), (11, .int r_12), (0, .ref uh), (1, .int a1), (2, .ref g), (3, .int a3), (4, .int a4), (5, .int a5), (6, .ref (ua (Int32.toNatClampNeg a1))), (7, .int x7), (8, .int x8), (9, .int x9), (10, .int x10)]) K dX7_explore_100 (Nat.le_of_ble_eq_true rfl) rfl ?_
              refine s_aload_n K dX7_explore_102 rfl 2 rfl ?_
              refine s_iload_n K dX7_explore_103 rfl 3 rfl ?_
              refine s_iload K dX7_explore_104 12 rfl ?_
              refine s_bind (fun q hq_22 => ?_)
              obtain ⟨r_16, dep_17, siz_18, plc_19, onn_20, axs_21⟩ := q
              refine s_callV (w' := (wLGL cI cC cB cQ kc uh ud ub ua g cnt wet stg dys dep_17 knd siz_18 plc_19 onn_20 axs_21 gsz gsd gfw)) (rest := []) (st1 := [.int r_16]) K (c_X4_push uh ud ub ua cnt wet stg dys dep knd siz plc onn axs a1 x10 hq_22) rfl hd_X4_push t_334 t_335 t_336 t_2 t_337 ⟨by show 4 + 1 ≤ d + 1 + 20; omega, by show 8 + (6 + 11) + 224 ≤ (d + 1) * 100 + 1500; omega⟩ ⟨rfl, rfl⟩ ⟨Nat.zero_le _, Nat.zero_le _⟩ (rv_o K 0 rfl rfl) [0, 1, 2, 3, 4, 5, 6, 7] [8] [1, 2, 3, 4, 5, 6, 7, 8, 0] rfl rfl rfl rfl (by decide) rfl rfl rfl rfl (Nat.le_of_ble_eq_true rfl) dX7_explore_106 ?_
              refine s_pop K dX7_explore_109 rfl ?_
              refine s_aload_n K dX7_explore_110 rfl 2 rfl ?_
              refine s_iload_n K dX7_explore_111 rfl 3 rfl ?_
              refine s_aload_n K dX7_explore_112 rfl 4 rfl ?_
              refine s_iload_n K dX7_explore_113 rfl 5 rfl ?_
              refine s_iload K dX7_explore_114 6 rfl ?_
              refine s_iconst K dX7_explore_116 kic_1 ?_
              refine s_iadd K dX7_explore_117 ?_
              refine s_iload K dX7_explore_118 6 rfl ?_
              refine s_if_ne (tgt := 128) K dX7_explore_120 (by decide) (fun c_23 => ?_) (fun c_23 => ?_)
              · refine s_iload K dX7_explore_123 12 rfl ?_
                refine s_goto (tgt := 130) K dX7_explore_125 (by decide) ?_
                refine s_bind (fun q hq_32 => ?_)
                obtain ⟨dep_24, siz_25, plc_26, onn_27, axs_28, gsz_29, gsd_30, gfw_31⟩ := q
                refine s_callS (w' := (wLGL cI cC cB cQ kc uh ud ub ua g cnt wet stg dys dep_24 knd siz_25 plc_26 onn_27 axs_28 gsz_29 gsd_30 gfw_31)) (rest := []) (st1 := []) K (ihr uh ud ub ua g cnt wet stg dys dep_17 knd siz_18 plc_19 onn_20 axs_21 gsz gsd gfw a1 a3 (a4 + 1) x10 hq_32) hd_X7_explore t_417 t_418 t_1 t_419 ⟨by show d + 20 + 1 ≤ d + 1 + 20; omega, by show 8 + (13 + 11) + (d * 100 + 1500) ≤ (d + 1) * 100 + 1500; omega⟩ ⟨rfl, rfl⟩ ⟨Nat.zero_le _, Nat.zero_le _⟩ [0, 1, 2, 3, 4, 5, 6, 7, 8] [] [0, 1, 2, 3, 4, 5, 6, 7, 8] rfl rfl rfl rfl (by decide) rfl rfl rfl rfl (Nat.le_of_ble_eq_true rfl) dX7_explore_130 ?_
                refine s_aload_n K dX7_explore_133 rfl 2 rfl ?_
                refine s_get K 0 rfl rfl inT4 0 (Nat.le_of_ble_eq_true rfl) t_68 rfl rfl dX7_explore_134 ?_
                refine s_iload K dX7_explore_137 1 rfl ?_
                refine s_iload K dX7_explore_139 0 rfl ?_
                refine s_iast (w' := (wLGL cI cC cB cQ kc uh ud ub ua g cnt wet stg dys (upd dep_24 (Int32.toNatClampNeg r_12) (dep (Int32.toNatClampNeg r_12))) knd siz_25 plc_26 onn_27 axs_28 gsz_29 gsd_30 gfw_31)) K 1 0 rfl rfl (ok_in ho_15) rfl rfl dX7_explore_141 ?_
                refine s_aload K dX7_explore_142 8 rfl ?_
                refine s_iload K dX7_explore_144 9 rfl ?_
                refine s_put (w' := (wLGL cI cC cB cQ kc uh ud ub ua g cnt wet stg dys (upd dep_24 (Int32.toNatClampNeg r_12) (dep (Int32.toNatClampNeg r_12))) knd siz_25 (upd plc_26 (Int32.toNatClampNeg a1) x7) onn_27 axs_28 gsz_29 gsd_30 gfw_31)) K (3 + (Int32.toNatClampNeg a1)) (gLGL_3 hq6) rfl inT1 tyX1_ok nmX1 2 (Nat.le_of_ble_eq_true rfl) t_47 rfl rfl rfl rfl (Nat.le_of_ble_eq_true rfl) (pLGL_3_2 hq6 _) dX7_explore_146 ?_
                refine s_aload K dX7_explore_149 8 rfl ?_
                refine s_iload K dX7_explore_151 10 rfl ?_
                refine s_put (w' := (wLGL cI cC cB cQ kc uh ud ub ua g cnt wet stg dys (upd dep_24 (Int32.toNatClampNeg r_12) (dep (Int32.toNatClampNeg r_12))) knd (upd siz_25 (Int32.toNatClampNeg a1) x8) (upd plc_26 (Int32.toNatClampNeg a1) x7) onn_27 axs_28 gsz_29 gsd_30 gfw_31)) K (3 + (Int32.toNatClampNeg a1)) (gLGL_3 hq6) rfl inT1 tyX1_ok nmX1 1 (Nat.le_of_ble_eq_true rfl) t_43 rfl rfl rfl rfl (Nat.le_of_ble_eq_true rfl) (pLGL_3_1 hq6 _) dX7_explore_153 ?_
                refine s_aload K dX7_explore_156 8 rfl ?_
                refine s_iload K dX7_explore_158 11 rfl ?_
                refine s_put (w' := (wLGL cI cC cB cQ kc uh ud ub ua g cnt wet stg dys (upd dep_24 (Int32.toNatClampNeg r_12) (dep (Int32.toNatClampNeg r_12))) knd (upd siz_25 (Int32.toNatClampNeg a1) x8) (upd plc_26 (Int32.toNatClampNeg a1) x7) onn_27 (upd axs_28 (Int32.toNatClampNeg a1) x9) gsz_29 gsd_30 gfw_31)) K (3 + (Int32.toNatClampNeg a1)) (gLGL_3 hq6) rfl inT1 tyX1_ok nmX1 4 (Nat.le_of_ble_eq_true rfl) t_52 rfl rfl rfl rfl (Nat.le_of_ble_eq_true rfl) (pLGL_3_4 hq6 _) dX7_explore_160 ?_
                refine s_iinc (lv' := [(10, .int (x10 + 1)), (12, .int (dep (Int32.toNatClampNeg r_12))), (11, .int r_12), (0, .ref uh), (1, .int a1), (2, .ref g), (3, .int a3), (4, .int a4), (5, .int a5), (6, .ref (ua (Int32.toNatClampNeg a1))), (7, .int x7), (8, .int x8), (9, .int x9)]) K dX7_explore_163 12 rfl (kii_1 _) (Nat.le_of_ble_eq_true rfl) rfl ?_
                refine s_goto (tgt := 56) K dX7_explore_166 (by decide) ?_
                refine s_lv (lv' := [(0, .ref uh), (1, .int a1), (2, .ref g), (3, .int a3), (4, .int a4), (5, .int a5), (6, .ref (ua (Int32.toNatClampNeg a1))), (7, .int x7), (8, .int x8), (9, .int x9), (10, .int (x10 + 1))]) [3, 4, 5, 6, 7, 8, 9, 10, 11, 12, 0] rfl ?_
                exact ih (upd dep_24 (Int32.toNatClampNeg r_12) (dep (Int32.toNatClampNeg r_12))) (upd siz_25 (Int32.toNatClampNeg a1) x8) (upd plc_26 (Int32.toNatClampNeg a1) x7) onn_27 (upd axs_28 (Int32.toNatClampNeg a1) x9) gsz_29 gsd_30 gfw_31 x7 x8 x9 (x10 + 1) hq6
              · refine s_iload K dX7_explore_128 7 rfl ?_
                refine s_bind (fun q hq_41 => ?_)
                obtain ⟨dep_33, siz_34, plc_35, onn_36, axs_37, gsz_38, gsd_39, gfw_40⟩ := q
                refine s_callS (w' := (wLGL cI cC cB cQ kc uh ud ub ua g cnt wet stg dys dep_33 knd siz_34 plc_35 onn_36 axs_37 gsz_38 gsd_39 gfw_40)) (rest := []) (st1 := []) K (ihr uh ud ub ua g cnt wet stg dys dep_17 knd siz_18 plc_19 onn_20 axs_21 gsz gsd gfw a1 a3 (a4 + 1) a5 hq_41) hd_X7_explore t_417 t_418 t_1 t_419 ⟨by show d + 20 + 1 ≤ d + 1 + 20; omega, by show 8 + (13 + 11) + (d * 100 + 1500) ≤ (d + 1) * 100 + 1500; omega⟩ ⟨rfl, rfl⟩ ⟨Nat.zero_le _, Nat.zero_le _⟩ [0, 1, 2, 3, 4, 5, 6, 7, 8] [] [0, 1, 2, 3, 4, 5, 6, 7, 8] rfl rfl rfl rfl (by decide) rfl rfl rfl rfl (Nat.le_of_ble_eq_true rfl) dX7_explore_130 ?_
                refine s_aload_n K dX7_explore_133 rfl 2 rfl ?_
                refine s_get K 0 rfl rfl inT4 0 (Nat.le_of_ble_eq_true rfl) t_68 rfl rfl dX7_explore_134 ?_
                refine s_iload K dX7_explore_137 1 rfl ?_
                refine s_iload K dX7_explore_139 0 rfl ?_
                refine s_iast (w' := (wLGL cI cC cB cQ kc uh ud ub ua g cnt wet stg dys (upd dep_33 (Int32.toNatClampNeg r_12) (dep (Int32.toNatClampNeg r_12))) knd siz_34 plc_35 onn_36 axs_37 gsz_38 gsd_39 gfw_40)) K 1 0 rfl rfl (ok_in ho_15) rfl rfl dX7_explore_141 ?_
                refine s_aload K dX7_explore_142 8 rfl ?_
                refine s_iload K dX7_explore_144 9 rfl ?_
                refine s_put (w' := (wLGL cI cC cB cQ kc uh ud ub ua g cnt wet stg dys (upd dep_33 (Int32.toNatClampNeg r_12) (dep (Int32.toNatClampNeg r_12))) knd siz_34 (upd plc_35 (Int32.toNatClampNeg a1) x7) onn_36 axs_37 gsz_38 gsd_39 gfw_40)) K (3 + (Int32.toNatClampNeg a1)) (gLGL_3 hq6) rfl inT1 tyX1_ok nmX1 2 (Nat.le_of_ble_eq_true rfl) t_47 rfl rfl rfl rfl (Nat.le_of_ble_eq_true rfl) (pLGL_3_2 hq6 _) dX7_explore_146 ?_
                refine s_aload K dX7_explore_149 8 rfl ?_
                refine s_iload K dX7_explore_151 10 rfl ?_
                refine s_put (w' := (wLGL cI cC cB cQ kc uh ud ub ua g cnt wet stg dys (upd dep_33 (Int32.toNatClampNeg r_12) (dep (Int32.toNatClampNeg r_12))) knd (upd siz_34 (Int32.toNatClampNeg a1) x8) (upd plc_35 (Int32.toNatClampNeg a1) x7) onn_36 axs_37 gsz_38 gsd_39 gfw_40)) K (3 + (Int32.toNatClampNeg a1)) (gLGL_3 hq6) rfl inT1 tyX1_ok nmX1 1 (Nat.le_of_ble_eq_true rfl) t_43 rfl rfl rfl rfl (Nat.le_of_ble_eq_true rfl) (pLGL_3_1 hq6 _) dX7_explore_153 ?_
                refine s_aload K dX7_explore_156 8 rfl ?_
                refine s_iload K dX7_explore_158 11 rfl ?_
                refine s_put (w' := (wLGL cI cC cB cQ kc uh ud ub ua g cnt wet stg dys (upd dep_33 (Int32.toNatClampNeg r_12) (dep (Int32.toNatClampNeg r_12))) knd (upd siz_34 (Int32.toNatClampNeg a1) x8) (upd plc_35 (Int32.toNatClampNeg a1) x7) onn_36 (upd axs_37 (Int32.toNatClampNeg a1) x9) gsz_38 gsd_39 gfw_40)) K (3 + (Int32.toNatClampNeg a1)) (gLGL_3 hq6) rfl inT1 tyX1_ok nmX1 4 (Nat.le_of_ble_eq_true rfl) t_52 rfl rfl rfl rfl (Nat.le_of_ble_eq_true rfl) (pLGL_3_4 hq6 _) dX7_explore_160 ?_
                refine s_iinc (lv' := [(10, .int (x10 + 1)), (12, .int (dep (Int32.toNatClampNeg r_12))), (11, .int r_12), (0, .ref uh), (1, .int a1), (2, .ref g), (3, .int a3), (4, .int a4), (5, .int a5), (6, .ref (ua (Int32.toNatClampNeg a1))), (7, .int x7), (8, .int x8), (9, .int x9)]) K dX7_explore_163 12 rfl (kii_1 _) (Nat.le_of_ble_eq_true rfl) rfl ?_
                refine s_goto (tgt := 56) K dX7_explore_166 (by decide) ?_
                refine s_lv (lv' := [(0, .ref uh), (1, .int a1), (2, .ref g), (3, .int a3), (4, .int a4), (5, .int a5), (6, .ref (ua (Int32.toNatClampNeg a1))), (7, .int x7), (8, .int x8), (9, .int x9), (10, .int (x10 + 1))]) [3, 4, 5, 6, 7, 8, 9, 10, 11, 12, 0] rfl ?_
                exact ih (upd dep_33 (Int32.toNatClampNeg r_12) (dep (Int32.toNatClampNeg r_12))) (upd siz_34 (Int32.toNatClampNeg a1) x8) (upd plc_35 (Int32.toNatClampNeg a1) x7) onn_36 (upd axs_37 (Int32.toNatClampNeg a1) x9) gsz_38 gsd_39 gfw_40 x7 x8 x9 (x10 + 1) hq6
    rewrite [fr_X7_explore_L]
    refine s_aload_n K dX7_explore_0 rfl 0 rfl ?_
    refine s_get K 0 rfl rfl inT4 1 (Nat.le_of_ble_eq_true rfl) t_70 rfl rfl dX7_explore_1 ?_
    refine s_iload_n K dX7_explore_4 rfl 1 rfl ?_
    refine s_ck (fun ho_1 => ?_)
    refine s_aldb K 2 3 rfl rfl (ok_in ho_1) rfl dX7_explore_5 ?_
    refine s_astore (lv' := [(6, .ref (ua (Int32.toNatClampNeg a1))), (0, .ref uh), (1, .int a1), (2, .ref g), (3, .int a3), (4, .int a4), (5, .int a5)]) K dX7_explore_6 (Nat.le_of_ble_eq_true rfl) rfl ?_
    refine s_aload_n K dX7_explore_8 rfl 3 rfl ?_
    refine s_aload K dX7_explore_9 0 rfl ?_
    refine s_iload K dX7_explore_11 5 rfl ?_
    refine s_iload K dX7_explore_13 6 rfl ?_
    refine s_bind (fun q hq_5 => ?_)
    obtain ⟨gsz_2, gsd_3, gfw_4⟩ := q
    refine s_callU (x := ⟨"SnowBalls$Search", "meet", "(LSnowBalls$Ball;II)V"⟩) (owner := "SnowBalls$Search") (w' := (wLGL cI cC cB cQ kc uh ud ub ua g cnt wet stg dys dep knd siz plc onn axs gsz_2 gsd_3 gfw_4)) (rest := []) (st1 := []) K (c_X3_meet g ua gsz gsd gfw knd siz plc onn axs a4 a5 (Int32.toNatClampNeg a1) (vp_lt (ok_in ho_1)) hq_5) K.2.2.2.2.2.2.2.2 hd_meet t_420 t_422 t_427 t_426 t_7 t_428 ⟨by show 1 + 1 ≤ d + 1 + 20; omega, by show 8 + (4 + 11) + 40 ≤ (d + 1) * 100 + 1500; omega⟩ ⟨rfl, rfl⟩ ⟨Nat.zero_le _, Nat.zero_le _⟩ (rv_o K 8 rfl rfl) [8, 3, 4, 5, 6, 7] [0, 1, 2] [0, 1, 2, 4, 5, 6, 7, 8, 3] rfl rfl rfl rfl (by decide) rfl rfl rfl rfl (Nat.le_of_ble_eq_true rfl) dX7_explore_15 ?_
    refine s_iload K dX7_explore_18 5 rfl ?_
    refine s_iload_n K dX7_explore_20 rfl 4 rfl ?_
    refine s_icmp_ge (tgt := 31) K dX7_explore_21 (by decide) (fun c_6 => ?_) (fun c_6 => ?_)
    · exact s_vret K hret hlk rfl rfl dX7_explore_31
    · refine s_iload K dX7_explore_24 5 rfl ?_
      refine s_bipush K dX7_explore_26 kib_6 ?_
      refine s_icmp_lt (tgt := 32) K dX7_explore_28 (by decide) (fun c_7 => ?_) (fun c_7 => ?_)
      · refine s_aload K dX7_explore_32 0 rfl ?_
        refine s_get K (3 + (Int32.toNatClampNeg a1)) (gLGL_3 (vp_lt (ok_in ho_1))) rfl inT1 2 (Nat.le_of_ble_eq_true rfl) t_47 rfl rfl dX7_explore_34 ?_
        refine s_istore (lv' := [(7, .int (plc (Int32.toNatClampNeg a1))), (6, .ref (ua (Int32.toNatClampNeg a1))), (0, .ref uh), (1, .int a1), (2, .ref g), (3, .int a3), (4, .int a4), (5, .int a5)]) K dX7_explore_37 (Nat.le_of_ble_eq_true rfl) rfl ?_
        refine s_aload K dX7_explore_39 1 rfl ?_
        refine s_get K (3 + (Int32.toNatClampNeg a1)) (gLGL_3 (vp_lt (ok_in ho_1))) rfl inT1 1 (Nat.le_of_ble_eq_true rfl) t_43 rfl rfl dX7_explore_41 ?_
        refine s_istore (lv' := [(8, .int (siz (Int32.toNatClampNeg a1))), (7, .int (plc (Int32.toNatClampNeg a1))), (6, .ref (ua (Int32.toNatClampNeg a1))), (0, .ref uh), (1, .int a1), (2, .ref g), (3, .int a3), (4, .int a4), (5, .int a5)]) K dX7_explore_44 (Nat.le_of_ble_eq_true rfl) rfl ?_
        refine s_aload K dX7_explore_46 2 rfl ?_
        refine s_get K (3 + (Int32.toNatClampNeg a1)) (gLGL_3 (vp_lt (ok_in ho_1))) rfl inT1 4 (Nat.le_of_ble_eq_true rfl) t_52 rfl rfl dX7_explore_48 ?_
        refine s_istore (lv' := [(9, .int (axs (Int32.toNatClampNeg a1))), (8, .int (siz (Int32.toNatClampNeg a1))), (7, .int (plc (Int32.toNatClampNeg a1))), (6, .ref (ua (Int32.toNatClampNeg a1))), (0, .ref uh), (1, .int a1), (2, .ref g), (3, .int a3), (4, .int a4), (5, .int a5)]) K dX7_explore_51 (Nat.le_of_ble_eq_true rfl) rfl ?_
        refine s_iconst K dX7_explore_53 kic_0 ?_
        refine s_istore (lv' := [(10, .int 0), (9, .int (axs (Int32.toNatClampNeg a1))), (8, .int (siz (Int32.toNatClampNeg a1))), (7, .int (plc (Int32.toNatClampNeg a1))), (6, .ref (ua (Int32.toNatClampNeg a1))), (0, .ref uh), (1, .int a1), (2, .ref g), (3, .int a3), (4, .int a4), (5, .int a5)]) K dX7_explore_54 (Nat.le_of_ble_eq_true rfl) rfl ?_
        refine s_lv (lv' := [(0, .ref uh), (1, .int a1), (2, .ref g), (3, .int a3), (4, .int a4), (5, .int a5), (6, .ref (ua (Int32.toNatClampNeg a1))), (7, .int (plc (Int32.toNatClampNeg a1))), (8, .int (siz (Int32.toNatClampNeg a1))), (9, .int (axs (Int32.toNatClampNeg a1))), (10, .int 0)]) [5, 6, 7, 8, 9, 10, 4, 3, 2, 1, 0] rfl ?_
        exact L56 70 dep siz plc onn axs gsz_2 gsd_3 gfw_4 (plc (Int32.toNatClampNeg a1)) (siz (Int32.toNatClampNeg a1)) (axs (Int32.toNatClampNeg a1)) 0 (vp_lt (ok_in ho_1))
      · exact s_vret K hret hlk rfl rfl dX7_explore_31
theorem c_X7_explore_L {l : Launch} {D : va_G} {cI cC cB cQ : ClassId} {kc : Nat → Nat} {kt : Nat} (uh ud ub : Nat) (ua : Nat → Nat) (g : Nat) (cnt wet stg dys : Int32) (dep : Nat → Int32) (knd : Nat → Nat) (siz plc onn axs : Nat → Int32) (gsz gsd gfw : Int32) (a1 a3 a4 a5 : Int32) {r : (Nat → Int32) × (Nat → Int32) × (Nat → Int32) × (Nat → Int32) × (Nat → Int32) × Int32 × Int32 × Int32} (hF : fr_X7_explore_L 7 cnt wet stg dys dep knd siz plc onn axs gsz gsd gfw a1 a3 a4 a5 = some r) : CT l D (tysOf cI cC cB cQ) kc kt yX7_explore cX7_explore 13 none ({ frames := 27, cells := 0, slots := 0, locals := 2200 } : Room) [.ref uh, .int a1, .ref g, .int a3, .int a4, .int a5] (wLGL cI cC cB cQ kc uh ud ub ua g cnt wet stg dys dep knd siz plc onn axs gsz gsd gfw) ((fun (r : (Nat → Int32) × (Nat → Int32) × (Nat → Int32) × (Nat → Int32) × (Nat → Int32) × Int32 × Int32 × Int32) => (wLGL cI cC cB cQ kc uh ud ub ua g cnt wet stg dys (r.1) knd (r.2.1) (r.2.2.1) (r.2.2.2.1) (r.2.2.2.2.1) (r.2.2.2.2.2.1) (r.2.2.2.2.2.2.1) (r.2.2.2.2.2.2.2))) r) ((fun (r : (Nat → Int32) × (Nat → Int32) × (Nat → Int32) × (Nat → Int32) × (Nat → Int32) × Int32 × Int32 × Int32) => none) r) := cr_X7_explore_L 7 uh ud ub ua g cnt wet stg dys dep knd siz plc onn axs gsz gsd gfw a1 a3 a4 a5 hF
set_option maxHeartbeats 4000000 in
set_option maxRecDepth 100000 in
theorem cr_X7_explore_A {l : Launch} {D : va_G} {cI cC cB cQ : ClassId} {kc : Nat → Nat} {kt : Nat} : ∀ (d : Nat) (uh ud ub : Nat) (ua : Nat → Nat) (g : Nat) (cnt wet stg dys : Int32) (dep : Nat → Int32) (knd : Nat → Nat) (siz plc onn axs : Nat → Int32) (gfw gtg : Int32) (a1 a3 a4 a5 : Int32) {r : (Nat → Int32) × (Nat → Int32) × (Nat → Int32) × (Nat → Int32) × (Nat → Int32) × Int32}, fr_X7_explore_A d cnt wet stg dys dep knd siz plc onn axs gfw gtg a1 a3 a4 a5 = some r → CT l D (tysOf cI cC cB cQ) kc kt yX7_explore cX7_explore 13 none ({ frames := d + 20, cells := 0, slots := 0, locals := d * 100 + 1500 } : Room) [.ref uh, .int a1, .ref g, .int a3, .int a4, .int a5] (wLGA cI cC cB cQ kc uh ud ub ua g cnt wet stg dys dep knd siz plc onn axs gfw gtg) ((fun (r : (Nat → Int32) × (Nat → Int32) × (Nat → Int32) × (Nat → Int32) × (Nat → Int32) × Int32) => (wLGA cI cC cB cQ kc uh ud ub ua g cnt wet stg dys (r.1) knd (r.2.1) (r.2.2.1) (r.2.2.2.1) (r.2.2.2.2.1) (r.2.2.2.2.2) gtg)) r) ((fun (r : (Nat → Int32) × (Nat → Int32) × (Nat → Int32) × (Nat → Int32) × (Nat → Int32) × Int32) => none) r) := by
  intro d
  induction d with
  | zero =>
    intro uh ud ub ua g cnt wet stg dys dep knd siz plc onn axs gfw gtg a1 a3 a4 a5 r hF
    rewrite [fr_X7_explore_A] at hF
    cases hF
  | succ d ihr =>
    intro uh ud ub ua g cnt wet stg dys dep knd siz plc onn axs gfw gtg a1 a3 a4 a5 r hF
    refine CT.of (ww := (fun (r : (Nat → Int32) × (Nat → Int32) × (Nat → Int32) × (Nat → Int32) × (Nat → Int32) × Int32) => (wLGA cI cC cB cQ kc uh ud ub ua g cnt wet stg dys (r.1) knd (r.2.1) (r.2.2.1) (r.2.2.2.1) (r.2.2.2.2.1) (r.2.2.2.2.2) gtg))) (oo := (fun (r : (Nat → Int32) × (Nat → Int32) × (Nat → Int32) × (Nat → Int32) × (Nat → Int32) × Int32) => none)) hF RX7 rfl rfl (Nat.le_of_ble_eq_true rfl) ?_
    intro p e s m args below meth c A K hret hlk
    have L56 : ∀ (fu : Nat) (dep siz plc onn axs : Nat → Int32) (gfw x7 x8 x9 x10 : Int32), (Int32.toNatClampNeg a1) < 5 → Sw (ρ := (Nat → Int32) × (Nat → Int32) × (Nat → Int32) × (Nat → Int32) × (Nat → Int32) × Int32) p l e ({ frames := (d + 1) + 20, cells := 0, slots := 0, locals := (d + 1) * 100 + 1500 } : Room) s m args below meth c 0 0 D A 13 (fun r => MQ below (CQ D ((fun (r : (Nat → Int32) × (Nat → Int32) × (Nat → Int32) × (Nat → Int32) × (Nat → Int32) × Int32) => (wLGA cI cC cB cQ kc uh ud ub ua g cnt wet stg dys (r.1) knd (r.2.1) (r.2.2.1) (r.2.2.2.1) (r.2.2.2.2.1) (r.2.2.2.2.2) gtg)) r) ((fun (r : (Nat → Int32) × (Nat → Int32) × (Nat → Int32) × (Nat → Int32) × (Nat → Int32) × Int32) => none) r) A) args s 0 0 A) (f_X7_explore_A_h56 (fr_X7_explore_A d) cnt wet stg dys knd gtg a1 a3 a4 a5 fu dep siz plc onn axs gfw x7 x8 x9 x10) (wLGA cI cC cB cQ kc uh ud ub ua g cnt wet stg dys dep knd siz plc onn axs gfw gtg) [(0, .ref uh), (1, .int a1), (2, .ref g), (3, .int a3), (4, .int a4), (5, .int a5), (6, .ref (ua (Int32.toNatClampNeg a1))), (7, .int x7), (8, .int x8), (9, .int x9), (10, .int x10)] 56 [] := by
      intro  fu
      induction fu with
      | zero =>
        intro dep siz plc onn axs gfw x7 x8 x9 x10 hq6
        rewrite [f_X7_explore_A_h56]
        exact s_none
      | succ fu ih =>
        intro dep siz plc onn axs gfw x7 x8 x9 x10 hq6
        rewrite [f_X7_explore_A_h56]
        refine s_iload K dX7_explore_56 10 rfl ?_
        refine s_iconst K dX7_explore_58 kic_4 ?_
        refine s_icmp_ge (tgt := 169) K dX7_explore_59 (by decide) (fun c_6 => ?_) (fun c_6 => ?_)
        · exact s_vret K hret hlk rfl rfl dX7_explore_169
        · refine s_aload_n K dX7_explore_62 rfl 0 rfl ?_
          refine s_iload_n K dX7_explore_63 rfl 1 rfl ?_
          refine s_iload K dX7_explore_64 10 rfl ?_
          refine s_bind (fun q hq_8 => ?_)
          obtain ⟨r_7, rfl⟩ : ∃ z, z = q := ⟨_, rfl⟩
          refine s_callV (w' := (wLGA cI cC cB cQ kc uh ud ub ua g cnt wet stg dys dep knd siz plc onn axs gfw gtg)) (rest := []) (st1 := [.int r_7]) K (c_X4_canRoll uh ud ub ua cnt wet stg dys dep knd siz plc onn axs a1 x10 hq_8) rfl hd_X4_canRoll t_302 t_303 t_304 t_2 t_305 ⟨by show 4 + 1 ≤ d + 1 + 20; omega, by show 8 + (5 + 11) + 224 ≤ (d + 1) * 100 + 1500; omega⟩ ⟨rfl, rfl⟩ ⟨Nat.zero_le _, Nat.zero_le _⟩ (rv_o K 0 rfl rfl) [0, 1, 2, 3, 4, 5, 6, 7] [8] [1, 2, 3, 4, 5, 6, 7, 8, 0] rfl rfl rfl rfl (by decide) rfl rfl rfl rfl (Nat.le_of_ble_eq_true rfl) dX7_explore_66 ?_
          refine s_if_ne (tgt := 75) K dX7_explore_69 (by decide) (fun c_9 => ?_) (fun c_9 => ?_)
          · refine s_goto (tgt := 163) K dX7_explore_72 (by decide) ?_
            refine s_iinc (lv' := [(10, .int (x10 + 1)), (0, .ref uh), (1, .int a1), (2, .ref g), (3, .int a3), (4, .int a4), (5, .int a5), (6, .ref (ua (Int32.toNatClampNeg a1))), (7, .int x7), (8, .int x8), (9, .int x9)]) K dX7_explore_163 10 rfl (kii_1 _) (Nat.le_of_ble_eq_true rfl) rfl ?_
            refine s_goto (tgt := 56) K dX7_explore_166 (by decide) ?_
            refine s_lv (lv' := [(0, .ref uh), (1, .int a1), (2, .ref g), (3, .int a3), (4, .int a4), (5, .int a5), (6, .ref (ua (Int32.toNatClampNeg a1))), (7, .int x7), (8, .int x8), (9, .int x9), (10, .int (x10 + 1))]) [1, 2, 3, 4, 5, 6, 7, 8, 9, 10, 0] rfl ?_
            exact ih dep siz plc onn axs gfw x7 x8 x9 (x10 + 1) hq6
          · refine s_iload K dX7_explore_75 7 rfl ?_
            refine s_iload K dX7_explore_77 10 rfl ?_
            refine s_bind (fun q hq_11 => ?_)
            obtain ⟨r_10, rfl⟩ : ∃ z, z = q := ⟨_, rfl⟩
            refine s_callS0 (rest := []) (st1 := [.int r_10]) K (c_X7_beside x7 x10 hq_11) hd_X7_beside t_374 t_327 t_1 t_328 ⟨by show 3 + 1 ≤ d + 1 + 20; omega, by show 8 + (3 + 11) + 162 ≤ (d + 1) * 100 + 1500; omega⟩ ⟨rfl, rfl⟩ ⟨Nat.zero_le _, Nat.zero_le _⟩ rfl rfl (Nat.le_of_ble_eq_true rfl) dX7_explore_79 ?_
            refine s_istore (lv' := [(11, .int r_10), (0, .ref uh), (1, .int a1), (2, .ref g), (3, .int a3), (4, .int a4), (5, .int a5), (6, .ref (ua (Int32.toNatClampNeg a1))), (7, .int x7), (8, .int x8), (9, .int x9), (10, .int x10)]) K dX7_explore_82 (Nat.le_of_ble_eq_true rfl) rfl ?_
            refine s_iload K dX7_explore_84 0 rfl ?_
            refine s_iconst K dX7_explore_86 kic_m1 ?_
            refine s_icmp_ne (tgt := 93) K dX7_explore_87 (by decide) (fun c_12 => ?_) (fun c_12 => ?_)
            · refine s_goto (tgt := 163) K dX7_explore_90 (by decide) ?_
              refine s_iinc (lv' := [(10, .int (x10 + 1)), (11, .int r_10), (0, .ref uh), (1, .int a1), (2, .ref g), (3, .int a3), (4, .int a4), (5, .int a5), (6, .ref (ua (Int32.toNatClampNeg a1))), (7, .int x7), (8, .int x8), (9, .int x9)]) K dX7_explore_163 11 rfl (kii_1 _) (Nat.le_of_ble_eq_true rfl) rfl ?_
              refine s_goto (tgt := 56) K dX7_explore_166 (by decide) ?_
              refine s_lv (lv' := [(0, .ref uh), (1, .int a1), (2, .ref g), (3, .int a3), (4, .int a4), (5, .int a5), (6, .ref (ua (Int32.toNatClampNeg a1))), (7, .int x7), (8, .int x8), (9, .int x9), (10, .int (x10 + 1))]) [2, 3, 4, 5, 6, 7, 8, 9, 10, 11, 0] rfl ?_
              exact ih dep siz plc onn axs gfw x7 x8 x9 (x10 + 1) hq6
            · refine s_aload_n K dX7_explore_93 rfl 1 rfl ?_
              refine s_get K 0 rfl rfl inT4 0 (Nat.le_of_ble_eq_true rfl) t_68 rfl rfl dX7_explore_94 ?_
              refine s_iload K dX7_explore_97 0 rfl ?_
              refine s_ck (fun ho_13 => ?_)
              refine s_iald K 1 0 rfl rfl (ok_in ho_13) rfl dX7_explore_99 ?_
              refine s_istore (lv' := [(12, .int (dep (Int32.toNatClampNeg r_10))), (11, .int r_10), (0, .ref uh), (1, .int a1), (2, .ref g), (3, .int a3), (4, .int a4), (5, .int a5), (6, .ref (ua (Int32.toNatClampNeg a1))), (7, .int x7), (8, .int x8), (9, .int x9), (10, .int x10)]) K dX7_explore_100 (Nat.le_of_ble_eq_true rfl) rfl ?_
              refine s_aload_n K dX7_explore_102 rfl 2 rfl ?_
              refine s_iload_n K dX7_explore_103 rfl 3 rfl ?_
              refine s_iload K dX7_explore_104 12 rfl ?_
              refine s_bind (fun q hq_20 => ?_)
              obtain ⟨r_14, dep_15, siz_16, plc_17, onn_18, axs_19⟩ := q
              refine s_callV (w' := (wLGA cI cC cB cQ kc uh ud ub ua g cnt wet stg dys dep_15 knd siz_16 plc_17 onn_18 axs_19 gfw gtg)) (rest := []) (st1 := [.int r_14]) K (c_X4_push uh ud ub ua cnt wet stg dys dep knd siz plc onn axs a1 x10 hq_20) rfl hd_X4_push t_334 t_335 t_336 t_2 t_337 ⟨by show 4 + 1 ≤ d + 1 + 20; omega, by show 8 + (6 + 11) + 224 ≤ (d + 1) * 100 + 1500; omega⟩ ⟨rfl, rfl⟩ ⟨Nat.zero_le _, Nat.zero_le _⟩ (rv_o K 0 rfl rfl) [0, 1, 2, 3, 4, 5, 6, 7] [8] [1, 2, 3, 4, 5, 6, 7, 8, 0] rfl rfl rfl rfl (by decide) rfl rfl rfl rfl (Nat.le_of_ble_eq_true rfl) dX7_explore_106 ?_
              refine s_pop K dX7_explore_109 rfl ?_
              refine s_aload_n K dX7_explore_110 rfl 2 rfl ?_
              refine s_iload_n K dX7_explore_111 rfl 3 rfl ?_
              refine s_aload_n K dX7_explore_112 rfl 4 rfl ?_
              refine s_iload_n K dX7_explore_113 rfl 5 rfl ?_
              refine s_iload K dX7_explore_114 6 rfl ?_
              refine s_iconst K dX7_explore_116 kic_1 ?_
              refine s_iadd K dX7_explore_117 ?_
              refine s_iload K dX7_explore_118 6 rfl ?_
              refine s_if_ne (tgt := 128) K dX7_explore_120 (by decide) (fun c_21 => ?_) (fun c_21 => ?_)
              · refine s_iload K dX7_explore_123 12 rfl ?_
                refine s_goto (tgt := 130) K dX7_explore_125 (by decide) ?_
                refine s_bind (fun q hq_28 => ?_)
                obtain ⟨dep_22, siz_23, plc_24, onn_25, axs_26, gfw_27⟩ := q
                refine s_callS (w' := (wLGA cI cC cB cQ kc uh ud ub ua g cnt wet stg dys dep_22 knd siz_23 plc_24 onn_25 axs_26 gfw_27 gtg)) (rest := []) (st1 := []) K (ihr uh ud ub ua g cnt wet stg dys dep_15 knd siz_16 plc_17 onn_18 axs_19 gfw gtg a1 a3 (a4 + 1) x10 hq_28) hd_X7_explore t_417 t_418 t_1 t_419 ⟨by show d + 20 + 1 ≤ d + 1 + 20; omega, by show 8 + (13 + 11) + (d * 100 + 1500) ≤ (d + 1) * 100 + 1500; omega⟩ ⟨rfl, rfl⟩ ⟨Nat.zero_le _, Nat.zero_le _⟩ [0, 1, 2, 3, 4, 5, 6, 7, 8] [] [0, 1, 2, 3, 4, 5, 6, 7, 8] rfl rfl rfl rfl (by decide) rfl rfl rfl rfl (Nat.le_of_ble_eq_true rfl) dX7_explore_130 ?_
                refine s_aload_n K dX7_explore_133 rfl 2 rfl ?_
                refine s_get K 0 rfl rfl inT4 0 (Nat.le_of_ble_eq_true rfl) t_68 rfl rfl dX7_explore_134 ?_
                refine s_iload K dX7_explore_137 1 rfl ?_
                refine s_iload K dX7_explore_139 0 rfl ?_
                refine s_iast (w' := (wLGA cI cC cB cQ kc uh ud ub ua g cnt wet stg dys (upd dep_22 (Int32.toNatClampNeg r_10) (dep (Int32.toNatClampNeg r_10))) knd siz_23 plc_24 onn_25 axs_26 gfw_27 gtg)) K 1 0 rfl rfl (ok_in ho_13) rfl rfl dX7_explore_141 ?_
                refine s_aload K dX7_explore_142 8 rfl ?_
                refine s_iload K dX7_explore_144 9 rfl ?_
                refine s_put (w' := (wLGA cI cC cB cQ kc uh ud ub ua g cnt wet stg dys (upd dep_22 (Int32.toNatClampNeg r_10) (dep (Int32.toNatClampNeg r_10))) knd siz_23 (upd plc_24 (Int32.toNatClampNeg a1) x7) onn_25 axs_26 gfw_27 gtg)) K (3 + (Int32.toNatClampNeg a1)) (gLGA_3 hq6) rfl inT1 tyX1_ok nmX1 2 (Nat.le_of_ble_eq_true rfl) t_47 rfl rfl rfl rfl (Nat.le_of_ble_eq_true rfl) (pLGA_3_2 hq6 _) dX7_explore_146 ?_
                refine s_aload K dX7_explore_149 8 rfl ?_
                refine s_iload K dX7_explore_151 10 rfl ?_
                refine s_put (w' := (wLGA cI cC cB cQ kc uh ud ub ua g cnt wet stg dys (upd dep_22 (Int32.toNatClampNeg r_10) (dep (Int32.toNatClampNeg r_10))) knd (upd siz_23 (Int32.toNatClampNeg a1) x8) (upd plc_24 (Int32.toNatClampNeg a1) x7) onn_25 axs_26 gfw_27 gtg)) K (3 + (Int32.toNatClampNeg a1)) (gLGA_3 hq6) rfl inT1 tyX1_ok nmX1 1 (Nat.le_of_ble_eq_true rfl) t_43 rfl rfl rfl rfl (Nat.le_of_ble_eq_true rfl) (pLGA_3_1 hq6 _) dX7_explore_153 ?_
                refine s_aload K dX7_explore_156 8 rfl ?_
                refine s_iload K dX7_explore_158 11 rfl ?_
                refine s_put (w' := (wLGA cI cC cB cQ kc uh ud ub ua g cnt wet stg dys (upd dep_22 (Int32.toNatClampNeg r_10) (dep (Int32.toNatClampNeg r_10))) knd (upd siz_23 (Int32.toNatClampNeg a1) x8) (upd plc_24 (Int32.toNatClampNeg a1) x7) onn_25 (upd axs_26 (Int32.toNatClampNeg a1) x9) gfw_27 gtg)) K (3 + (Int32.toNatClampNeg a1)) (gLGA_3 hq6) rfl inT1 tyX1_ok nmX1 4 (Nat.le_of_ble_eq_true rfl) t_52 rfl rfl rfl rfl (Nat.le_of_ble_eq_true rfl) (pLGA_3_4 hq6 _) dX7_explore_160 ?_
                refine s_iinc (lv' := [(10, .int (x10 + 1)), (12, .int (dep (Int32.toNatClampNeg r_10))), (11, .int r_10), (0, .ref uh), (1, .int a1), (2, .ref g), (3, .int a3), (4, .int a4), (5, .int a5), (6, .ref (ua (Int32.toNatClampNeg a1))), (7, .int x7), (8, .int x8), (9, .int x9)]) K dX7_explore_163 12 rfl (kii_1 _) (Nat.le_of_ble_eq_true rfl) rfl ?_
                refine s_goto (tgt := 56) K dX7_explore_166 (by decide) ?_
                refine s_lv (lv' := [(0, .ref uh), (1, .int a1), (2, .ref g), (3, .int a3), (4, .int a4), (5, .int a5), (6, .ref (ua (Int32.toNatClampNeg a1))), (7, .int x7), (8, .int x8), (9, .int x9), (10, .int (x10 + 1))]) [3, 4, 5, 6, 7, 8, 9, 10, 11, 12, 0] rfl ?_
                exact ih (upd dep_22 (Int32.toNatClampNeg r_10) (dep (Int32.toNatClampNeg r_10))) (upd siz_23 (Int32.toNatClampNeg a1) x8) (upd plc_24 (Int32.toNatClampNeg a1) x7) onn_25 (upd axs_26 (Int32.toNatClampNeg a1) x9) gfw_27 x7 x8 x9 (x10 + 1) hq6
              · refine s_iload K dX7_explore_128 7 rfl ?_
                refine s_bind (fun q hq_35 => ?_)
                obtain ⟨dep_29, siz_30, plc_31, onn_32, axs_33, gfw_34⟩ := q
                refine s_callS (w' := (wLGA cI cC cB cQ kc uh ud ub ua g cnt wet stg dys dep_29 knd siz_30 plc_31 onn_32 axs_33 gfw_34 gtg)) (rest := []) (st1 := []) K (ihr uh ud ub ua g cnt wet stg dys dep_15 knd siz_16 plc_17 onn_18 axs_19 gfw gtg a1 a3 (a4 + 1) a5 hq_35) hd_X7_explore t_417 t_418 t_1 t_419 ⟨by show d + 20 + 1 ≤ d + 1 + 20; omega, by show 8 + (13 + 11) + (d * 100 + 1500) ≤ (d + 1) * 100 + 1500; omega⟩ ⟨rfl, rfl⟩ ⟨Nat.zero_le _, Nat.zero_le _⟩ [0, 1, 2, 3, 4, 5, 6, 7, 8] [] [0, 1, 2, 3, 4, 5, 6, 7, 8] rfl rfl rfl rfl (by decide) rfl rfl rfl rfl (Nat.le_of_ble_eq_true rfl) dX7_explore_130 ?_
                refine s_aload_n K dX7_explore_133 rfl 2 rfl ?_
                refine s_get K 0 rfl rfl inT4 0 (Nat.le_of_ble_eq_true rfl) t_68 rfl rfl dX7_explore_134 ?_
                refine s_iload K dX7_explore_137 1 rfl ?_
                refine s_iload K dX7_explore_139 0 rfl ?_
                refine s_iast (w' := (wLGA cI cC cB cQ kc uh ud ub ua g cnt wet stg dys (upd dep_29 (Int32.toNatClampNeg r_10) (dep (Int32.toNatClampNeg r_10))) knd siz_30 plc_31 onn_32 axs_33 gfw_34 gtg)) K 1 0 rfl rfl (ok_in ho_13) rfl rfl dX7_explore_141 ?_
                refine s_aload K dX7_explore_142 8 rfl ?_
                refine s_iload K dX7_explore_144 9 rfl ?_
                refine s_put (w' := (wLGA cI cC cB cQ kc uh ud ub ua g cnt wet stg dys (upd dep_29 (Int32.toNatClampNeg r_10) (dep (Int32.toNatClampNeg r_10))) knd siz_30 (upd plc_31 (Int32.toNatClampNeg a1) x7) onn_32 axs_33 gfw_34 gtg)) K (3 + (Int32.toNatClampNeg a1)) (gLGA_3 hq6) rfl inT1 tyX1_ok nmX1 2 (Nat.le_of_ble_eq_true rfl) t_47 rfl rfl rfl rfl (Nat.le_of_ble_eq_true rfl) (pLGA_3_2 hq6 _) dX7_explore_146 ?_
                refine s_aload K dX7_explore_149 8 rfl ?_
                refine s_iload K dX7_explore_151 10 rfl ?_
                refine s_put (w' := (wLGA cI cC cB cQ kc uh ud ub ua g cnt wet stg dys (upd dep_29 (Int32.toNatClampNeg r_10) (dep (Int32.toNatClampNeg r_10))) knd (upd siz_30 (Int32.toNatClampNeg a1) x8) (upd plc_31 (Int32.toNatClampNeg a1) x7) onn_32 axs_33 gfw_34 gtg)) K (3 + (Int32.toNatClampNeg a1)) (gLGA_3 hq6) rfl inT1 tyX1_ok nmX1 1 (Nat.le_of_ble_eq_true rfl) t_43 rfl rfl rfl rfl (Nat.le_of_ble_eq_true rfl) (pLGA_3_1 hq6 _) dX7_explore_153 ?_
                refine s_aload K dX7_explore_156 8 rfl ?_
                refine s_iload K dX7_explore_158 11 rfl ?_
                refine s_put (w' := (wLGA cI cC cB cQ kc uh ud ub ua g cnt wet stg dys (upd dep_29 (Int32.toNatClampNeg r_10) (dep (Int32.toNatClampNeg r_10))) knd (upd siz_30 (Int32.toNatClampNeg a1) x8) (upd plc_31 (Int32.toNatClampNeg a1) x7) onn_32 (upd axs_33 (Int32.toNatClampNeg a1) x9) gfw_34 gtg)) K (3 + (Int32.toNatClampNeg a1)) (gLGA_3 hq6) rfl inT1 tyX1_ok nmX1 4 (Nat.le_of_ble_eq_true rfl) t_52 rfl rfl rfl rfl (Nat.le_of_ble_eq_true rfl) (pLGA_3_4 hq6 _) dX7_explore_160 ?_
                refine s_iinc (lv' := [(10, .int (x10 + 1)), (12, .int (dep (Int32.toNatClampNeg r_10))), (11, .int r_10), (0, .ref uh), (1, .int a1), (2, .ref g), (3, .int a3), (4, .int a4), (5, .int a5), (6, .ref (ua (Int32.toNatClampNeg a1))), (7, .int x7), (8, .int x8), (9, .int x9)]) K dX7_explore_163 12 rfl (kii_1 _) (Nat.le_of_ble_eq_true rfl) rfl ?_
                refine s_goto (tgt := 56) K dX7_explore_166 (by decide) ?_
                refine s_lv (lv' := [(0, .ref uh), (1, .int a1), (2, .ref g), (3, .int a3), (4, .int a4), (5, .int a5), (6, .ref (ua (Int32.toNatClampNeg a1))), (7, .int x7), (8, .int x8), (9, .int x9), (10, .int (x10 + 1))]) [3, 4, 5, 6, 7, 8, 9, 10, 11, 12, 0] rfl ?_
                exact ih (upd dep_29 (Int32.toNatClampNeg r_10) (dep (Int32.toNatClampNeg r_10))) (upd siz_30 (Int32.toNatClampNeg a1) x8) (upd plc_31 (Int32.toNatClampNeg a1) x7) onn_32 (upd axs_33 (Int32.toNatClampNeg a1) x9) gfw_34 x7 x8 x9 (x10 + 1) hq6
    rewrite [fr_X7_explore_A]
    refine s_aload_n K dX7_explore_0 rfl 0 rfl ?_
    refine s_get K 0 rfl rfl inT4 1 (Nat.le_of_ble_eq_true rfl) t_70 rfl rfl dX7_explore_1 ?_
    refine s_iload_n K dX7_explore_4 rfl 1 rfl ?_
    refine s_ck (fun ho_1 => ?_)
    refine s_aldb K 2 3 rfl rfl (ok_in ho_1) rfl dX7_explore_5 ?_
    refine s_astore (lv' := [(6, .ref (ua (Int32.toNatClampNeg a1))), (0, .ref uh), (1, .int a1), (2, .ref g), (3, .int a3), (4, .int a4), (5, .int a5)]) K dX7_explore_6 (Nat.le_of_ble_eq_true rfl) rfl ?_
    refine s_aload_n K dX7_explore_8 rfl 3 rfl ?_
    refine s_aload K dX7_explore_9 0 rfl ?_
    refine s_iload K dX7_explore_11 5 rfl ?_
    refine s_iload K dX7_explore_13 6 rfl ?_
    refine s_bind (fun q hq_3 => ?_)
    obtain ⟨gfw_2, rfl⟩ : ∃ z, z = q := ⟨_, rfl⟩
    refine s_callU (x := ⟨"SnowBalls$Search", "meet", "(LSnowBalls$Ball;II)V"⟩) (owner := "SnowBalls$Search") (w' := (wLGA cI cC cB cQ kc uh ud ub ua g cnt wet stg dys dep knd siz plc onn axs gfw_2 gtg)) (rest := []) (st1 := []) K (c_X0_meet g ua gfw gtg knd siz plc onn axs a4 a5 (Int32.toNatClampNeg a1) (vp_lt (ok_in ho_1)) hq_3) K.2.2.2.2.2.2.2.2 hd_meet t_420 t_422 t_424 t_423 t_8 t_425 ⟨by show 1 + 1 ≤ d + 1 + 20; omega, by show 8 + (4 + 11) + 40 ≤ (d + 1) * 100 + 1500; omega⟩ ⟨rfl, rfl⟩ ⟨Nat.zero_le _, Nat.zero_le _⟩ (rv_o K 8 rfl rfl) [8, 3, 4, 5, 6, 7] [0, 1, 2] [0, 1, 2, 4, 5, 6, 7, 8, 3] rfl rfl rfl rfl (by decide) rfl rfl rfl rfl (Nat.le_of_ble_eq_true rfl) dX7_explore_15 ?_
    refine s_iload K dX7_explore_18 5 rfl ?_
    refine s_iload_n K dX7_explore_20 rfl 4 rfl ?_
    refine s_icmp_ge (tgt := 31) K dX7_explore_21 (by decide) (fun c_4 => ?_) (fun c_4 => ?_)
    · exact s_vret K hret hlk rfl rfl dX7_explore_31
    · refine s_iload K dX7_explore_24 5 rfl ?_
      refine s_bipush K dX7_explore_26 kib_6 ?_
      refine s_icmp_lt (tgt := 32) K dX7_explore_28 (by decide) (fun c_5 => ?_) (fun c_5 => ?_)
      · refine s_aload K dX7_explore_32 0 rfl ?_
        refine s_get K (3 + (Int32.toNatClampNeg a1)) (gLGA_3 (vp_lt (ok_in ho_1))) rfl inT1 2 (Nat.le_of_ble_eq_true rfl) t_47 rfl rfl dX7_explore_34 ?_
        refine s_istore (lv' := [(7, .int (plc (Int32.toNatClampNeg a1))), (6, .ref (ua (Int32.toNatClampNeg a1))), (0, .ref uh), (1, .int a1), (2, .ref g), (3, .int a3), (4, .int a4), (5, .int a5)]) K dX7_explore_37 (Nat.le_of_ble_eq_true rfl) rfl ?_
        refine s_aload K dX7_explore_39 1 rfl ?_
        refine s_get K (3 + (Int32.toNatClampNeg a1)) (gLGA_3 (vp_lt (ok_in ho_1))) rfl inT1 1 (Nat.le_of_ble_eq_true rfl) t_43 rfl rfl dX7_explore_41 ?_
        refine s_istore (lv' := [(8, .int (siz (Int32.toNatClampNeg a1))), (7, .int (plc (Int32.toNatClampNeg a1))), (6, .ref (ua (Int32.toNatClampNeg a1))), (0, .ref uh), (1, .int a1), (2, .ref g), (3, .int a3), (4, .int a4), (5, .int a5)]) K dX7_explore_44 (Nat.le_of_ble_eq_true rfl) rfl ?_
        refine s_aload K dX7_explore_46 2 rfl ?_
        refine s_get K (3 + (Int32.toNatClampNeg a1)) (gLGA_3 (vp_lt (ok_in ho_1))) rfl inT1 4 (Nat.le_of_ble_eq_true rfl) t_52 rfl rfl dX7_explore_48 ?_
        refine s_istore (lv' := [(9, .int (axs (Int32.toNatClampNeg a1))), (8, .int (siz (Int32.toNatClampNeg a1))), (7, .int (plc (Int32.toNatClampNeg a1))), (6, .ref (ua (Int32.toNatClampNeg a1))), (0, .ref uh), (1, .int a1), (2, .ref g), (3, .int a3), (4, .int a4), (5, .int a5)]) K dX7_explore_51 (Nat.le_of_ble_eq_true rfl) rfl ?_
        refine s_iconst K dX7_explore_53 kic_0 ?_
        refine s_istore (lv' := [(10, .int 0), (9, .int (axs (Int32.toNatClampNeg a1))), (8, .int (siz (Int32.toNatClampNeg a1))), (7, .int (plc (Int32.toNatClampNeg a1))), (6, .ref (ua (Int32.toNatClampNeg a1))), (0, .ref uh), (1, .int a1), (2, .ref g), (3, .int a3), (4, .int a4), (5, .int a5)]) K dX7_explore_54 (Nat.le_of_ble_eq_true rfl) rfl ?_
        refine s_lv (lv' := [(0, .ref uh), (1, .int a1), (2, .ref g), (3, .int a3), (4, .int a4), (5, .int a5), (6, .ref (ua (Int32.toNatClampNeg a1))), (7, .int (plc (Int32.toNatClampNeg a1))), (8, .int (siz (Int32.toNatClampNeg a1))), (9, .int (axs (Int32.toNatClampNeg a1))), (10, .int 0)]) [5, 6, 7, 8, 9, 10, 4, 3, 2, 1, 0] rfl ?_
        exact L56 70 dep siz plc onn axs gfw_2 (plc (Int32.toNatClampNeg a1)) (siz (Int32.toNatClampNeg a1)) (axs (Int32.toNatClampNeg a1)) 0 (vp_lt (ok_in ho_1))
      · exact s_vret K hret hlk rfl rfl dX7_explore_31
theorem c_X7_explore_A {l : Launch} {D : va_G} {cI cC cB cQ : ClassId} {kc : Nat → Nat} {kt : Nat} (uh ud ub : Nat) (ua : Nat → Nat) (g : Nat) (cnt wet stg dys : Int32) (dep : Nat → Int32) (knd : Nat → Nat) (siz plc onn axs : Nat → Int32) (gfw gtg : Int32) (a1 a3 a4 a5 : Int32) {r : (Nat → Int32) × (Nat → Int32) × (Nat → Int32) × (Nat → Int32) × (Nat → Int32) × Int32} (hF : fr_X7_explore_A 7 cnt wet stg dys dep knd siz plc onn axs gfw gtg a1 a3 a4 a5 = some r) : CT l D (tysOf cI cC cB cQ) kc kt yX7_explore cX7_explore 13 none ({ frames := 27, cells := 0, slots := 0, locals := 2200 } : Room) [.ref uh, .int a1, .ref g, .int a3, .int a4, .int a5] (wLGA cI cC cB cQ kc uh ud ub ua g cnt wet stg dys dep knd siz plc onn axs gfw gtg) ((fun (r : (Nat → Int32) × (Nat → Int32) × (Nat → Int32) × (Nat → Int32) × (Nat → Int32) × Int32) => (wLGA cI cC cB cQ kc uh ud ub ua g cnt wet stg dys (r.1) knd (r.2.1) (r.2.2.1) (r.2.2.2.1) (r.2.2.2.2.1) (r.2.2.2.2.2) gtg)) r) ((fun (r : (Nat → Int32) × (Nat → Int32) × (Nat → Int32) × (Nat → Int32) × (Nat → Int32) × Int32) => none) r) := cr_X7_explore_A 7 uh ud ub ua g cnt wet stg dys dep knd siz plc onn axs gfw gtg a1 a3 a4 a5 hF
set_option maxHeartbeats 4000000 in
set_option maxRecDepth 100000 in
theorem c_X4_isIn {l : Launch} {D : va_G} {cI cC cB cQ : ClassId} {kc : Nat → Nat} {kt : Nat} (a0 a1 : Int32) {r : Int32} (hF : f_X4_isIn a0 a1 = some r) : CT l D (tysOf cI cC cB cQ) kc kt yX4_isIn cX4_isIn 2 (some .boolean) ({ frames := 1, cells := 0, slots := 0, locals := 40 } : Room) [.int a0, .int a1] [] ((fun (r : Int32) => []) r) ((fun (r : Int32) => some (.int r)) r) := by
  refine CT.of (ww := (fun (r : Int32) => [])) (oo := (fun (r : Int32) => some (.int r))) hF RX4 rfl rfl (Nat.le_of_ble_eq_true rfl) ?_
  intro p e s m args below meth c A K hret hlk
  rewrite [f_X4_isIn]
  refine s_iload_n K dX4_isIn_0 rfl 0 rfl ?_
  refine s_iload_n K dX4_isIn_1 rfl 1 rfl ?_
  refine s_ishr K dX4_isIn_2 ?_
  refine s_iconst K dX4_isIn_3 kic_1 ?_
  refine s_iand K dX4_isIn_4 ?_
  refine s_iconst K dX4_isIn_5 kic_1 ?_
  refine s_icmp_ne (tgt := 13) K dX4_isIn_6 (by decide) (fun c_1 => ?_) (fun c_1 => ?_)
  · refine s_iconst K dX4_isIn_9 kic_1 ?_
    refine s_goto (tgt := 14) K dX4_isIn_10 (by decide) ?_
    exact s_zret K hret hlk rfl rfl rfl dX4_isIn_14
  · refine s_iconst K dX4_isIn_13 kic_0 ?_
    exact s_zret K hret hlk rfl rfl rfl dX4_isIn_14
set_option maxHeartbeats 4000000 in
set_option maxRecDepth 100000 in
theorem c_X4_couldJoin {l : Launch} {D : va_G} {cI cC cB cQ : ClassId} {kc : Nat → Nat} {kt : Nat} (uh ud ub : Nat) (ua : Nat → Nat) (cnt wet stg dys : Int32) (dep : Nat → Int32) (knd : Nat → Nat) (siz plc onn axs : Nat → Int32) (a1 a2 : Int32) {r : Int32} (hF : f_X4_couldJoin cnt stg knd siz a1 a2 = some r) : CT l D (tysOf cI cC cB cQ) kc kt yX4_couldJoin cX4_couldJoin 5 (some .boolean) ({ frames := 3, cells := 0, slots := 0, locals := 161 } : Room) [.ref uh, .int a1, .int a2] (wL cI cC cB cQ kc uh ud ub ua cnt wet stg dys dep knd siz plc onn axs) ((fun (r : Int32) => (wL cI cC cB cQ kc uh ud ub ua cnt wet stg dys dep knd siz plc onn axs)) r) ((fun (r : Int32) => some (.int r)) r) := by
  refine CT.of (ww := (fun (r : Int32) => (wL cI cC cB cQ kc uh ud ub ua cnt wet stg dys dep knd siz plc onn axs))) (oo := (fun (r : Int32) => some (.int r))) hF RX4 rfl rfl (Nat.le_of_ble_eq_true rfl) ?_
  intro p e s m args below meth c A K hret hlk
  have L5 : ∀ (fu : Nat) (x3 x4 : Int32), Sw (ρ := Int32) p l e ({ frames := 3, cells := 0, slots := 0, locals := 161 } : Room) s m args below meth c 0 0 D A 5 (fun r => MQ below (CQ D ((fun (r : Int32) => (wL cI cC cB cQ kc uh ud ub ua cnt wet stg dys dep knd siz plc onn axs)) r) ((fun (r : Int32) => some (.int r)) r) A) args s 0 0 A) (f_X4_couldJoin_h5 cnt stg knd siz a1 a2 fu x3 x4) (wL cI cC cB cQ kc uh ud ub ua cnt wet stg dys dep knd siz plc onn axs) [(0, .ref uh), (1, .int a1), (2, .int a2), (3, .int x3), (4, .int x4)] 5 [] := by
    intro  fu
    induction fu with
    | zero =>
      intro x3 x4
      rewrite [f_X4_couldJoin_h5]
      exact s_none
    | succ fu ih =>
      intro x3 x4
      rewrite [f_X4_couldJoin_h5]
      refine s_iload K dX4_couldJoin_5 4 rfl ?_
      refine s_aload_n K dX4_couldJoin_7 rfl 0 rfl ?_
      refine s_get K 0 rfl rfl inT4 2 (Nat.le_of_ble_eq_true rfl) t_71 rfl rfl dX4_couldJoin_8 ?_
      refine s_icmp_ge (tgt := 86) K dX4_couldJoin_11 (by decide) (fun c_1 => ?_) (fun c_1 => ?_)
      · refine s_iload_n K dX4_couldJoin_86 rfl 3 rfl ?_
        refine s_if_ne (tgt := 108) K dX4_couldJoin_87 (by decide) (fun c_2 => ?_) (fun c_2 => ?_)
        · refine s_iconst K dX4_couldJoin_90 kic_2 ?_
          refine s_aload_n K dX4_couldJoin_91 rfl 0 rfl ?_
          refine s_get K 0 rfl rfl inT4 1 (Nat.le_of_ble_eq_true rfl) t_69 rfl rfl dX4_couldJoin_92 ?_
          refine s_iload_n K dX4_couldJoin_95 rfl 2 rfl ?_
          refine s_ck (fun ho_3 => ?_)
          refine s_aldb K 2 3 rfl rfl (ok_in ho_3) rfl dX4_couldJoin_96 ?_
          refine s_bind (fun q hq_5 => ?_)
          obtain ⟨r_4, rfl⟩ : ∃ z, z = q := ⟨_, rfl⟩
          refine s_callV (w' := (wL cI cC cB cQ kc uh ud ub ua cnt wet stg dys dep knd siz plc onn axs)) (rest := [.int 2]) (st1 := [.int r_4, .int 2]) K (c_X1_weight ua knd siz plc onn axs (Int32.toNatClampNeg a2) (vp_lt (ok_in ho_3)) hq_5) rfl hd_X1_weight t_318 t_271 t_272 t_3 t_273 ⟨(Nat.le_of_ble_eq_true rfl), (Nat.le_of_ble_eq_true rfl)⟩ ⟨rfl, rfl⟩ ⟨Nat.zero_le _, Nat.zero_le _⟩ (rv_o K (3 + (Int32.toNatClampNeg a2)) (gL_3 (vp_lt (ok_in ho_3))) rfl) [3, 4, 5, 6, 7] [0, 1, 2] [0, 1, 2, 3, 4, 5, 6, 7] rfl rfl rfl rfl (by decide) rfl rfl rfl rfl (Nat.le_of_ble_eq_true rfl) dX4_couldJoin_97 ?_
          refine s_imul K dX4_couldJoin_100 ?_
          refine s_aload_n K dX4_couldJoin_101 rfl 0 rfl ?_
          refine s_get K 0 rfl rfl inT4 4 (Nat.le_of_ble_eq_true rfl) t_75 rfl rfl dX4_couldJoin_102 ?_
          refine s_icmp_gt (tgt := 112) K dX4_couldJoin_105 (by decide) (fun c_6 => ?_) (fun c_6 => ?_)
          · refine s_iconst K dX4_couldJoin_112 kic_0 ?_
            exact s_zret K hret hlk rfl rfl rfl dX4_couldJoin_113
          · refine s_iconst K dX4_couldJoin_108 kic_1 ?_
            refine s_goto (tgt := 113) K dX4_couldJoin_109 (by decide) ?_
            exact s_zret K hret hlk rfl rfl rfl dX4_couldJoin_113
        · refine s_iconst K dX4_couldJoin_108 kic_1 ?_
          refine s_goto (tgt := 113) K dX4_couldJoin_109 (by decide) ?_
          exact s_zret K hret hlk rfl rfl rfl dX4_couldJoin_113
      · refine s_iload K dX4_couldJoin_14 4 rfl ?_
        refine s_iload_n K dX4_couldJoin_16 rfl 2 rfl ?_
        refine s_icmp_eq (tgt := 80) K dX4_couldJoin_17 (by decide) (fun c_7 => ?_) (fun c_7 => ?_)
        · refine s_iinc (lv' := [(4, .int (x4 + 1)), (0, .ref uh), (1, .int a1), (2, .int a2), (3, .int x3)]) K dX4_couldJoin_80 4 rfl (kii_1 _) (Nat.le_of_ble_eq_true rfl) rfl ?_
          refine s_goto (tgt := 5) K dX4_couldJoin_83 (by decide) ?_
          refine s_lv (lv' := [(0, .ref uh), (1, .int a1), (2, .int a2), (3, .int x3), (4, .int (x4 + 1))]) [1, 2, 3, 4, 0] rfl ?_
          exact ih x3 (x4 + 1)
        · refine s_iload_n K dX4_couldJoin_20 rfl 1 rfl ?_
          refine s_iload K dX4_couldJoin_21 4 rfl ?_
          refine s_bind (fun q hq_9 => ?_)
          obtain ⟨r_8, rfl⟩ : ∃ z, z = q := ⟨_, rfl⟩
          refine s_callS0 (rest := []) (st1 := [.int r_8]) K (c_X4_isIn a1 x4 hq_9) hd_X4_isIn t_458 t_459 t_2 t_460 ⟨(Nat.le_of_ble_eq_true rfl), (Nat.le_of_ble_eq_true rfl)⟩ ⟨rfl, rfl⟩ ⟨Nat.zero_le _, Nat.zero_le _⟩ rfl rfl (Nat.le_of_ble_eq_true rfl) dX4_couldJoin_23 ?_
          refine s_if_ne (tgt := 32) K dX4_couldJoin_26 (by decide) (fun c_10 => ?_) (fun c_10 => ?_)
          · refine s_goto (tgt := 80) K dX4_couldJoin_29 (by decide) ?_
            refine s_iinc (lv' := [(4, .int (x4 + 1)), (0, .ref uh), (1, .int a1), (2, .int a2), (3, .int x3)]) K dX4_couldJoin_80 4 rfl (kii_1 _) (Nat.le_of_ble_eq_true rfl) rfl ?_
            refine s_goto (tgt := 5) K dX4_couldJoin_83 (by decide) ?_
            refine s_lv (lv' := [(0, .ref uh), (1, .int a1), (2, .int a2), (3, .int x3), (4, .int (x4 + 1))]) [1, 2, 3, 4, 0] rfl ?_
            exact ih x3 (x4 + 1)
          · refine s_aload_n K dX4_couldJoin_32 rfl 0 rfl ?_
            refine s_get K 0 rfl rfl inT4 1 (Nat.le_of_ble_eq_true rfl) t_69 rfl rfl dX4_couldJoin_33 ?_
            refine s_iload K dX4_couldJoin_36 4 rfl ?_
            refine s_ck (fun ho_11 => ?_)
            refine s_aldb K 2 3 rfl rfl (ok_in ho_11) rfl dX4_couldJoin_38 ?_
            refine s_get K (3 + (Int32.toNatClampNeg x4)) (gL_3 (vp_lt (ok_in ho_11))) rfl inT1 1 (Nat.le_of_ble_eq_true rfl) t_42 rfl rfl dX4_couldJoin_39 ?_
            refine s_aload_n K dX4_couldJoin_42 rfl 0 rfl ?_
            refine s_get K 0 rfl rfl inT4 1 (Nat.le_of_ble_eq_true rfl) t_69 rfl rfl dX4_couldJoin_43 ?_
            refine s_iload_n K dX4_couldJoin_46 rfl 2 rfl ?_
            refine s_ck (fun ho_12 => ?_)
            refine s_aldb K 2 3 rfl rfl (ok_in ho_12) rfl dX4_couldJoin_47 ?_
            refine s_get K (3 + (Int32.toNatClampNeg a2)) (gL_3 (vp_lt (ok_in ho_12))) rfl inT1 1 (Nat.le_of_ble_eq_true rfl) t_42 rfl rfl dX4_couldJoin_48 ?_
            refine s_icmp_ne (tgt := 56) K dX4_couldJoin_51 (by decide) (fun c_13 => ?_) (fun c_13 => ?_)
            · refine s_iconst K dX4_couldJoin_54 kic_0 ?_
              exact s_zret K hret hlk rfl rfl rfl dX4_couldJoin_55
            · refine s_aload_n K dX4_couldJoin_56 rfl 0 rfl ?_
              refine s_get K 0 rfl rfl inT4 1 (Nat.le_of_ble_eq_true rfl) t_69 rfl rfl dX4_couldJoin_57 ?_
              refine s_iload K dX4_couldJoin_60 4 rfl ?_
              refine s_aldb K 2 3 rfl rfl (ok_in ho_11) rfl dX4_couldJoin_62 ?_
              refine s_get K (3 + (Int32.toNatClampNeg x4)) (gL_3 (vp_lt (ok_in ho_11))) rfl inT1 1 (Nat.le_of_ble_eq_true rfl) t_42 rfl rfl dX4_couldJoin_63 ?_
              refine s_aload_n K dX4_couldJoin_66 rfl 0 rfl ?_
              refine s_get K 0 rfl rfl inT4 1 (Nat.le_of_ble_eq_true rfl) t_69 rfl rfl dX4_couldJoin_67 ?_
              refine s_iload_n K dX4_couldJoin_70 rfl 2 rfl ?_
              refine s_aldb K 2 3 rfl rfl (ok_in ho_12) rfl dX4_couldJoin_71 ?_
              refine s_get K (3 + (Int32.toNatClampNeg a2)) (gL_3 (vp_lt (ok_in ho_12))) rfl inT1 1 (Nat.le_of_ble_eq_true rfl) t_42 rfl rfl dX4_couldJoin_72 ?_
              refine s_icmp_le (tgt := 80) K dX4_couldJoin_75 (by decide) (fun c_14 => ?_) (fun c_14 => ?_)
              · refine s_iinc (lv' := [(4, .int (x4 + 1)), (0, .ref uh), (1, .int a1), (2, .int a2), (3, .int x3)]) K dX4_couldJoin_80 4 rfl (kii_1 _) (Nat.le_of_ble_eq_true rfl) rfl ?_
                refine s_goto (tgt := 5) K dX4_couldJoin_83 (by decide) ?_
                refine s_lv (lv' := [(0, .ref uh), (1, .int a1), (2, .int a2), (3, .int x3), (4, .int (x4 + 1))]) [1, 2, 3, 4, 0] rfl ?_
                exact ih x3 (x4 + 1)
              · refine s_iconst K dX4_couldJoin_78 kic_0 ?_
                refine s_istore_n (lv' := [(3, .int 0), (0, .ref uh), (1, .int a1), (2, .int a2), (4, .int x4)]) K dX4_couldJoin_79 rfl (Nat.le_of_ble_eq_true rfl) rfl ?_
                refine s_iinc (lv' := [(4, .int (x4 + 1)), (3, .int 0), (0, .ref uh), (1, .int a1), (2, .int a2)]) K dX4_couldJoin_80 4 rfl (kii_1 _) (Nat.le_of_ble_eq_true rfl) rfl ?_
                refine s_goto (tgt := 5) K dX4_couldJoin_83 (by decide) ?_
                refine s_lv (lv' := [(0, .ref uh), (1, .int a1), (2, .int a2), (3, .int 0), (4, .int (x4 + 1))]) [2, 3, 4, 1, 0] rfl ?_
                exact ih 0 (x4 + 1)
  rewrite [f_X4_couldJoin]
  refine s_iconst K dX4_couldJoin_0 kic_1 ?_
  refine s_istore_n (lv' := [(3, .int 1), (0, .ref uh), (1, .int a1), (2, .int a2)]) K dX4_couldJoin_1 rfl (Nat.le_of_ble_eq_true rfl) rfl ?_
  refine s_iconst K dX4_couldJoin_2 kic_0 ?_
  refine s_istore (lv' := [(4, .int 0), (3, .int 1), (0, .ref uh), (1, .int a1), (2, .int a2)]) K dX4_couldJoin_3 (Nat.le_of_ble_eq_true rfl) rfl ?_
  refine s_lv (lv' := [(0, .ref uh), (1, .int a1), (2, .int a2), (3, .int 1), (4, .int 0)]) [2, 3, 4, 1, 0] rfl ?_
  exact L5 70 1 0
set_option maxHeartbeats 4000000 in
set_option maxRecDepth 100000 in
theorem c_X4_couldStack {l : Launch} {D : va_G} {cI cC cB cQ : ClassId} {kc : Nat → Nat} {kt : Nat} (uh ud ub : Nat) (ua : Nat → Nat) (cnt wet stg dys : Int32) (dep : Nat → Int32) (knd : Nat → Nat) (siz plc onn axs : Nat → Int32) (a1 : Int32) {r : Int32} (hF : f_X4_couldStack cnt stg knd siz a1 = some r) : CT l D (tysOf cI cC cB cQ) kc kt yX4_couldStack cX4_couldStack 3 (some .boolean) ({ frames := 4, cells := 0, slots := 0, locals := 225 } : Room) [.ref uh, .int a1] (wL cI cC cB cQ kc uh ud ub ua cnt wet stg dys dep knd siz plc onn axs) ((fun (r : Int32) => (wL cI cC cB cQ kc uh ud ub ua cnt wet stg dys dep knd siz plc onn axs)) r) ((fun (r : Int32) => some (.int r)) r) := by
  refine CT.of (ww := (fun (r : Int32) => (wL cI cC cB cQ kc uh ud ub ua cnt wet stg dys dep knd siz plc onn axs))) (oo := (fun (r : Int32) => some (.int r))) hF RX4 rfl rfl (Nat.le_of_ble_eq_true rfl) ?_
  intro p e s m args below meth c A K hret hlk
  have L2 : ∀ (fu : Nat) (x2 : Int32), Sw (ρ := Int32) p l e ({ frames := 4, cells := 0, slots := 0, locals := 225 } : Room) s m args below meth c 0 0 D A 3 (fun r => MQ below (CQ D ((fun (r : Int32) => (wL cI cC cB cQ kc uh ud ub ua cnt wet stg dys dep knd siz plc onn axs)) r) ((fun (r : Int32) => some (.int r)) r) A) args s 0 0 A) (f_X4_couldStack_h2 cnt stg knd siz a1 fu x2) (wL cI cC cB cQ kc uh ud ub ua cnt wet stg dys dep knd siz plc onn axs) [(0, .ref uh), (1, .int a1), (2, .int x2)] 2 [] := by
    intro  fu
    induction fu with
    | zero =>
      intro x2
      rewrite [f_X4_couldStack_h2]
      exact s_none
    | succ fu ih =>
      intro x2
      rewrite [f_X4_couldStack_h2]
      refine s_iload_n K dX4_couldStack_2 rfl 2 rfl ?_
      refine s_aload_n K dX4_couldStack_3 rfl 0 rfl ?_
      refine s_get K 0 rfl rfl inT4 2 (Nat.le_of_ble_eq_true rfl) t_71 rfl rfl dX4_couldStack_4 ?_
      refine s_icmp_ge (tgt := 47) K dX4_couldStack_7 (by decide) (fun c_1 => ?_) (fun c_1 => ?_)
      · refine s_iconst K dX4_couldStack_47 kic_1 ?_
        exact s_zret K hret hlk rfl rfl rfl dX4_couldStack_48
      · refine s_iload_n K dX4_couldStack_10 rfl 1 rfl ?_
        refine s_iload_n K dX4_couldStack_11 rfl 2 rfl ?_
        refine s_bind (fun q hq_3 => ?_)
        obtain ⟨r_2, rfl⟩ : ∃ z, z = q := ⟨_, rfl⟩
        refine s_callS0 (rest := []) (st1 := [.int r_2]) K (c_X4_isIn a1 x2 hq_3) hd_X4_isIn t_458 t_459 t_2 t_460 ⟨(Nat.le_of_ble_eq_true rfl), (Nat.le_of_ble_eq_true rfl)⟩ ⟨rfl, rfl⟩ ⟨Nat.zero_le _, Nat.zero_le _⟩ rfl rfl (Nat.le_of_ble_eq_true rfl) dX4_couldStack_12 ?_
        refine s_if_eq (tgt := 41) K dX4_couldStack_15 (by decide) (fun c_4 => ?_) (fun c_4 => ?_)
        · refine s_iinc (lv' := [(2, .int (x2 + 1)), (0, .ref uh), (1, .int a1)]) K dX4_couldStack_41 2 rfl (kii_1 _) (Nat.le_of_ble_eq_true rfl) rfl ?_
          refine s_goto (tgt := 2) K dX4_couldStack_44 (by decide) ?_
          refine s_lv (lv' := [(0, .ref uh), (1, .int a1), (2, .int (x2 + 1))]) [1, 2, 0] rfl ?_
          exact ih (x2 + 1)
        · refine s_aload_n K dX4_couldStack_18 rfl 0 rfl ?_
          refine s_get K 0 rfl rfl inT4 1 (Nat.le_of_ble_eq_true rfl) t_69 rfl rfl dX4_couldStack_19 ?_
          refine s_iload_n K dX4_couldStack_22 rfl 2 rfl ?_
          refine s_ck (fun ho_5 => ?_)
          refine s_aldb K 2 3 rfl rfl (ok_in ho_5) rfl dX4_couldStack_23 ?_
          refine s_bind (fun q hq_7 => ?_)
          obtain ⟨r_6, rfl⟩ : ∃ z, z = q := ⟨_, rfl⟩
          refine s_callV (w' := (wL cI cC cB cQ kc uh ud ub ua cnt wet stg dys dep knd siz plc onn axs)) (rest := []) (st1 := [.int r_6]) K (c_X1_isGone ua knd siz plc onn axs (Int32.toNatClampNeg x2) (vp_lt (ok_in ho_5)) hq_7) rfl hd_X1_isGone t_310 t_311 t_312 t_3 t_313 ⟨(Nat.le_of_ble_eq_true rfl), (Nat.le_of_ble_eq_true rfl)⟩ ⟨rfl, rfl⟩ ⟨Nat.zero_le _, Nat.zero_le _⟩ (rv_o K (3 + (Int32.toNatClampNeg x2)) (gL_3 (vp_lt (ok_in ho_5))) rfl) [3, 4, 5, 6, 7] [0, 1, 2] [0, 1, 2, 3, 4, 5, 6, 7] rfl rfl rfl rfl (by decide) rfl rfl rfl rfl (Nat.le_of_ble_eq_true rfl) dX4_couldStack_24 ?_
          refine s_if_ne (tgt := 39) K dX4_couldStack_27 (by decide) (fun c_8 => ?_) (fun c_8 => ?_)
          · refine s_aload_n K dX4_couldStack_30 rfl 0 rfl ?_
            refine s_iload_n K dX4_couldStack_31 rfl 1 rfl ?_
            refine s_iload_n K dX4_couldStack_32 rfl 2 rfl ?_
            refine s_bind (fun q hq_10 => ?_)
            obtain ⟨r_9, rfl⟩ : ∃ z, z = q := ⟨_, rfl⟩
            refine s_callV (w' := (wL cI cC cB cQ kc uh ud ub ua cnt wet stg dys dep knd siz plc onn axs)) (rest := []) (st1 := [.int r_9]) K (c_X4_couldJoin uh ud ub ua cnt wet stg dys dep knd siz plc onn axs a1 x2 hq_10) rfl hd_X4_couldJoin t_461 t_463 ts_5 t_2 t_464 ⟨(Nat.le_of_ble_eq_true rfl), (Nat.le_of_ble_eq_true rfl)⟩ ⟨rfl, rfl⟩ ⟨Nat.zero_le _, Nat.zero_le _⟩ (rv_o K 0 rfl rfl) [0, 1, 2, 3, 4, 5, 6, 7] [] [0, 1, 2, 3, 4, 5, 6, 7] rfl rfl rfl rfl (by decide) rfl rfl rfl rfl (Nat.le_of_ble_eq_true rfl) dX4_couldStack_33 ?_
            refine s_if_ne (tgt := 41) K dX4_couldStack_36 (by decide) (fun c_11 => ?_) (fun c_11 => ?_)
            · refine s_iconst K dX4_couldStack_39 kic_0 ?_
              exact s_zret K hret hlk rfl rfl rfl dX4_couldStack_40
            · refine s_iinc (lv' := [(2, .int (x2 + 1)), (0, .ref uh), (1, .int a1)]) K dX4_couldStack_41 2 rfl (kii_1 _) (Nat.le_of_ble_eq_true rfl) rfl ?_
              refine s_goto (tgt := 2) K dX4_couldStack_44 (by decide) ?_
              refine s_lv (lv' := [(0, .ref uh), (1, .int a1), (2, .int (x2 + 1))]) [1, 2, 0] rfl ?_
              exact ih (x2 + 1)
          · refine s_iconst K dX4_couldStack_39 kic_0 ?_
            exact s_zret K hret hlk rfl rfl rfl dX4_couldStack_40
  rewrite [f_X4_couldStack]
  refine s_iconst K dX4_couldStack_0 kic_0 ?_
  refine s_istore_n (lv' := [(2, .int 0), (0, .ref uh), (1, .int a1)]) K dX4_couldStack_1 rfl (Nat.le_of_ble_eq_true rfl) rfl ?_
  refine s_lv (lv' := [(0, .ref uh), (1, .int a1), (2, .int 0)]) [1, 2, 0] rfl ?_
  exact L2 70 0
set_option maxHeartbeats 4000000 in
set_option maxRecDepth 100000 in
theorem c_X4_heightOfAll {l : Launch} {D : va_G} {cI cC cB cQ : ClassId} {kc : Nat → Nat} {kt : Nat} (uh ud ub : Nat) (ua : Nat → Nat) (cnt wet stg dys : Int32) (dep : Nat → Int32) (knd : Nat → Nat) (siz plc onn axs : Nat → Int32) (a1 : Int32) {r : Int32} (hF : f_X4_heightOfAll cnt siz a1 = some r) : CT l D (tysOf cI cC cB cQ) kc kt yX4_heightOfAll cX4_heightOfAll 4 (some .int) ({ frames := 2, cells := 0, slots := 0, locals := 102 } : Room) [.ref uh, .int a1] (wL cI cC cB cQ kc uh ud ub ua cnt wet stg dys dep knd siz plc onn axs) ((fun (r : Int32) => (wL cI cC cB cQ kc uh ud ub ua cnt wet stg dys dep knd siz plc onn axs)) r) ((fun (r : Int32) => some (.int r)) r) := by
  refine CT.of (ww := (fun (r : Int32) => (wL cI cC cB cQ kc uh ud ub ua cnt wet stg dys dep knd siz plc onn axs))) (oo := (fun (r : Int32) => some (.int r))) hF RX4 rfl rfl (Nat.le_of_ble_eq_true rfl) ?_
  intro p e s m args below meth c A K hret hlk
  have L4 : ∀ (fu : Nat) (x2 x3 : Int32), Sw (ρ := Int32) p l e ({ frames := 2, cells := 0, slots := 0, locals := 102 } : Room) s m args below meth c 0 0 D A 4 (fun r => MQ below (CQ D ((fun (r : Int32) => (wL cI cC cB cQ kc uh ud ub ua cnt wet stg dys dep knd siz plc onn axs)) r) ((fun (r : Int32) => some (.int r)) r) A) args s 0 0 A) (f_X4_heightOfAll_h4 cnt siz a1 fu x2 x3) (wL cI cC cB cQ kc uh ud ub ua cnt wet stg dys dep knd siz plc onn axs) [(0, .ref uh), (1, .int a1), (2, .int x2), (3, .int x3)] 4 [] := by
    intro  fu
    induction fu with
    | zero =>
      intro x2 x3
      rewrite [f_X4_heightOfAll_h4]
      exact s_none
    | succ fu ih =>
      intro x2 x3
      rewrite [f_X4_heightOfAll_h4]
      refine s_iload_n K dX4_heightOfAll_4 rfl 3 rfl ?_
      refine s_aload_n K dX4_heightOfAll_5 rfl 0 rfl ?_
      refine s_get K 0 rfl rfl inT4 2 (Nat.le_of_ble_eq_true rfl) t_71 rfl rfl dX4_heightOfAll_6 ?_
      refine s_icmp_ge (tgt := 41) K dX4_heightOfAll_9 (by decide) (fun c_1 => ?_) (fun c_1 => ?_)
      · refine s_iload_n K dX4_heightOfAll_41 rfl 2 rfl ?_
        exact s_iret K hret hlk rfl rfl dX4_heightOfAll_42
      · refine s_iload_n K dX4_heightOfAll_12 rfl 1 rfl ?_
        refine s_iload_n K dX4_heightOfAll_13 rfl 3 rfl ?_
        refine s_bind (fun q hq_3 => ?_)
        obtain ⟨r_2, rfl⟩ : ∃ z, z = q := ⟨_, rfl⟩
        refine s_callS0 (rest := []) (st1 := [.int r_2]) K (c_X4_isIn a1 x3 hq_3) hd_X4_isIn t_458 t_459 t_2 t_460 ⟨(Nat.le_of_ble_eq_true rfl), (Nat.le_of_ble_eq_true rfl)⟩ ⟨rfl, rfl⟩ ⟨Nat.zero_le _, Nat.zero_le _⟩ rfl rfl (Nat.le_of_ble_eq_true rfl) dX4_heightOfAll_14 ?_
        refine s_if_eq (tgt := 35) K dX4_heightOfAll_17 (by decide) (fun c_4 => ?_) (fun c_4 => ?_)
        · refine s_iinc (lv' := [(3, .int (x3 + 1)), (0, .ref uh), (1, .int a1), (2, .int x2)]) K dX4_heightOfAll_35 3 rfl (kii_1 _) (Nat.le_of_ble_eq_true rfl) rfl ?_
          refine s_goto (tgt := 4) K dX4_heightOfAll_38 (by decide) ?_
          refine s_lv (lv' := [(0, .ref uh), (1, .int a1), (2, .int x2), (3, .int (x3 + 1))]) [1, 2, 3, 0] rfl ?_
          exact ih x2 (x3 + 1)
        · refine s_iload_n K dX4_heightOfAll_20 rfl 2 rfl ?_
          refine s_aload_n K dX4_heightOfAll_21 rfl 0 rfl ?_
          refine s_get K 0 rfl rfl inT4 1 (Nat.le_of_ble_eq_true rfl) t_69 rfl rfl dX4_heightOfAll_22 ?_
          refine s_iload_n K dX4_heightOfAll_25 rfl 3 rfl ?_
          refine s_ck (fun ho_5 => ?_)
          refine s_aldb K 2 3 rfl rfl (ok_in ho_5) rfl dX4_heightOfAll_26 ?_
          refine s_get K (3 + (Int32.toNatClampNeg x3)) (gL_3 (vp_lt (ok_in ho_5))) rfl inT1 1 (Nat.le_of_ble_eq_true rfl) t_42 rfl rfl dX4_heightOfAll_27 ?_
          refine s_bind (fun q hq_7 => ?_)
          obtain ⟨r_6, rfl⟩ : ∃ z, z = q := ⟨_, rfl⟩
          refine s_callSN0 (rest := [.int x2]) (st1 := [.int r_6, .int x2]) K (c_X7_rootOf (siz (Int32.toNatClampNeg x3)) hq_7) hd_X7_rootOf nl_6 t_235 t_1 t_236 ⟨(Nat.le_of_ble_eq_true rfl), (Nat.le_of_ble_eq_true rfl)⟩ ⟨rfl, rfl⟩ ⟨Nat.zero_le _, Nat.zero_le _⟩ rfl rfl (Nat.le_of_ble_eq_true rfl) dX4_heightOfAll_30 ?_
          refine s_iadd K dX4_heightOfAll_33 ?_
          refine s_istore_n (lv' := [(2, .int (x2 + r_6)), (0, .ref uh), (1, .int a1), (3, .int x3)]) K dX4_heightOfAll_34 rfl (Nat.le_of_ble_eq_true rfl) rfl ?_
          refine s_iinc (lv' := [(3, .int (x3 + 1)), (2, .int (x2 + r_6)), (0, .ref uh), (1, .int a1)]) K dX4_heightOfAll_35 3 rfl (kii_1 _) (Nat.le_of_ble_eq_true rfl) rfl ?_
          refine s_goto (tgt := 4) K dX4_heightOfAll_38 (by decide) ?_
          refine s_lv (lv' := [(0, .ref uh), (1, .int a1), (2, .int (x2 + r_6)), (3, .int (x3 + 1))]) [2, 3, 1, 0] rfl ?_
          exact ih (x2 + r_6) (x3 + 1)
  rewrite [f_X4_heightOfAll]
  refine s_iconst K dX4_heightOfAll_0 kic_0 ?_
  refine s_istore_n (lv' := [(2, .int 0), (0, .ref uh), (1, .int a1)]) K dX4_heightOfAll_1 rfl (Nat.le_of_ble_eq_true rfl) rfl ?_
  refine s_iconst K dX4_heightOfAll_2 kic_0 ?_
  refine s_istore_n (lv' := [(3, .int 0), (2, .int 0), (0, .ref uh), (1, .int a1)]) K dX4_heightOfAll_3 rfl (Nat.le_of_ble_eq_true rfl) rfl ?_
  refine s_lv (lv' := [(0, .ref uh), (1, .int a1), (2, .int 0), (3, .int 0)]) [2, 3, 1, 0] rfl ?_
  exact L4 70 0 0
set_option maxHeartbeats 4000000 in
set_option maxRecDepth 100000 in
theorem c_X4_highestThree {l : Launch} {D : va_G} {cI cC cB cQ : ClassId} {kc : Nat → Nat} {kt : Nat} (uh ud ub : Nat) (ua : Nat → Nat) (cnt wet stg dys : Int32) (dep : Nat → Int32) (knd : Nat → Nat) (siz plc onn axs : Nat → Int32) {r : Int32} (hF : f_X4_highestThree cnt stg knd siz = some r) : CT l D (tysOf cI cC cB cQ) kc kt yX4_highestThree cX4_highestThree 5 (some .int) ({ frames := 5, cells := 0, slots := 0, locals := 287 } : Room) [.ref uh] (wL cI cC cB cQ kc uh ud ub ua cnt wet stg dys dep knd siz plc onn axs) ((fun (r : Int32) => (wL cI cC cB cQ kc uh ud ub ua cnt wet stg dys dep knd siz plc onn axs)) r) ((fun (r : Int32) => some (.int r)) r) := by
  refine CT.of (ww := (fun (r : Int32) => (wL cI cC cB cQ kc uh ud ub ua cnt wet stg dys dep knd siz plc onn axs))) (oo := (fun (r : Int32) => some (.int r))) hF RX4 rfl rfl (Nat.le_of_ble_eq_true rfl) ?_
  intro p e s m args below meth c A K hret hlk
  have L6 : ∀ (fu : Nat) (x1 x2 x3 : Int32), Sw (ρ := Int32) p l e ({ frames := 5, cells := 0, slots := 0, locals := 287 } : Room) s m args below meth c 0 0 D A 5 (fun r => MQ below (CQ D ((fun (r : Int32) => (wL cI cC cB cQ kc uh ud ub ua cnt wet stg dys dep knd siz plc onn axs)) r) ((fun (r : Int32) => some (.int r)) r) A) args s 0 0 A) (f_X4_highestThree_h6 cnt stg knd siz fu x1 x2 x3) (wL cI cC cB cQ kc uh ud ub ua cnt wet stg dys dep knd siz plc onn axs) [(0, .ref uh), (1, .int x1), (2, .int x2), (3, .int x3)] 6 [] := by
    intro  fu
    induction fu with
    | zero =>
      intro x1 x2 x3
      rewrite [f_X4_highestThree_h6]
      exact s_none
    | succ fu ih =>
      intro x1 x2 x3
      rewrite [f_X4_highestThree_h6]
      refine s_iload_n K dX4_highestThree_6 rfl 3 rfl ?_
      refine s_iconst K dX4_highestThree_7 kic_1 ?_
      refine s_aload_n K dX4_highestThree_8 rfl 0 rfl ?_
      refine s_get K 0 rfl rfl inT4 2 (Nat.le_of_ble_eq_true rfl) t_71 rfl rfl dX4_highestThree_9 ?_
      refine s_ishl K dX4_highestThree_12 ?_
      refine s_icmp_ge (tgt := 64) K dX4_highestThree_13 (by decide) (fun c_1 => ?_) (fun c_1 => ?_)
      · refine s_iload_n K dX4_highestThree_64 rfl 1 rfl ?_
        exact s_iret K hret hlk rfl rfl dX4_highestThree_65
      · refine s_iload_n K dX4_highestThree_16 rfl 3 rfl ?_
        refine s_bind (fun q hq_3 => ?_)
        obtain ⟨r_2, rfl⟩ : ∃ z, z = q := ⟨_, rfl⟩
        refine s_callS0 (rest := []) (st1 := [.int r_2]) K (c_J6_bitCount_0f7a4 x3 hq_3) hd_J6_bitCount_0f7a4 t_448 t_449 t_12 t_450 ⟨(Nat.le_of_ble_eq_true rfl), (Nat.le_of_ble_eq_true rfl)⟩ ⟨rfl, rfl⟩ ⟨Nat.zero_le _, Nat.zero_le _⟩ rfl rfl (Nat.le_of_ble_eq_true rfl) dX4_highestThree_17 ?_
        refine s_iconst K dX4_highestThree_20 kic_3 ?_
        refine s_icmp_ne (tgt := 58) K dX4_highestThree_21 (by decide) (fun c_4 => ?_) (fun c_4 => ?_)
        · refine s_aload_n K dX4_highestThree_24 rfl 0 rfl ?_
          refine s_iload_n K dX4_highestThree_25 rfl 3 rfl ?_
          refine s_bind (fun q hq_6 => ?_)
          obtain ⟨r_5, rfl⟩ : ∃ z, z = q := ⟨_, rfl⟩
          refine s_callV (w' := (wL cI cC cB cQ kc uh ud ub ua cnt wet stg dys dep knd siz plc onn axs)) (rest := []) (st1 := [.int r_5]) K (c_X4_couldStack uh ud ub ua cnt wet stg dys dep knd siz plc onn axs x3 hq_6) rfl hd_X4_couldStack t_454 t_456 ts_4 t_2 t_457 ⟨(Nat.le_of_ble_eq_true rfl), (Nat.le_of_ble_eq_true rfl)⟩ ⟨rfl, rfl⟩ ⟨Nat.zero_le _, Nat.zero_le _⟩ (rv_o K 0 rfl rfl) [0, 1, 2, 3, 4, 5, 6, 7] [] [0, 1, 2, 3, 4, 5, 6, 7] rfl rfl rfl rfl (by decide) rfl rfl rfl rfl (Nat.le_of_ble_eq_true rfl) dX4_highestThree_26 ?_
          refine s_if_ne (tgt := 35) K dX4_highestThree_29 (by decide) (fun c_7 => ?_) (fun c_7 => ?_)
          · refine s_goto (tgt := 58) K dX4_highestThree_32 (by decide) ?_
            refine s_iinc (lv' := [(3, .int (x3 + 1)), (0, .ref uh), (1, .int x1), (2, .int x2)]) K dX4_highestThree_58 3 rfl (kii_1 _) (Nat.le_of_ble_eq_true rfl) rfl ?_
            refine s_goto (tgt := 6) K dX4_highestThree_61 (by decide) ?_
            refine s_lv (lv' := [(0, .ref uh), (1, .int x1), (2, .int x2), (3, .int (x3 + 1))]) [1, 2, 3, 0] rfl ?_
            exact ih x1 x2 (x3 + 1)
          · refine s_aload_n K dX4_highestThree_35 rfl 0 rfl ?_
            refine s_iload_n K dX4_highestThree_36 rfl 3 rfl ?_
            refine s_bind (fun q hq_9 => ?_)
            obtain ⟨r_8, rfl⟩ : ∃ z, z = q := ⟨_, rfl⟩
            refine s_callV (w' := (wL cI cC cB cQ kc uh ud ub ua cnt wet stg dys dep knd siz plc onn axs)) (rest := []) (st1 := [.int r_8]) K (c_X4_heightOfAll uh ud ub ua cnt wet stg dys dep knd siz plc onn axs x3 hq_9) rfl hd_X4_heightOfAll t_465 t_466 t_467 t_2 t_468 ⟨(Nat.le_of_ble_eq_true rfl), (Nat.le_of_ble_eq_true rfl)⟩ ⟨rfl, rfl⟩ ⟨Nat.zero_le _, Nat.zero_le _⟩ (rv_o K 0 rfl rfl) [0, 1, 2, 3, 4, 5, 6, 7] [] [0, 1, 2, 3, 4, 5, 6, 7] rfl rfl rfl rfl (by decide) rfl rfl rfl rfl (Nat.le_of_ble_eq_true rfl) dX4_highestThree_37 ?_
            refine s_istore (lv' := [(4, .int r_8), (0, .ref uh), (1, .int x1), (2, .int x2), (3, .int x3)]) K dX4_highestThree_40 (Nat.le_of_ble_eq_true rfl) rfl ?_
            refine s_iload_n K dX4_highestThree_42 rfl 2 rfl ?_
            refine s_iconst K dX4_highestThree_43 kic_m1 ?_
            refine s_icmp_eq (tgt := 53) K dX4_highestThree_44 (by decide) (fun c_10 => ?_) (fun c_10 => ?_)
            · refine s_iload_n K dX4_highestThree_53 rfl 4 rfl ?_
              refine s_istore_n (lv' := [(1, .int x3), (4, .int r_8), (0, .ref uh), (2, .int x2), (3, .int x3)]) K dX4_highestThree_54 rfl (Nat.le_of_ble_eq_true rfl) rfl ?_
              refine s_iload K dX4_highestThree_55 1 rfl ?_
              refine s_istore_n (lv' := [(2, .int r_8), (1, .int x3), (4, .int r_8), (0, .ref uh), (3, .int x3)]) K dX4_highestThree_57 rfl (Nat.le_of_ble_eq_true rfl) rfl ?_
              refine s_iinc (lv' := [(3, .int (x3 + 1)), (2, .int r_8), (1, .int x3), (4, .int r_8), (0, .ref uh)]) K dX4_highestThree_58 4 rfl (kii_1 _) (Nat.le_of_ble_eq_true rfl) rfl ?_
              refine s_goto (tgt := 6) K dX4_highestThree_61 (by decide) ?_
              refine s_lv (lv' := [(0, .ref uh), (1, .int x3), (2, .int r_8), (3, .int (x3 + 1))]) [4, 2, 1, 0] rfl ?_
              exact ih x3 r_8 (x3 + 1)
            · refine s_iload K dX4_highestThree_47 0 rfl ?_
              refine s_iload_n K dX4_highestThree_49 rfl 3 rfl ?_
              refine s_icmp_le (tgt := 58) K dX4_highestThree_50 (by decide) (fun c_11 => ?_) (fun c_11 => ?_)
              · refine s_iinc (lv' := [(3, .int (x3 + 1)), (4, .int r_8), (0, .ref uh), (1, .int x1), (2, .int x2)]) K dX4_highestThree_58 4 rfl (kii_1 _) (Nat.le_of_ble_eq_true rfl) rfl ?_
                refine s_goto (tgt := 6) K dX4_highestThree_61 (by decide) ?_
                refine s_lv (lv' := [(0, .ref uh), (1, .int x1), (2, .int x2), (3, .int (x3 + 1))]) [2, 3, 4, 0] rfl ?_
                exact ih x1 x2 (x3 + 1)
              · refine s_iload_n K dX4_highestThree_53 rfl 4 rfl ?_
                refine s_istore_n (lv' := [(1, .int x3), (4, .int r_8), (0, .ref uh), (2, .int x2), (3, .int x3)]) K dX4_highestThree_54 rfl (Nat.le_of_ble_eq_true rfl) rfl ?_
                refine s_iload K dX4_highestThree_55 1 rfl ?_
                refine s_istore_n (lv' := [(2, .int r_8), (1, .int x3), (4, .int r_8), (0, .ref uh), (3, .int x3)]) K dX4_highestThree_57 rfl (Nat.le_of_ble_eq_true rfl) rfl ?_
                refine s_iinc (lv' := [(3, .int (x3 + 1)), (2, .int r_8), (1, .int x3), (4, .int r_8), (0, .ref uh)]) K dX4_highestThree_58 4 rfl (kii_1 _) (Nat.le_of_ble_eq_true rfl) rfl ?_
                refine s_goto (tgt := 6) K dX4_highestThree_61 (by decide) ?_
                refine s_lv (lv' := [(0, .ref uh), (1, .int x3), (2, .int r_8), (3, .int (x3 + 1))]) [4, 2, 1, 0] rfl ?_
                exact ih x3 r_8 (x3 + 1)
        · refine s_iinc (lv' := [(3, .int (x3 + 1)), (0, .ref uh), (1, .int x1), (2, .int x2)]) K dX4_highestThree_58 3 rfl (kii_1 _) (Nat.le_of_ble_eq_true rfl) rfl ?_
          refine s_goto (tgt := 6) K dX4_highestThree_61 (by decide) ?_
          refine s_lv (lv' := [(0, .ref uh), (1, .int x1), (2, .int x2), (3, .int (x3 + 1))]) [1, 2, 3, 0] rfl ?_
          exact ih x1 x2 (x3 + 1)
  rewrite [f_X4_highestThree]
  refine s_iconst K dX4_highestThree_0 kic_m1 ?_
  refine s_istore_n (lv' := [(1, .int (-1)), (0, .ref uh)]) K dX4_highestThree_1 rfl (Nat.le_of_ble_eq_true rfl) rfl ?_
  refine s_iconst K dX4_highestThree_2 kic_0 ?_
  refine s_istore_n (lv' := [(2, .int 0), (1, .int (-1)), (0, .ref uh)]) K dX4_highestThree_3 rfl (Nat.le_of_ble_eq_true rfl) rfl ?_
  refine s_iconst K dX4_highestThree_4 kic_0 ?_
  refine s_istore_n (lv' := [(3, .int 0), (2, .int 0), (1, .int (-1)), (0, .ref uh)]) K dX4_highestThree_5 rfl (Nat.le_of_ble_eq_true rfl) rfl ?_
  refine s_lv (lv' := [(0, .ref uh), (1, .int (-1)), (2, .int 0), (3, .int 0)]) [3, 2, 1, 0] rfl ?_
  exact L6 70 (-1) 0 0
set_option maxHeartbeats 4000000 in
set_option maxRecDepth 100000 in
theorem c_X4_daysToFirstGone {l : Launch} {D : va_G} {cI cC cB cQ : ClassId} {kc : Nat → Nat} {kt : Nat} (uh ud ub : Nat) (ua : Nat → Nat) (cnt wet stg dys : Int32) (dep : Nat → Int32) (knd : Nat → Nat) (siz plc onn axs : Nat → Int32) (a1 : Int32) {r : Int32} (hF : f_X4_daysToFirstGone cnt knd siz a1 = some r) : CT l D (tysOf cI cC cB cQ) kc kt yX4_daysToFirstGone cX4_daysToFirstGone 7 (some .int) ({ frames := 2, cells := 0, slots := 0, locals := 101 } : Room) [.ref uh, .int a1] (wL cI cC cB cQ kc uh ud ub ua cnt wet stg dys dep knd siz plc onn axs) ((fun (r : Int32) => (wL cI cC cB cQ kc uh ud ub ua cnt wet stg dys dep knd siz plc onn axs)) r) ((fun (r : Int32) => some (.int r)) r) := by
  refine CT.of (ww := (fun (r : Int32) => (wL cI cC cB cQ kc uh ud ub ua cnt wet stg dys dep knd siz plc onn axs))) (oo := (fun (r : Int32) => some (.int r))) hF RX4 rfl rfl (Nat.le_of_ble_eq_true rfl) ?_
  intro p e s m args below meth c A K hret hlk
  have L4 : ∀ (fu : Nat) (x2 x3 : Int32), Sw (ρ := Int32) p l e ({ frames := 2, cells := 0, slots := 0, locals := 101 } : Room) s m args below meth c 0 0 D A 7 (fun r => MQ below (CQ D ((fun (r : Int32) => (wL cI cC cB cQ kc uh ud ub ua cnt wet stg dys dep knd siz plc onn axs)) r) ((fun (r : Int32) => some (.int r)) r) A) args s 0 0 A) (f_X4_daysToFirstGone_h4 cnt knd siz a1 fu x2 x3) (wL cI cC cB cQ kc uh ud ub ua cnt wet stg dys dep knd siz plc onn axs) [(0, .ref uh), (1, .int a1), (2, .int x2), (3, .int x3)] 4 [] := by
    intro  fu
    induction fu with
    | zero =>
      intro x2 x3
      rewrite [f_X4_daysToFirstGone_h4]
      exact s_none
    | succ fu ih =>
      intro x2 x3
      rewrite [f_X4_daysToFirstGone_h4]
      refine s_iload_n K dX4_daysToFirstGone_4 rfl 3 rfl ?_
      refine s_aload_n K dX4_daysToFirstGone_5 rfl 0 rfl ?_
      refine s_get K 0 rfl rfl inT4 2 (Nat.le_of_ble_eq_true rfl) t_71 rfl rfl dX4_daysToFirstGone_6 ?_
      refine s_icmp_ge (tgt := 82) K dX4_daysToFirstGone_9 (by decide) (fun c_1 => ?_) (fun c_1 => ?_)
      · refine s_iload_n K dX4_daysToFirstGone_82 rfl 2 rfl ?_
        exact s_iret K hret hlk rfl rfl dX4_daysToFirstGone_83
      · refine s_aload_n K dX4_daysToFirstGone_12 rfl 0 rfl ?_
        refine s_get K 0 rfl rfl inT4 1 (Nat.le_of_ble_eq_true rfl) t_69 rfl rfl dX4_daysToFirstGone_13 ?_
        refine s_iload_n K dX4_daysToFirstGone_16 rfl 3 rfl ?_
        refine s_ck (fun ho_2 => ?_)
        refine s_aldb K 2 3 rfl rfl (ok_in ho_2) rfl dX4_daysToFirstGone_17 ?_
        refine s_astore (lv' := [(4, .ref (ua (Int32.toNatClampNeg x3))), (0, .ref uh), (1, .int a1), (2, .int x2), (3, .int x3)]) K dX4_daysToFirstGone_18 (Nat.le_of_ble_eq_true rfl) rfl ?_
        refine s_aload K dX4_daysToFirstGone_20 0 rfl ?_
        refine s_get K (3 + (Int32.toNatClampNeg x3)) (gL_3 (vp_lt (ok_in ho_2))) rfl inT1 0 (Nat.le_of_ble_eq_true rfl) t_38 rfl rfl dX4_daysToFirstGone_22 ?_
        refine s_iload_n K dX4_daysToFirstGone_25 rfl 2 rfl ?_
        refine s_ck (fun hk_3 => ?_)
        refine s_bind (fun q hq_5 => ?_)
        obtain ⟨r_4, rfl⟩ : ∃ z, z = q := ⟨_, rfl⟩
        refine s_callV0 (rest := []) (st1 := [.int r_4]) K (c_X2_melts a1 (knd (Int32.toNatClampNeg x3)) hk_3 hq_5) rfl hd_X2_melts t_388 t_389 t_390 t_5 t_391 ⟨(Nat.le_of_ble_eq_true rfl), (Nat.le_of_ble_eq_true rfl)⟩ ⟨rfl, rfl⟩ ⟨Nat.zero_le _, Nat.zero_le _⟩ (rv_k K hk_3) rfl rfl (Nat.le_of_ble_eq_true rfl) dX4_daysToFirstGone_26 ?_
        refine s_istore (lv' := [(5, .int r_4), (4, .ref (ua (Int32.toNatClampNeg x3))), (0, .ref uh), (1, .int a1), (2, .int x2), (3, .int x3)]) K dX4_daysToFirstGone_29 (Nat.le_of_ble_eq_true rfl) rfl ?_
        refine s_aload K dX4_daysToFirstGone_31 1 rfl ?_
        refine s_bind (fun q hq_7 => ?_)
        obtain ⟨r_6, rfl⟩ : ∃ z, z = q := ⟨_, rfl⟩
        refine s_callV (w' := (wL cI cC cB cQ kc uh ud ub ua cnt wet stg dys dep knd siz plc onn axs)) (rest := []) (st1 := [.int r_6]) K (c_X1_isGone ua knd siz plc onn axs (Int32.toNatClampNeg x3) (vp_lt (ok_in ho_2)) hq_7) rfl hd_X1_isGone t_310 t_311 t_312 t_3 t_313 ⟨(Nat.le_of_ble_eq_true rfl), (Nat.le_of_ble_eq_true rfl)⟩ ⟨rfl, rfl⟩ ⟨Nat.zero_le _, Nat.zero_le _⟩ (rv_o K (3 + (Int32.toNatClampNeg x3)) (gL_3 (vp_lt (ok_in ho_2))) rfl) [3, 4, 5, 6, 7] [0, 1, 2] [0, 1, 2, 3, 4, 5, 6, 7] rfl rfl rfl rfl (by decide) rfl rfl rfl rfl (Nat.le_of_ble_eq_true rfl) dX4_daysToFirstGone_33 ?_
        refine s_if_ne (tgt := 76) K dX4_daysToFirstGone_36 (by decide) (fun c_8 => ?_) (fun c_8 => ?_)
        · refine s_iload K dX4_daysToFirstGone_39 0 rfl ?_
          refine s_if_gt (tgt := 47) K dX4_daysToFirstGone_41 (by decide) (fun c_9 => ?_) (fun c_9 => ?_)
          · refine s_aload K dX4_daysToFirstGone_47 1 rfl ?_
            refine s_get K (3 + (Int32.toNatClampNeg x3)) (gL_3 (vp_lt (ok_in ho_2))) rfl inT1 1 (Nat.le_of_ble_eq_true rfl) t_42 rfl rfl dX4_daysToFirstGone_49 ?_
            refine s_iload K dX4_daysToFirstGone_52 0 rfl ?_
            refine s_iadd K dX4_daysToFirstGone_54 ?_
            refine s_iconst K dX4_daysToFirstGone_55 kic_1 ?_
            refine s_isub K dX4_daysToFirstGone_56 ?_
            refine s_iload K dX4_daysToFirstGone_57 0 rfl ?_
            refine s_ck (fun hz_10 => ?_)
            refine s_idiv K dX4_daysToFirstGone_59 hz_10 ?_
            refine s_istore (lv' := [(6, .int ((((siz (Int32.toNatClampNeg x3)) + r_4) - 1) / r_4)), (5, .int r_4), (4, .ref (ua (Int32.toNatClampNeg x3))), (0, .ref uh), (1, .int a1), (2, .int x2), (3, .int x3)]) K dX4_daysToFirstGone_60 (Nat.le_of_ble_eq_true rfl) rfl ?_
            refine s_iload_n K dX4_daysToFirstGone_62 rfl 5 rfl ?_
            refine s_iconst K dX4_daysToFirstGone_63 kic_m1 ?_
            refine s_icmp_eq (tgt := 73) K dX4_daysToFirstGone_64 (by decide) (fun c_11 => ?_) (fun c_11 => ?_)
            · refine s_iload K dX4_daysToFirstGone_73 0 rfl ?_
              refine s_istore_n (lv' := [(2, .int ((((siz (Int32.toNatClampNeg x3)) + r_4) - 1) / r_4)), (6, .int ((((siz (Int32.toNatClampNeg x3)) + r_4) - 1) / r_4)), (5, .int r_4), (4, .ref (ua (Int32.toNatClampNeg x3))), (0, .ref uh), (1, .int a1), (3, .int x3)]) K dX4_daysToFirstGone_75 rfl (Nat.le_of_ble_eq_true rfl) rfl ?_
              refine s_iinc (lv' := [(3, .int (x3 + 1)), (2, .int ((((siz (Int32.toNatClampNeg x3)) + r_4) - 1) / r_4)), (6, .int ((((siz (Int32.toNatClampNeg x3)) + r_4) - 1) / r_4)), (5, .int r_4), (4, .ref (ua (Int32.toNatClampNeg x3))), (0, .ref uh), (1, .int a1)]) K dX4_daysToFirstGone_76 6 rfl (kii_1 _) (Nat.le_of_ble_eq_true rfl) rfl ?_
              refine s_goto (tgt := 4) K dX4_daysToFirstGone_79 (by decide) ?_
              refine s_lv (lv' := [(0, .ref uh), (1, .int a1), (2, .int ((((siz (Int32.toNatClampNeg x3)) + r_4) - 1) / r_4)), (3, .int (x3 + 1))]) [5, 6, 1, 0] rfl ?_
              exact ih ((((siz (Int32.toNatClampNeg x3)) + r_4) - 1) / r_4) (x3 + 1)
            · refine s_iload K dX4_daysToFirstGone_67 0 rfl ?_
              refine s_iload_n K dX4_daysToFirstGone_69 rfl 5 rfl ?_
              refine s_icmp_ge (tgt := 76) K dX4_daysToFirstGone_70 (by decide) (fun c_12 => ?_) (fun c_12 => ?_)
              · refine s_iinc (lv' := [(3, .int (x3 + 1)), (6, .int ((((siz (Int32.toNatClampNeg x3)) + r_4) - 1) / r_4)), (5, .int r_4), (4, .ref (ua (Int32.toNatClampNeg x3))), (0, .ref uh), (1, .int a1), (2, .int x2)]) K dX4_daysToFirstGone_76 6 rfl (kii_1 _) (Nat.le_of_ble_eq_true rfl) rfl ?_
                refine s_goto (tgt := 4) K dX4_daysToFirstGone_79 (by decide) ?_
                refine s_lv (lv' := [(0, .ref uh), (1, .int a1), (2, .int x2), (3, .int (x3 + 1))]) [4, 5, 6, 0] rfl ?_
                exact ih x2 (x3 + 1)
              · refine s_iload K dX4_daysToFirstGone_73 0 rfl ?_
                refine s_istore_n (lv' := [(2, .int ((((siz (Int32.toNatClampNeg x3)) + r_4) - 1) / r_4)), (6, .int ((((siz (Int32.toNatClampNeg x3)) + r_4) - 1) / r_4)), (5, .int r_4), (4, .ref (ua (Int32.toNatClampNeg x3))), (0, .ref uh), (1, .int a1), (3, .int x3)]) K dX4_daysToFirstGone_75 rfl (Nat.le_of_ble_eq_true rfl) rfl ?_
                refine s_iinc (lv' := [(3, .int (x3 + 1)), (2, .int ((((siz (Int32.toNatClampNeg x3)) + r_4) - 1) / r_4)), (6, .int ((((siz (Int32.toNatClampNeg x3)) + r_4) - 1) / r_4)), (5, .int r_4), (4, .ref (ua (Int32.toNatClampNeg x3))), (0, .ref uh), (1, .int a1)]) K dX4_daysToFirstGone_76 6 rfl (kii_1 _) (Nat.le_of_ble_eq_true rfl) rfl ?_
                refine s_goto (tgt := 4) K dX4_daysToFirstGone_79 (by decide) ?_
                refine s_lv (lv' := [(0, .ref uh), (1, .int a1), (2, .int ((((siz (Int32.toNatClampNeg x3)) + r_4) - 1) / r_4)), (3, .int (x3 + 1))]) [5, 6, 1, 0] rfl ?_
                exact ih ((((siz (Int32.toNatClampNeg x3)) + r_4) - 1) / r_4) (x3 + 1)
          · refine s_goto (tgt := 76) K dX4_daysToFirstGone_44 (by decide) ?_
            refine s_iinc (lv' := [(3, .int (x3 + 1)), (5, .int r_4), (4, .ref (ua (Int32.toNatClampNeg x3))), (0, .ref uh), (1, .int a1), (2, .int x2)]) K dX4_daysToFirstGone_76 5 rfl (kii_1 _) (Nat.le_of_ble_eq_true rfl) rfl ?_
            refine s_goto (tgt := 4) K dX4_daysToFirstGone_79 (by decide) ?_
            refine s_lv (lv' := [(0, .ref uh), (1, .int a1), (2, .int x2), (3, .int (x3 + 1))]) [3, 4, 5, 0] rfl ?_
            exact ih x2 (x3 + 1)
        · refine s_iinc (lv' := [(3, .int (x3 + 1)), (5, .int r_4), (4, .ref (ua (Int32.toNatClampNeg x3))), (0, .ref uh), (1, .int a1), (2, .int x2)]) K dX4_daysToFirstGone_76 5 rfl (kii_1 _) (Nat.le_of_ble_eq_true rfl) rfl ?_
          refine s_goto (tgt := 4) K dX4_daysToFirstGone_79 (by decide) ?_
          refine s_lv (lv' := [(0, .ref uh), (1, .int a1), (2, .int x2), (3, .int (x3 + 1))]) [3, 4, 5, 0] rfl ?_
          exact ih x2 (x3 + 1)
  rewrite [f_X4_daysToFirstGone]
  refine s_iconst K dX4_daysToFirstGone_0 kic_m1 ?_
  refine s_istore_n (lv' := [(2, .int (-1)), (0, .ref uh), (1, .int a1)]) K dX4_daysToFirstGone_1 rfl (Nat.le_of_ble_eq_true rfl) rfl ?_
  refine s_iconst K dX4_daysToFirstGone_2 kic_0 ?_
  refine s_istore_n (lv' := [(3, .int 0), (2, .int (-1)), (0, .ref uh), (1, .int a1)]) K dX4_daysToFirstGone_3 rfl (Nat.le_of_ble_eq_true rfl) rfl ?_
  refine s_lv (lv' := [(0, .ref uh), (1, .int a1), (2, .int (-1)), (3, .int 0)]) [2, 3, 1, 0] rfl ?_
  exact L4 70 (-1) 0
set_option maxHeartbeats 4000000 in
set_option maxRecDepth 100000 in
theorem cr_X7_explore_G {l : Launch} {D : va_G} {cI cC cB cQ : ClassId} {kc : Nat → Nat} {kt : Nat} : ∀ (d : Nat) (uh ud ub : Nat) (ua : Nat → Nat) (g : Nat) (cnt wet stg dys : Int32) (dep : Nat → Int32) (knd : Nat → Nat) (siz plc onn axs : Nat → Int32) (gwy grl gsz : Int32) (a1 a3 a4 a5 : Int32) {r : (Nat → Int32) × (Nat → Int32) × (Nat → Int32) × (Nat → Int32) × (Nat → Int32) × Int32}, fr_X7_explore_G d cnt wet stg dys dep knd siz plc onn axs gwy grl gsz a1 a3 a4 a5 = some r → CT l D (tysOf cI cC cB cQ) kc kt yX7_explore cX7_explore 13 none ({ frames := d + 20, cells := 0, slots := 0, locals := d * 100 + 1500 } : Room) [.ref uh, .int a1, .ref g, .int a3, .int a4, .int a5] (wLGG cI cC cB cQ kc uh ud ub ua g cnt wet stg dys dep knd siz plc onn axs gwy grl gsz) ((fun (r : (Nat → Int32) × (Nat → Int32) × (Nat → Int32) × (Nat → Int32) × (Nat → Int32) × Int32) => (wLGG cI cC cB cQ kc uh ud ub ua g cnt wet stg dys (r.1) knd (r.2.1) (r.2.2.1) (r.2.2.2.1) (r.2.2.2.2.1) (r.2.2.2.2.2) grl gsz)) r) ((fun (r : (Nat → Int32) × (Nat → Int32) × (Nat → Int32) × (Nat → Int32) × (Nat → Int32) × Int32) => none) r) := by
  intro d
  induction d with
  | zero =>
    intro uh ud ub ua g cnt wet stg dys dep knd siz plc onn axs gwy grl gsz a1 a3 a4 a5 r hF
    rewrite [fr_X7_explore_G] at hF
    cases hF
  | succ d ihr =>
    intro uh ud ub ua g cnt wet stg dys dep knd siz plc onn axs gwy grl gsz a1 a3 a4 a5 r hF
    refine CT.of (ww := (fun (r : (Nat → Int32) × (Nat → Int32) × (Nat → Int32) × (Nat → Int32) × (Nat → Int32) × Int32) => (wLGG cI cC cB cQ kc uh ud ub ua g cnt wet stg dys (r.1) knd (r.2.1) (r.2.2.1) (r.2.2.2.1) (r.2.2.2.2.1) (r.2.2.2.2.2) grl gsz))) (oo := (fun (r : (Nat → Int32) × (Nat → Int32) × (Nat → Int32) × (Nat → Int32) × (Nat → Int32) × Int32) => none)) hF RX7 rfl rfl (Nat.le_of_ble_eq_true rfl) ?_
    intro p e s m args below meth c A K hret hlk
    have L56 : ∀ (fu : Nat) (dep siz plc onn axs : Nat → Int32) (gwy x7 x8 x9 x10 : Int32), (Int32.toNatClampNeg a1) < 5 → Sw (ρ := (Nat → Int32) × (Nat → Int32) × (Nat → Int32) × (Nat → Int32) × (Nat → Int32) × Int32) p l e ({ frames := (d + 1) + 20, cells := 0, slots := 0, locals := (d + 1) * 100 + 1500 } : Room) s m args below meth c 0 0 D A 13 (fun r => MQ below (CQ D ((fun (r : (Nat → Int32) × (Nat → Int32) × (Nat → Int32) × (Nat → Int32) × (Nat → Int32) × Int32) => (wLGG cI cC cB cQ kc uh ud ub ua g cnt wet stg dys (r.1) knd (r.2.1) (r.2.2.1) (r.2.2.2.1) (r.2.2.2.2.1) (r.2.2.2.2.2) grl gsz)) r) ((fun (r : (Nat → Int32) × (Nat → Int32) × (Nat → Int32) × (Nat → Int32) × (Nat → Int32) × Int32) => none) r) A) args s 0 0 A) (f_X7_explore_G_h56 (fr_X7_explore_G d) cnt wet stg dys knd grl gsz a1 a3 a4 a5 fu dep siz plc onn axs gwy x7 x8 x9 x10) (wLGG cI cC cB cQ kc uh ud ub ua g cnt wet stg dys dep knd siz plc onn axs gwy grl gsz) [(0, .ref uh), (1, .int a1), (2, .ref g), (3, .int a3), (4, .int a4), (5, .int a5), (6, .ref (ua (Int32.toNatClampNeg a1))), (7, .int x7), (8, .int x8), (9, .int x9), (10, .int x10)] 56 [] := by
      intro  fu
      induction fu with
      | zero =>
        intro dep siz plc onn axs gwy x7 x8 x9 x10 hq6
        rewrite [f_X7_explore_G_h56]
        exact s_none
      | succ fu ih =>
        intro dep siz plc onn axs gwy x7 x8 x9 x10 hq6
        rewrite [f_X7_explore_G_h56]
        refine s_iload K dX7_explore_56 10 rfl ?_
        refine s_iconst K dX7_explore_58 kic_4 ?_
        refine s_icmp_ge (tgt := 169) K dX7_explore_59 (by decide) (fun c_6 => ?_) (fun c_6 => ?_)
        · exact s_vret K hret hlk rfl rfl dX7_explore_169
        · refine s_aload_n K dX7_explore_62 rfl 0 rfl ?_
          refine s_iload_n K dX7_explore_63 rfl 1 rfl ?_
          refine s_iload K dX7_explore_64 10 rfl ?_
          refine s_bind (fun q hq_8 => ?_)
          obtain ⟨r_7, rfl⟩ : ∃ z, z = q := ⟨_, rfl⟩
          refine s_callV (w' := (wLGG cI cC cB cQ kc uh ud ub ua g cnt wet stg dys dep knd siz plc onn axs gwy grl gsz)) (rest := []) (st1 := [.int r_7]) K (c_X4_canRoll uh ud ub ua cnt wet stg dys dep knd siz plc onn axs a1 x10 hq_8) rfl hd_X4_canRoll t_302 t_303 t_304 t_2 t_305 ⟨by show 4 + 1 ≤ d + 1 + 20; omega, by show 8 + (5 + 11) + 224 ≤ (d + 1) * 100 + 1500; omega⟩ ⟨rfl, rfl⟩ ⟨Nat.zero_le _, Nat.zero_le _⟩ (rv_o K 0 rfl rfl) [0, 1, 2, 3, 4, 5, 6, 7] [8] [1, 2, 3, 4, 5, 6, 7, 8, 0] rfl rfl rfl rfl (by decide) rfl rfl rfl rfl (Nat.le_of_ble_eq_true rfl) dX7_explore_66 ?_
          refine s_if_ne (tgt := 75) K dX7_explore_69 (by decide) (fun c_9 => ?_) (fun c_9 => ?_)
          · refine s_goto (tgt := 163) K dX7_explore_72 (by decide) ?_
            refine s_iinc (lv' := [(10, .int (x10 + 1)), (0, .ref uh), (1, .int a1), (2, .ref g), (3, .int a3), (4, .int a4), (5, .int a5), (6, .ref (ua (Int32.toNatClampNeg a1))), (7, .int x7), (8, .int x8), (9, .int x9)]) K dX7_explore_163 10 rfl (kii_1 _) (Nat.le_of_ble_eq_true rfl) rfl ?_
            refine s_goto (tgt := 56) K dX7_explore_166 (by decide) ?_
            refine s_lv (lv' := [(0, .ref uh), (1, .int a1), (2, .ref g), (3, .int a3), (4, .int a4), (5, .int a5), (6, .ref (ua (Int32.toNatClampNeg a1))), (7, .int x7), (8, .int x8), (9, .int x9), (10, .int (x10 + 1))]) [1, 2, 3, 4, 5, 6, 7, 8, 9, 10, 0] rfl ?_
            exact ih dep siz plc onn axs gwy x7 x8 x9 (x10 + 1) hq6
          · refine s_iload K dX7_explore_75 7 rfl ?_
            refine s_iload K dX7_explore_77 10 rfl ?_
            refine s_bind (fun q hq_11 => ?_)
            obtain ⟨r_10, rfl⟩ : ∃ z, z = q := ⟨_, rfl⟩
            refine s_callS0 (rest := []) (st1 := [.int r_10]) K (c_X7_beside x7 x10 hq_11) hd_X7_beside t_374 t_327 t_1 t_328 ⟨by show 3 + 1 ≤ d + 1 + 20; omega, by show 8 + (3 + 11) + 162 ≤ (d + 1) * 100 + 1500; omega⟩ ⟨rfl, rfl⟩ ⟨Nat.zero_le _, Nat.zero_le _⟩ rfl rfl (Nat.le_of_ble_eq_true rfl) dX7_explore_79 ?_
            refine s_istore (lv' := [(11, .int r_10), (0, .ref uh), (1, .int a1), (2, .ref g), (3, .int a3), (4, .int a4), (5, .int a5), (6, .ref (ua (Int32.toNatClampNeg a1))), (7, .int x7), (8, .int x8), (9, .int x9), (10, .int x10)]) K dX7_explore_82 (Nat.le_of_ble_eq_true rfl) rfl ?_
            refine s_iload K dX7_explore_84 0 rfl ?_
            refine s_iconst K dX7_explore_86 kic_m1 ?_
            refine s_icmp_ne (tgt := 93) K dX7_explore_87 (by decide) (fun c_12 => ?_) (fun c_12 => ?_)
            · refine s_goto (tgt := 163) K dX7_explore_90 (by decide) ?_
              refine s_iinc (lv' := [(10, .int (x10 + 1)), (11, .int r_10), (0, .ref uh), (1, .int a1), (2, .ref g), (3, .int a3), (4, .int a4), (5, .int a5), (6, .ref (ua (Int32.toNatClampNeg a1))), (7, .int x7), (8, .int x8), (9, .int x9)]) K dX7_explore_163 11 rfl (kii_1 _) (Nat.le_of_ble_eq_true rfl) rfl ?_
              refine s_goto (tgt := 56) K dX7_explore_166 (by decide) ?_
              refine s_lv (lv' := [(0, .ref uh), (1, .int a1), (2, .ref g), (3, .int a3), (4, .int a4), (5, .int a5), (6, .ref (ua (Int32.toNatClampNeg a1))), (7, .int x7), (8, .int x8), (9, .int x9), (10, .int (x10 + 1))]) [2, 3, 4, 5, 6, 7, 8, 9, 10, 11, 0] rfl ?_
              exact ih dep siz plc onn axs gwy x7 x8 x9 (x10 + 1) hq6
            · refine s_aload_n K dX7_explore_93 rfl 1 rfl ?_
              refine s_get K 0 rfl rfl inT4 0 (Nat.le_of_ble_eq_true rfl) t_68 rfl rfl dX7_explore_94 ?_
              refine s_iload K dX7_explore_97 0 rfl ?_
              refine s_ck (fun ho_13 => ?_)
              refine s_iald K 1 0 rfl rfl (ok_in ho_13) rfl dX7_explore_99 ?_
              refine s_istore (lv' := [(12, .int (dep (Int32.toNatClampNeg r_10))), (11, .int r_10), (0, .ref uh), (1, .int a1), (2, .ref g), (3, .int a3), (4, .int a4), (5, .int a5), (6, .ref (ua (Int32.toNatClampNeg a1))), (7, .int x7), (8, .int x8), (9, .int x9), (10, .int x10)]) K dX7_explore_100 (Nat.le_of_ble_eq_true rfl) rfl ?_
              refine s_aload_n K dX7_explore_102 rfl 2 rfl ?_
              refine s_iload_n K dX7_explore_103 rfl 3 rfl ?_
              refine s_iload K dX7_explore_104 12 rfl ?_
              refine s_bind (fun q hq_20 => ?_)
              obtain ⟨r_14, dep_15, siz_16, plc_17, onn_18, axs_19⟩ := q
              refine s_callV (w' := (wLGG cI cC cB cQ kc uh ud ub ua g cnt wet stg dys dep_15 knd siz_16 plc_17 onn_18 axs_19 gwy grl gsz)) (rest := []) (st1 := [.int r_14]) K (c_X4_push uh ud ub ua cnt wet stg dys dep knd siz plc onn axs a1 x10 hq_20) rfl hd_X4_push t_334 t_335 t_336 t_2 t_337 ⟨by show 4 + 1 ≤ d + 1 + 20; omega, by show 8 + (6 + 11) + 224 ≤ (d + 1) * 100 + 1500; omega⟩ ⟨rfl, rfl⟩ ⟨Nat.zero_le _, Nat.zero_le _⟩ (rv_o K 0 rfl rfl) [0, 1, 2, 3, 4, 5, 6, 7] [8] [1, 2, 3, 4, 5, 6, 7, 8, 0] rfl rfl rfl rfl (by decide) rfl rfl rfl rfl (Nat.le_of_ble_eq_true rfl) dX7_explore_106 ?_
              refine s_pop K dX7_explore_109 rfl ?_
              refine s_aload_n K dX7_explore_110 rfl 2 rfl ?_
              refine s_iload_n K dX7_explore_111 rfl 3 rfl ?_
              refine s_aload_n K dX7_explore_112 rfl 4 rfl ?_
              refine s_iload_n K dX7_explore_113 rfl 5 rfl ?_
              refine s_iload K dX7_explore_114 6 rfl ?_
              refine s_iconst K dX7_explore_116 kic_1 ?_
              refine s_iadd K dX7_explore_117 ?_
              refine s_iload K dX7_explore_118 6 rfl ?_
              refine s_if_ne (tgt := 128) K dX7_explore_120 (by decide) (fun c_21 => ?_) (fun c_21 => ?_)
              · refine s_iload K dX7_explore_123 12 rfl ?_
                refine s_goto (tgt := 130) K dX7_explore_125 (by decide) ?_
                refine s_bind (fun q hq_28 => ?_)
                obtain ⟨dep_22, siz_23, plc_24, onn_25, axs_26, gwy_27⟩ := q
                refine s_callS (w' := (wLGG cI cC cB cQ kc uh ud ub ua g cnt wet stg dys dep_22 knd siz_23 plc_24 onn_25 axs_26 gwy_27 grl gsz)) (rest := []) (st1 := []) K (ihr uh ud ub ua g cnt wet stg dys dep_15 knd siz_16 plc_17 onn_18 axs_19 gwy grl gsz a1 a3 (a4 + 1) x10 hq_28) hd_X7_explore t_417 t_418 t_1 t_419 ⟨by show d + 20 + 1 ≤ d + 1 + 20; omega, by show 8 + (13 + 11) + (d * 100 + 1500) ≤ (d + 1) * 100 + 1500; omega⟩ ⟨rfl, rfl⟩ ⟨Nat.zero_le _, Nat.zero_le _⟩ [0, 1, 2, 3, 4, 5, 6, 7, 8] [] [0, 1, 2, 3, 4, 5, 6, 7, 8] rfl rfl rfl rfl (by decide) rfl rfl rfl rfl (Nat.le_of_ble_eq_true rfl) dX7_explore_130 ?_
                refine s_aload_n K dX7_explore_133 rfl 2 rfl ?_
                refine s_get K 0 rfl rfl inT4 0 (Nat.le_of_ble_eq_true rfl) t_68 rfl rfl dX7_explore_134 ?_
                refine s_iload K dX7_explore_137 1 rfl ?_
                refine s_iload K dX7_explore_139 0 rfl ?_
                refine s_iast (w' := (wLGG cI cC cB cQ kc uh ud ub ua g cnt wet stg dys (upd dep_22 (Int32.toNatClampNeg r_10) (dep (Int32.toNatClampNeg r_10))) knd siz_23 plc_24 onn_25 axs_26 gwy_27 grl gsz)) K 1 0 rfl rfl (ok_in ho_13) rfl rfl dX7_explore_141 ?_
                refine s_aload K dX7_explore_142 8 rfl ?_
                refine s_iload K dX7_explore_144 9 rfl ?_
                refine s_put (w' := (wLGG cI cC cB cQ kc uh ud ub ua g cnt wet stg dys (upd dep_22 (Int32.toNatClampNeg r_10) (dep (Int32.toNatClampNeg r_10))) knd siz_23 (upd plc_24 (Int32.toNatClampNeg a1) x7) onn_25 axs_26 gwy_27 grl gsz)) K (3 + (Int32.toNatClampNeg a1)) (gLGG_3 hq6) rfl inT1 tyX1_ok nmX1 2 (Nat.le_of_ble_eq_true rfl) t_47 rfl rfl rfl rfl (Nat.le_of_ble_eq_true rfl) (pLGG_3_2 hq6 _) dX7_explore_146 ?_
                refine s_aload K dX7_explore_149 8 rfl ?_
                refine s_iload K dX7_explore_151 10 rfl ?_
                refine s_put (w' := (wLGG cI cC cB cQ kc uh ud ub ua g cnt wet stg dys (upd dep_22 (Int32.toNatClampNeg r_10) (dep (Int32.toNatClampNeg r_10))) knd (upd siz_23 (Int32.toNatClampNeg a1) x8) (upd plc_24 (Int32.toNatClampNeg a1) x7) onn_25 axs_26 gwy_27 grl gsz)) K (3 + (Int32.toNatClampNeg a1)) (gLGG_3 hq6) rfl inT1 tyX1_ok nmX1 1 (Nat.le_of_ble_eq_true rfl) t_43 rfl rfl rfl rfl (Nat.le_of_ble_eq_true rfl) (pLGG_3_1 hq6 _) dX7_explore_153 ?_
                refine s_aload K dX7_explore_156 8 rfl ?_
                refine s_iload K dX7_explore_158 11 rfl ?_
                refine s_put (w' := (wLGG cI cC cB cQ kc uh ud ub ua g cnt wet stg dys (upd dep_22 (Int32.toNatClampNeg r_10) (dep (Int32.toNatClampNeg r_10))) knd (upd siz_23 (Int32.toNatClampNeg a1) x8) (upd plc_24 (Int32.toNatClampNeg a1) x7) onn_25 (upd axs_26 (Int32.toNatClampNeg a1) x9) gwy_27 grl gsz)) K (3 + (Int32.toNatClampNeg a1)) (gLGG_3 hq6) rfl inT1 tyX1_ok nmX1 4 (Nat.le_of_ble_eq_true rfl) t_52 rfl rfl rfl rfl (Nat.le_of_ble_eq_true rfl) (pLGG_3_4 hq6 _) dX7_explore_160 ?_
                refine s_iinc (lv' := [(10, .int (x10 + 1)), (12, .int (dep (Int32.toNatClampNeg r_10))), (11, .int r_10), (0, .ref uh), (1, .int a1), (2, .ref g), (3, .int a3), (4, .int a4), (5, .int a5), (6, .ref (ua (Int32.toNatClampNeg a1))), (7, .int x7), (8, .int x8), (9, .int x9)]) K dX7_explore_163 12 rfl (kii_1 _) (Nat.le_of_ble_eq_true rfl) rfl ?_
                refine s_goto (tgt := 56) K dX7_explore_166 (by decide) ?_
                refine s_lv (lv' := [(0, .ref uh), (1, .int a1), (2, .ref g), (3, .int a3), (4, .int a4), (5, .int a5), (6, .ref (ua (Int32.toNatClampNeg a1))), (7, .int x7), (8, .int x8), (9, .int x9), (10, .int (x10 + 1))]) [3, 4, 5, 6, 7, 8, 9, 10, 11, 12, 0] rfl ?_
                exact ih (upd dep_22 (Int32.toNatClampNeg r_10) (dep (Int32.toNatClampNeg r_10))) (upd siz_23 (Int32.toNatClampNeg a1) x8) (upd plc_24 (Int32.toNatClampNeg a1) x7) onn_25 (upd axs_26 (Int32.toNatClampNeg a1) x9) gwy_27 x7 x8 x9 (x10 + 1) hq6
              · refine s_iload K dX7_explore_128 7 rfl ?_
                refine s_bind (fun q hq_35 => ?_)
                obtain ⟨dep_29, siz_30, plc_31, onn_32, axs_33, gwy_34⟩ := q
                refine s_callS (w' := (wLGG cI cC cB cQ kc uh ud ub ua g cnt wet stg dys dep_29 knd siz_30 plc_31 onn_32 axs_33 gwy_34 grl gsz)) (rest := []) (st1 := []) K (ihr uh ud ub ua g cnt wet stg dys dep_15 knd siz_16 plc_17 onn_18 axs_19 gwy grl gsz a1 a3 (a4 + 1) a5 hq_35) hd_X7_explore t_417 t_418 t_1 t_419 ⟨by show d + 20 + 1 ≤ d + 1 + 20; omega, by show 8 + (13 + 11) + (d * 100 + 1500) ≤ (d + 1) * 100 + 1500; omega⟩ ⟨rfl, rfl⟩ ⟨Nat.zero_le _, Nat.zero_le _⟩ [0, 1, 2, 3, 4, 5, 6, 7, 8] [] [0, 1, 2, 3, 4, 5, 6, 7, 8] rfl rfl rfl rfl (by decide) rfl rfl rfl rfl (Nat.le_of_ble_eq_true rfl) dX7_explore_130 ?_
                refine s_aload_n K dX7_explore_133 rfl 2 rfl ?_
                refine s_get K 0 rfl rfl inT4 0 (Nat.le_of_ble_eq_true rfl) t_68 rfl rfl dX7_explore_134 ?_
                refine s_iload K dX7_explore_137 1 rfl ?_
                refine s_iload K dX7_explore_139 0 rfl ?_
                refine s_iast (w' := (wLGG cI cC cB cQ kc uh ud ub ua g cnt wet stg dys (upd dep_29 (Int32.toNatClampNeg r_10) (dep (Int32.toNatClampNeg r_10))) knd siz_30 plc_31 onn_32 axs_33 gwy_34 grl gsz)) K 1 0 rfl rfl (ok_in ho_13) rfl rfl dX7_explore_141 ?_
                refine s_aload K dX7_explore_142 8 rfl ?_
                refine s_iload K dX7_explore_144 9 rfl ?_
                refine s_put (w' := (wLGG cI cC cB cQ kc uh ud ub ua g cnt wet stg dys (upd dep_29 (Int32.toNatClampNeg r_10) (dep (Int32.toNatClampNeg r_10))) knd siz_30 (upd plc_31 (Int32.toNatClampNeg a1) x7) onn_32 axs_33 gwy_34 grl gsz)) K (3 + (Int32.toNatClampNeg a1)) (gLGG_3 hq6) rfl inT1 tyX1_ok nmX1 2 (Nat.le_of_ble_eq_true rfl) t_47 rfl rfl rfl rfl (Nat.le_of_ble_eq_true rfl) (pLGG_3_2 hq6 _) dX7_explore_146 ?_
                refine s_aload K dX7_explore_149 8 rfl ?_
                refine s_iload K dX7_explore_151 10 rfl ?_
                refine s_put (w' := (wLGG cI cC cB cQ kc uh ud ub ua g cnt wet stg dys (upd dep_29 (Int32.toNatClampNeg r_10) (dep (Int32.toNatClampNeg r_10))) knd (upd siz_30 (Int32.toNatClampNeg a1) x8) (upd plc_31 (Int32.toNatClampNeg a1) x7) onn_32 axs_33 gwy_34 grl gsz)) K (3 + (Int32.toNatClampNeg a1)) (gLGG_3 hq6) rfl inT1 tyX1_ok nmX1 1 (Nat.le_of_ble_eq_true rfl) t_43 rfl rfl rfl rfl (Nat.le_of_ble_eq_true rfl) (pLGG_3_1 hq6 _) dX7_explore_153 ?_
                refine s_aload K dX7_explore_156 8 rfl ?_
                refine s_iload K dX7_explore_158 11 rfl ?_
                refine s_put (w' := (wLGG cI cC cB cQ kc uh ud ub ua g cnt wet stg dys (upd dep_29 (Int32.toNatClampNeg r_10) (dep (Int32.toNatClampNeg r_10))) knd (upd siz_30 (Int32.toNatClampNeg a1) x8) (upd plc_31 (Int32.toNatClampNeg a1) x7) onn_32 (upd axs_33 (Int32.toNatClampNeg a1) x9) gwy_34 grl gsz)) K (3 + (Int32.toNatClampNeg a1)) (gLGG_3 hq6) rfl inT1 tyX1_ok nmX1 4 (Nat.le_of_ble_eq_true rfl) t_52 rfl rfl rfl rfl (Nat.le_of_ble_eq_true rfl) (pLGG_3_4 hq6 _) dX7_explore_160 ?_
                refine s_iinc (lv' := [(10, .int (x10 + 1)), (12, .int (dep (Int32.toNatClampNeg r_10))), (11, .int r_10), (0, .ref uh), (1, .int a1), (2, .ref g), (3, .int a3), (4, .int a4), (5, .int a5), (6, .ref (ua (Int32.toNatClampNeg a1))), (7, .int x7), (8, .int x8), (9, .int x9)]) K dX7_explore_163 12 rfl (kii_1 _) (Nat.le_of_ble_eq_true rfl) rfl ?_
                refine s_goto (tgt := 56) K dX7_explore_166 (by decide) ?_
                refine s_lv (lv' := [(0, .ref uh), (1, .int a1), (2, .ref g), (3, .int a3), (4, .int a4), (5, .int a5), (6, .ref (ua (Int32.toNatClampNeg a1))), (7, .int x7), (8, .int x8), (9, .int x9), (10, .int (x10 + 1))]) [3, 4, 5, 6, 7, 8, 9, 10, 11, 12, 0] rfl ?_
                exact ih (upd dep_29 (Int32.toNatClampNeg r_10) (dep (Int32.toNatClampNeg r_10))) (upd siz_30 (Int32.toNatClampNeg a1) x8) (upd plc_31 (Int32.toNatClampNeg a1) x7) onn_32 (upd axs_33 (Int32.toNatClampNeg a1) x9) gwy_34 x7 x8 x9 (x10 + 1) hq6
    rewrite [fr_X7_explore_G]
    refine s_aload_n K dX7_explore_0 rfl 0 rfl ?_
    refine s_get K 0 rfl rfl inT4 1 (Nat.le_of_ble_eq_true rfl) t_70 rfl rfl dX7_explore_1 ?_
    refine s_iload_n K dX7_explore_4 rfl 1 rfl ?_
    refine s_ck (fun ho_1 => ?_)
    refine s_aldb K 2 3 rfl rfl (ok_in ho_1) rfl dX7_explore_5 ?_
    refine s_astore (lv' := [(6, .ref (ua (Int32.toNatClampNeg a1))), (0, .ref uh), (1, .int a1), (2, .ref g), (3, .int a3), (4, .int a4), (5, .int a5)]) K dX7_explore_6 (Nat.le_of_ble_eq_true rfl) rfl ?_
    refine s_aload_n K dX7_explore_8 rfl 3 rfl ?_
    refine s_aload K dX7_explore_9 0 rfl ?_
    refine s_iload K dX7_explore_11 5 rfl ?_
    refine s_iload K dX7_explore_13 6 rfl ?_
    refine s_bind (fun q hq_3 => ?_)
    obtain ⟨gwy_2, rfl⟩ : ∃ z, z = q := ⟨_, rfl⟩
    refine s_callU (x := ⟨"SnowBalls$Search", "meet", "(LSnowBalls$Ball;II)V"⟩) (owner := "SnowBalls$Search") (w' := (wLGG cI cC cB cQ kc uh ud ub ua g cnt wet stg dys dep knd siz plc onn axs gwy_2 grl gsz)) (rest := []) (st1 := []) K (c_X6_meet g ua gwy grl gsz knd siz plc onn axs a4 a5 (Int32.toNatClampNeg a1) (vp_lt (ok_in ho_1)) hq_3) K.2.2.2.2.2.2.2.2 hd_meet t_420 t_422 t_430 t_429 t_9 t_431 ⟨by show 1 + 1 ≤ d + 1 + 20; omega, by show 8 + (4 + 11) + 40 ≤ (d + 1) * 100 + 1500; omega⟩ ⟨rfl, rfl⟩ ⟨Nat.zero_le _, Nat.zero_le _⟩ (rv_o K 8 rfl rfl) [8, 3, 4, 5, 6, 7] [0, 1, 2] [0, 1, 2, 4, 5, 6, 7, 8, 3] rfl rfl rfl rfl (by decide) rfl rfl rfl rfl (Nat.le_of_ble_eq_true rfl) dX7_explore_15 ?_
    refine s_iload K dX7_explore_18 5 rfl ?_
    refine s_iload_n K dX7_explore_20 rfl 4 rfl ?_
    refine s_icmp_ge (tgt := 31) K dX7_explore_21 (by decide) (fun c_4 => ?_) (fun c_4 => ?_)
    · exact s_vret K hret hlk rfl rfl dX7_explore_31
    · refine s_iload K dX7_explore_24 5 rfl ?_
      refine s_bipush K dX7_explore_26 kib_6 ?_
      refine s_icmp_lt (tgt := 32) K dX7_explore_28 (by decide) (fun c_5 => ?_) (fun c_5 => ?_)
      · refine s_aload K dX7_explore_32 0 rfl ?_
        refine s_get K (3 + (Int32.toNatClampNeg a1)) (gLGG_3 (vp_lt (ok_in ho_1))) rfl inT1 2 (Nat.le_of_ble_eq_true rfl) t_47 rfl rfl dX7_explore_34 ?_
        refine s_istore (lv' := [(7, .int (plc (Int32.toNatClampNeg a1))), (6, .ref (ua (Int32.toNatClampNeg a1))), (0, .ref uh), (1, .int a1), (2, .ref g), (3, .int a3), (4, .int a4), (5, .int a5)]) K dX7_explore_37 (Nat.le_of_ble_eq_true rfl) rfl ?_
        refine s_aload K dX7_explore_39 1 rfl ?_
        refine s_get K (3 + (Int32.toNatClampNeg a1)) (gLGG_3 (vp_lt (ok_in ho_1))) rfl inT1 1 (Nat.le_of_ble_eq_true rfl) t_43 rfl rfl dX7_explore_41 ?_
        refine s_istore (lv' := [(8, .int (siz (Int32.toNatClampNeg a1))), (7, .int (plc (Int32.toNatClampNeg a1))), (6, .ref (ua (Int32.toNatClampNeg a1))), (0, .ref uh), (1, .int a1), (2, .ref g), (3, .int a3), (4, .int a4), (5, .int a5)]) K dX7_explore_44 (Nat.le_of_ble_eq_true rfl) rfl ?_
        refine s_aload K dX7_explore_46 2 rfl ?_
        refine s_get K (3 + (Int32.toNatClampNeg a1)) (gLGG_3 (vp_lt (ok_in ho_1))) rfl inT1 4 (Nat.le_of_ble_eq_true rfl) t_52 rfl rfl dX7_explore_48 ?_
        refine s_istore (lv' := [(9, .int (axs (Int32.toNatClampNeg a1))), (8, .int (siz (Int32.toNatClampNeg a1))), (7, .int (plc (Int32.toNatClampNeg a1))), (6, .ref (ua (Int32.toNatClampNeg a1))), (0, .ref uh), (1, .int a1), (2, .ref g), (3, .int a3), (4, .int a4), (5, .int a5)]) K dX7_explore_51 (Nat.le_of_ble_eq_true rfl) rfl ?_
        refine s_iconst K dX7_explore_53 kic_0 ?_
        refine s_istore (lv' := [(10, .int 0), (9, .int (axs (Int32.toNatClampNeg a1))), (8, .int (siz (Int32.toNatClampNeg a1))), (7, .int (plc (Int32.toNatClampNeg a1))), (6, .ref (ua (Int32.toNatClampNeg a1))), (0, .ref uh), (1, .int a1), (2, .ref g), (3, .int a3), (4, .int a4), (5, .int a5)]) K dX7_explore_54 (Nat.le_of_ble_eq_true rfl) rfl ?_
        refine s_lv (lv' := [(0, .ref uh), (1, .int a1), (2, .ref g), (3, .int a3), (4, .int a4), (5, .int a5), (6, .ref (ua (Int32.toNatClampNeg a1))), (7, .int (plc (Int32.toNatClampNeg a1))), (8, .int (siz (Int32.toNatClampNeg a1))), (9, .int (axs (Int32.toNatClampNeg a1))), (10, .int 0)]) [5, 6, 7, 8, 9, 10, 4, 3, 2, 1, 0] rfl ?_
        exact L56 70 dep siz plc onn axs gwy_2 (plc (Int32.toNatClampNeg a1)) (siz (Int32.toNatClampNeg a1)) (axs (Int32.toNatClampNeg a1)) 0 (vp_lt (ok_in ho_1))
      · exact s_vret K hret hlk rfl rfl dX7_explore_31
theorem c_X7_explore_G {l : Launch} {D : va_G} {cI cC cB cQ : ClassId} {kc : Nat → Nat} {kt : Nat} (uh ud ub : Nat) (ua : Nat → Nat) (g : Nat) (cnt wet stg dys : Int32) (dep : Nat → Int32) (knd : Nat → Nat) (siz plc onn axs : Nat → Int32) (gwy grl gsz : Int32) (a1 a3 a4 a5 : Int32) {r : (Nat → Int32) × (Nat → Int32) × (Nat → Int32) × (Nat → Int32) × (Nat → Int32) × Int32} (hF : fr_X7_explore_G 7 cnt wet stg dys dep knd siz plc onn axs gwy grl gsz a1 a3 a4 a5 = some r) : CT l D (tysOf cI cC cB cQ) kc kt yX7_explore cX7_explore 13 none ({ frames := 27, cells := 0, slots := 0, locals := 2200 } : Room) [.ref uh, .int a1, .ref g, .int a3, .int a4, .int a5] (wLGG cI cC cB cQ kc uh ud ub ua g cnt wet stg dys dep knd siz plc onn axs gwy grl gsz) ((fun (r : (Nat → Int32) × (Nat → Int32) × (Nat → Int32) × (Nat → Int32) × (Nat → Int32) × Int32) => (wLGG cI cC cB cQ kc uh ud ub ua g cnt wet stg dys (r.1) knd (r.2.1) (r.2.2.1) (r.2.2.2.1) (r.2.2.2.2.1) (r.2.2.2.2.2) grl gsz)) r) ((fun (r : (Nat → Int32) × (Nat → Int32) × (Nat → Int32) × (Nat → Int32) × (Nat → Int32) × Int32) => none) r) := cr_X7_explore_G 7 uh ud ub ua g cnt wet stg dys dep knd siz plc onn axs gwy grl gsz a1 a3 a4 a5 hF
set_option maxHeartbeats 4000000 in
set_option maxRecDepth 100000 in
theorem c_X4_allSizes {l : Launch} {D : va_G} {cI cC cB cQ : ClassId} {kc : Nat → Nat} {kt : Nat} (uh ud ub : Nat) (ua : Nat → Nat) (cnt wet stg dys : Int32) (dep : Nat → Int32) (knd : Nat → Nat) (siz plc onn axs : Nat → Int32) {r : Int32} (hF : f_X4_allSizes cnt siz = some r) : CT l D (tysOf cI cC cB cQ) kc kt yX4_allSizes cX4_allSizes 3 (some .int) ({ frames := 1, cells := 0, slots := 0, locals := 40 } : Room) [.ref uh] (wL cI cC cB cQ kc uh ud ub ua cnt wet stg dys dep knd siz plc onn axs) ((fun (r : Int32) => (wL cI cC cB cQ kc uh ud ub ua cnt wet stg dys dep knd siz plc onn axs)) r) ((fun (r : Int32) => some (.int r)) r) := by
  refine CT.of (ww := (fun (r : Int32) => (wL cI cC cB cQ kc uh ud ub ua cnt wet stg dys dep knd siz plc onn axs))) (oo := (fun (r : Int32) => some (.int r))) hF RX4 rfl rfl (Nat.le_of_ble_eq_true rfl) ?_
  intro p e s m args below meth c A K hret hlk
  have L4 : ∀ (fu : Nat) (x1 x2 : Int32), Sw (ρ := Int32) p l e ({ frames := 1, cells := 0, slots := 0, locals := 40 } : Room) s m args below meth c 0 0 D A 3 (fun r => MQ below (CQ D ((fun (r : Int32) => (wL cI cC cB cQ kc uh ud ub ua cnt wet stg dys dep knd siz plc onn axs)) r) ((fun (r : Int32) => some (.int r)) r) A) args s 0 0 A) (f_X4_allSizes_h4 cnt siz fu x1 x2) (wL cI cC cB cQ kc uh ud ub ua cnt wet stg dys dep knd siz plc onn axs) [(0, .ref uh), (1, .int x1), (2, .int x2)] 4 [] := by
    intro  fu
    induction fu with
    | zero =>
      intro x1 x2
      rewrite [f_X4_allSizes_h4]
      exact s_none
    | succ fu ih =>
      intro x1 x2
      rewrite [f_X4_allSizes_h4]
      refine s_iload_n K dX4_allSizes_4 rfl 2 rfl ?_
      refine s_aload_n K dX4_allSizes_5 rfl 0 rfl ?_
      refine s_get K 0 rfl rfl inT4 2 (Nat.le_of_ble_eq_true rfl) t_71 rfl rfl dX4_allSizes_6 ?_
      refine s_icmp_ge (tgt := 30) K dX4_allSizes_9 (by decide) (fun c_1 => ?_) (fun c_1 => ?_)
      · refine s_iload_n K dX4_allSizes_30 rfl 1 rfl ?_
        exact s_iret K hret hlk rfl rfl dX4_allSizes_31
      · refine s_iload_n K dX4_allSizes_12 rfl 1 rfl ?_
        refine s_aload_n K dX4_allSizes_13 rfl 0 rfl ?_
        refine s_get K 0 rfl rfl inT4 1 (Nat.le_of_ble_eq_true rfl) t_69 rfl rfl dX4_allSizes_14 ?_
        refine s_iload_n K dX4_allSizes_17 rfl 2 rfl ?_
        refine s_ck (fun ho_2 => ?_)
        refine s_aldb K 2 3 rfl rfl (ok_in ho_2) rfl dX4_allSizes_18 ?_
        refine s_get K (3 + (Int32.toNatClampNeg x2)) (gL_3 (vp_lt (ok_in ho_2))) rfl inT1 1 (Nat.le_of_ble_eq_true rfl) t_42 rfl rfl dX4_allSizes_19 ?_
        refine s_iadd K dX4_allSizes_22 ?_
        refine s_istore_n (lv' := [(1, .int (x1 + (siz (Int32.toNatClampNeg x2)))), (0, .ref uh), (2, .int x2)]) K dX4_allSizes_23 rfl (Nat.le_of_ble_eq_true rfl) rfl ?_
        refine s_iinc (lv' := [(2, .int (x2 + 1)), (1, .int (x1 + (siz (Int32.toNatClampNeg x2)))), (0, .ref uh)]) K dX4_allSizes_24 2 rfl (kii_1 _) (Nat.le_of_ble_eq_true rfl) rfl ?_
        refine s_goto (tgt := 4) K dX4_allSizes_27 (by decide) ?_
        refine s_lv (lv' := [(0, .ref uh), (1, .int (x1 + (siz (Int32.toNatClampNeg x2)))), (2, .int (x2 + 1))]) [2, 1, 0] rfl ?_
        exact ih (x1 + (siz (Int32.toNatClampNeg x2))) (x2 + 1)
  rewrite [f_X4_allSizes]
  refine s_iconst K dX4_allSizes_0 kic_0 ?_
  refine s_istore_n (lv' := [(1, .int 0), (0, .ref uh)]) K dX4_allSizes_1 rfl (Nat.le_of_ble_eq_true rfl) rfl ?_
  refine s_iconst K dX4_allSizes_2 kic_0 ?_
  refine s_istore_n (lv' := [(2, .int 0), (1, .int 0), (0, .ref uh)]) K dX4_allSizes_3 rfl (Nat.le_of_ble_eq_true rfl) rfl ?_
  refine s_lv (lv' := [(0, .ref uh), (1, .int 0), (2, .int 0)]) [2, 1, 0] rfl ?_
  exact L4 70 0 0
set_option maxHeartbeats 4000000 in
set_option maxRecDepth 100000 in
theorem c_X4_goneBalls {l : Launch} {D : va_G} {cI cC cB cQ : ClassId} {kc : Nat → Nat} {kt : Nat} (uh ud ub : Nat) (ua : Nat → Nat) (cnt wet stg dys : Int32) (dep : Nat → Int32) (knd : Nat → Nat) (siz plc onn axs : Nat → Int32) {r : Int32} (hF : f_X4_goneBalls cnt siz = some r) : CT l D (tysOf cI cC cB cQ) kc kt yX4_goneBalls cX4_goneBalls 3 (some .int) ({ frames := 2, cells := 0, slots := 0, locals := 100 } : Room) [.ref uh] (wL cI cC cB cQ kc uh ud ub ua cnt wet stg dys dep knd siz plc onn axs) ((fun (r : Int32) => (wL cI cC cB cQ kc uh ud ub ua cnt wet stg dys dep knd siz plc onn axs)) r) ((fun (r : Int32) => some (.int r)) r) := by
  refine CT.of (ww := (fun (r : Int32) => (wL cI cC cB cQ kc uh ud ub ua cnt wet stg dys dep knd siz plc onn axs))) (oo := (fun (r : Int32) => some (.int r))) hF RX4 rfl rfl (Nat.le_of_ble_eq_true rfl) ?_
  intro p e s m args below meth c A K hret hlk
  have L4 : ∀ (fu : Nat) (x1 x2 : Int32), Sw (ρ := Int32) p l e ({ frames := 2, cells := 0, slots := 0, locals := 100 } : Room) s m args below meth c 0 0 D A 3 (fun r => MQ below (CQ D ((fun (r : Int32) => (wL cI cC cB cQ kc uh ud ub ua cnt wet stg dys dep knd siz plc onn axs)) r) ((fun (r : Int32) => some (.int r)) r) A) args s 0 0 A) (f_X4_goneBalls_h4 cnt siz fu x1 x2) (wL cI cC cB cQ kc uh ud ub ua cnt wet stg dys dep knd siz plc onn axs) [(0, .ref uh), (1, .int x1), (2, .int x2)] 4 [] := by
    intro  fu
    induction fu with
    | zero =>
      intro x1 x2
      rewrite [f_X4_goneBalls_h4]
      exact s_none
    | succ fu ih =>
      intro x1 x2
      rewrite [f_X4_goneBalls_h4]
      refine s_iload_n K dX4_goneBalls_4 rfl 2 rfl ?_
      refine s_aload_n K dX4_goneBalls_5 rfl 0 rfl ?_
      refine s_get K 0 rfl rfl inT4 2 (Nat.le_of_ble_eq_true rfl) t_71 rfl rfl dX4_goneBalls_6 ?_
      refine s_icmp_ge (tgt := 38) K dX4_goneBalls_9 (by decide) (fun c_1 => ?_) (fun c_1 => ?_)
      · refine s_iload_n K dX4_goneBalls_38 rfl 1 rfl ?_
        exact s_iret K hret hlk rfl rfl dX4_goneBalls_39
      · refine s_iload_n K dX4_goneBalls_12 rfl 1 rfl ?_
        refine s_aload_n K dX4_goneBalls_13 rfl 0 rfl ?_
        refine s_get K 0 rfl rfl inT4 1 (Nat.le_of_ble_eq_true rfl) t_69 rfl rfl dX4_goneBalls_14 ?_
        refine s_iload_n K dX4_goneBalls_17 rfl 2 rfl ?_
        refine s_ck (fun ho_2 => ?_)
        refine s_aldb K 2 3 rfl rfl (ok_in ho_2) rfl dX4_goneBalls_18 ?_
        refine s_bind (fun q hq_4 => ?_)
        obtain ⟨r_3, rfl⟩ : ∃ z, z = q := ⟨_, rfl⟩
        refine s_callV (w' := (wL cI cC cB cQ kc uh ud ub ua cnt wet stg dys dep knd siz plc onn axs)) (rest := [.int x1]) (st1 := [.int r_3, .int x1]) K (c_X1_isGone ua knd siz plc onn axs (Int32.toNatClampNeg x2) (vp_lt (ok_in ho_2)) hq_4) rfl hd_X1_isGone t_310 t_311 t_312 t_3 t_313 ⟨(Nat.le_of_ble_eq_true rfl), (Nat.le_of_ble_eq_true rfl)⟩ ⟨rfl, rfl⟩ ⟨Nat.zero_le _, Nat.zero_le _⟩ (rv_o K (3 + (Int32.toNatClampNeg x2)) (gL_3 (vp_lt (ok_in ho_2))) rfl) [3, 4, 5, 6, 7] [0, 1, 2] [0, 1, 2, 3, 4, 5, 6, 7] rfl rfl rfl rfl (by decide) rfl rfl rfl rfl (Nat.le_of_ble_eq_true rfl) dX4_goneBalls_19 ?_
        refine s_if_eq (tgt := 29) K dX4_goneBalls_22 (by decide) (fun c_5 => ?_) (fun c_5 => ?_)
        · refine s_iconst K dX4_goneBalls_29 kic_0 ?_
          refine s_iadd K dX4_goneBalls_30 ?_
          refine s_istore_n (lv' := [(1, .int (x1 + 0)), (0, .ref uh), (2, .int x2)]) K dX4_goneBalls_31 rfl (Nat.le_of_ble_eq_true rfl) rfl ?_
          refine s_iinc (lv' := [(2, .int (x2 + 1)), (1, .int (x1 + 0)), (0, .ref uh)]) K dX4_goneBalls_32 2 rfl (kii_1 _) (Nat.le_of_ble_eq_true rfl) rfl ?_
          refine s_goto (tgt := 4) K dX4_goneBalls_35 (by decide) ?_
          refine s_lv (lv' := [(0, .ref uh), (1, .int (x1 + 0)), (2, .int (x2 + 1))]) [2, 1, 0] rfl ?_
          exact ih (x1 + 0) (x2 + 1)
        · refine s_iconst K dX4_goneBalls_25 kic_1 ?_
          refine s_goto (tgt := 30) K dX4_goneBalls_26 (by decide) ?_
          refine s_iadd K dX4_goneBalls_30 ?_
          refine s_istore_n (lv' := [(1, .int (x1 + 1)), (0, .ref uh), (2, .int x2)]) K dX4_goneBalls_31 rfl (Nat.le_of_ble_eq_true rfl) rfl ?_
          refine s_iinc (lv' := [(2, .int (x2 + 1)), (1, .int (x1 + 1)), (0, .ref uh)]) K dX4_goneBalls_32 2 rfl (kii_1 _) (Nat.le_of_ble_eq_true rfl) rfl ?_
          refine s_goto (tgt := 4) K dX4_goneBalls_35 (by decide) ?_
          refine s_lv (lv' := [(0, .ref uh), (1, .int (x1 + 1)), (2, .int (x2 + 1))]) [2, 1, 0] rfl ?_
          exact ih (x1 + 1) (x2 + 1)
  rewrite [f_X4_goneBalls]
  refine s_iconst K dX4_goneBalls_0 kic_0 ?_
  refine s_istore_n (lv' := [(1, .int 0), (0, .ref uh)]) K dX4_goneBalls_1 rfl (Nat.le_of_ble_eq_true rfl) rfl ?_
  refine s_iconst K dX4_goneBalls_2 kic_0 ?_
  refine s_istore_n (lv' := [(2, .int 0), (1, .int 0), (0, .ref uh)]) K dX4_goneBalls_3 rfl (Nat.le_of_ble_eq_true rfl) rfl ?_
  refine s_lv (lv' := [(0, .ref uh), (1, .int 0), (2, .int 0)]) [2, 1, 0] rfl ?_
  exact L4 70 0 0
set_option maxHeartbeats 4000000 in
set_option maxRecDepth 100000 in
theorem c_X4_greenPlaces {l : Launch} {D : va_G} {cI cC cB cQ : ClassId} {kc : Nat → Nat} {kt : Nat} (uh ud ub : Nat) (ua : Nat → Nat) (cnt wet stg dys : Int32) (dep : Nat → Int32) (knd : Nat → Nat) (siz plc onn axs : Nat → Int32) {r : Int32} (hF : f_X4_greenPlaces dep = some r) : CT l D (tysOf cI cC cB cQ) kc kt yX4_greenPlaces cX4_greenPlaces 6 (some .int) ({ frames := 1, cells := 0, slots := 0, locals := 40 } : Room) [.ref uh] (wL cI cC cB cQ kc uh ud ub ua cnt wet stg dys dep knd siz plc onn axs) ((fun (r : Int32) => (wL cI cC cB cQ kc uh ud ub ua cnt wet stg dys dep knd siz plc onn axs)) r) ((fun (r : Int32) => some (.int r)) r) := by
  refine CT.of (ww := (fun (r : Int32) => (wL cI cC cB cQ kc uh ud ub ua cnt wet stg dys dep knd siz plc onn axs))) (oo := (fun (r : Int32) => some (.int r))) hF RX4 rfl rfl (Nat.le_of_ble_eq_true rfl) ?_
  intro p e s m args below meth c A K hret hlk
  have L13 : ∀ (fu : Nat) (x1 x3 x4 : Int32), Sw (ρ := Int32) p l e ({ frames := 1, cells := 0, slots := 0, locals := 40 } : Room) s m args below meth c 0 0 D A 6 (fun r => MQ below (CQ D ((fun (r : Int32) => (wL cI cC cB cQ kc uh ud ub ua cnt wet stg dys dep knd siz plc onn axs)) r) ((fun (r : Int32) => some (.int r)) r) A) args s 0 0 A) (f_X4_greenPlaces_h13 dep fu x1 x3 x4) (wL cI cC cB cQ kc uh ud ub ua cnt wet stg dys dep knd siz plc onn axs) [(1, .int x1), (2, .ref ud), (3, .int x3), (4, .int x4)] 13 [] := by
    intro  fu
    induction fu with
    | zero =>
      intro x1 x3 x4
      rewrite [f_X4_greenPlaces_h13]
      exact s_none
    | succ fu ih =>
      intro x1 x3 x4
      rewrite [f_X4_greenPlaces_h13]
      refine s_iload K dX4_greenPlaces_13 3 rfl ?_
      refine s_iload_n K dX4_greenPlaces_15 rfl 2 rfl ?_
      refine s_icmp_ge (tgt := 44) K dX4_greenPlaces_16 (by decide) (fun c_1 => ?_) (fun c_1 => ?_)
      · refine s_iload_n K dX4_greenPlaces_44 rfl 0 rfl ?_
        exact s_iret K hret hlk rfl rfl dX4_greenPlaces_45
      · refine s_aload_n K dX4_greenPlaces_19 rfl 1 rfl ?_
        refine s_iload K dX4_greenPlaces_20 3 rfl ?_
        refine s_ck (fun ho_2 => ?_)
        refine s_iald K 1 0 rfl rfl (ok_in ho_2) rfl dX4_greenPlaces_22 ?_
        refine s_istore (lv' := [(5, .int (dep (Int32.toNatClampNeg x4))), (1, .int x1), (2, .ref ud), (3, .int x3), (4, .int x4)]) K dX4_greenPlaces_23 (Nat.le_of_ble_eq_true rfl) rfl ?_
        refine s_iload_n K dX4_greenPlaces_25 rfl 1 rfl ?_
        refine s_iload K dX4_greenPlaces_26 0 rfl ?_
        refine s_if_ne (tgt := 35) K dX4_greenPlaces_28 (by decide) (fun c_3 => ?_) (fun c_3 => ?_)
        · refine s_iconst K dX4_greenPlaces_31 kic_1 ?_
          refine s_goto (tgt := 36) K dX4_greenPlaces_32 (by decide) ?_
          refine s_iadd K dX4_greenPlaces_36 ?_
          refine s_istore_n (lv' := [(1, .int (x1 + 1)), (5, .int (dep (Int32.toNatClampNeg x4))), (2, .ref ud), (3, .int x3), (4, .int x4)]) K dX4_greenPlaces_37 rfl (Nat.le_of_ble_eq_true rfl) rfl ?_
          refine s_iinc (lv' := [(4, .int (x4 + 1)), (1, .int (x1 + 1)), (5, .int (dep (Int32.toNatClampNeg x4))), (2, .ref ud), (3, .int x3)]) K dX4_greenPlaces_38 4 rfl (kii_1 _) (Nat.le_of_ble_eq_true rfl) rfl ?_
          refine s_goto (tgt := 13) K dX4_greenPlaces_41 (by decide) ?_
          refine s_lv (lv' := [(1, .int (x1 + 1)), (2, .ref ud), (3, .int x3), (4, .int (x4 + 1))]) [1, 3, 4, 0] rfl ?_
          exact ih (x1 + 1) x3 (x4 + 1)
        · refine s_iconst K dX4_greenPlaces_35 kic_0 ?_
          refine s_iadd K dX4_greenPlaces_36 ?_
          refine s_istore_n (lv' := [(1, .int (x1 + 0)), (5, .int (dep (Int32.toNatClampNeg x4))), (2, .ref ud), (3, .int x3), (4, .int x4)]) K dX4_greenPlaces_37 rfl (Nat.le_of_ble_eq_true rfl) rfl ?_
          refine s_iinc (lv' := [(4, .int (x4 + 1)), (1, .int (x1 + 0)), (5, .int (dep (Int32.toNatClampNeg x4))), (2, .ref ud), (3, .int x3)]) K dX4_greenPlaces_38 4 rfl (kii_1 _) (Nat.le_of_ble_eq_true rfl) rfl ?_
          refine s_goto (tgt := 13) K dX4_greenPlaces_41 (by decide) ?_
          refine s_lv (lv' := [(1, .int (x1 + 0)), (2, .ref ud), (3, .int x3), (4, .int (x4 + 1))]) [1, 3, 4, 0] rfl ?_
          exact ih (x1 + 0) x3 (x4 + 1)
  rewrite [f_X4_greenPlaces]
  refine s_iconst K dX4_greenPlaces_0 kic_0 ?_
  refine s_istore_n (lv' := [(1, .int 0), (0, .ref uh)]) K dX4_greenPlaces_1 rfl (Nat.le_of_ble_eq_true rfl) rfl ?_
  refine s_aload_n K dX4_greenPlaces_2 rfl 1 rfl ?_
  refine s_get K 0 rfl rfl inT4 0 (Nat.le_of_ble_eq_true rfl) t_67 rfl rfl dX4_greenPlaces_3 ?_
  refine s_astore_n (lv' := [(2, .ref ud), (1, .int 0), (0, .ref uh)]) K dX4_greenPlaces_6 rfl (Nat.le_of_ble_eq_true rfl) rfl ?_
  refine s_aload_n K dX4_greenPlaces_7 rfl 0 rfl ?_
  refine s_alen (v := 20) K 1 0 rfl rfl rfl dX4_greenPlaces_8 ?_
  refine s_istore_n (lv' := [(3, .int 20), (2, .ref ud), (1, .int 0), (0, .ref uh)]) K dX4_greenPlaces_9 rfl (Nat.le_of_ble_eq_true rfl) rfl ?_
  refine s_iconst K dX4_greenPlaces_10 kic_0 ?_
  refine s_istore (lv' := [(4, .int 0), (3, .int 20), (2, .ref ud), (1, .int 0), (0, .ref uh)]) K dX4_greenPlaces_11 (Nat.le_of_ble_eq_true rfl) rfl ?_
  refine s_lv (lv' := [(1, .int 0), (2, .ref ud), (3, .int 20), (4, .int 0)]) [3, 2, 1, 0] rfl ?_
  exact L13 70 0 20 0
