/-! the constructors -/
set_option maxHeartbeats 4000000 in
set_option maxRecDepth 100000 in
theorem c_X5_init {l : Launch} {D : va_G} {cI cC cB cQ : ClassId} {kc : Nat → Nat} {kt : Nat} (b : Nat) : CT l D (tysOf cI cC cB cQ) kc kt yX5_init cX5_init 1 none ({ frames := 1, cells := 0, slots := 0, locals := 40 } : Room) [.ref b] [] [] none := by
  refine CT.of (ρ := Unit) (F := some ()) (ww := fun _ => []) (oo := fun _ => none) rfl RX5 rfl rfl (Nat.le_of_ble_eq_true rfl) ?_
  intro p e s m args below meth c A K hret hlk
  refine s_aload_n K dX5_init_0 rfl 0 rfl ?_
  refine s_objInit K t_100 t_19 t_20 (Nat.le_of_ble_eq_true rfl) (Nat.le_of_ble_eq_true rfl) dX5_init_1 ?_
  exact s_vret K hret hlk rfl rfl dX5_init_4
set_option maxHeartbeats 4000000 in
set_option maxRecDepth 100000 in
theorem c_X3_init {l : Launch} {D : va_G} {cI cC cB cQ : ClassId} {kc : Nat → Nat} {kt : Nat} (b : Nat) : CT l D (tysOf cI cC cB cQ) kc kt yX3_init cX3_init 1 none ({ frames := 2, cells := 0, slots := 0, locals := 80 } : Room) [.ref b] [] [] none := by
  refine CT.of (ρ := Unit) (F := some ()) (ww := fun _ => []) (oo := fun _ => none) rfl RX3 rfl rfl (Nat.le_of_ble_eq_true rfl) ?_
  intro p e s m args below meth c A K hret hlk
  refine s_aload_n K dX3_init_0 rfl 0 rfl ?_
  refine s_callIN (As := []) (w' := []) K nl_1 (c_X5_init b) hd_X5_init t_98 t_6 t_99 rfl ⟨(Nat.le_of_ble_eq_true rfl), (Nat.le_of_ble_eq_true rfl)⟩ ⟨rfl, rfl⟩ ⟨Nat.zero_le _, Nat.zero_le _⟩ [] [] [] rfl rfl rfl rfl (by decide) rfl rfl rfl (Nat.le_of_ble_eq_true rfl) dX3_init_1 ?_
  exact s_vret K hret hlk rfl rfl dX3_init_4
set_option maxHeartbeats 4000000 in
set_option maxRecDepth 100000 in
theorem c_X0_init {l : Launch} {D : va_G} {cI cC cB cQ : ClassId} {kc : Nat → Nat} {kt : Nat} (b : Nat) : CT l D (tysOf cI cC cB cQ) kc kt yX0_init cX0_init 1 none ({ frames := 2, cells := 0, slots := 0, locals := 80 } : Room) [.ref b] [] [] none := by
  refine CT.of (ρ := Unit) (F := some ()) (ww := fun _ => []) (oo := fun _ => none) rfl RX0 rfl rfl (Nat.le_of_ble_eq_true rfl) ?_
  intro p e s m args below meth c A K hret hlk
  refine s_aload_n K dX0_init_0 rfl 0 rfl ?_
  refine s_callIN (As := []) (w' := []) K nl_3 (c_X5_init b) hd_X5_init t_98 t_6 t_99 rfl ⟨(Nat.le_of_ble_eq_true rfl), (Nat.le_of_ble_eq_true rfl)⟩ ⟨rfl, rfl⟩ ⟨Nat.zero_le _, Nat.zero_le _⟩ [] [] [] rfl rfl rfl rfl (by decide) rfl rfl rfl (Nat.le_of_ble_eq_true rfl) dX0_init_1 ?_
  exact s_vret K hret hlk rfl rfl dX0_init_4
set_option maxHeartbeats 4000000 in
set_option maxRecDepth 100000 in
theorem c_X6_init {l : Launch} {D : va_G} {cI cC cB cQ : ClassId} {kc : Nat → Nat} {kt : Nat} (b : Nat) : CT l D (tysOf cI cC cB cQ) kc kt yX6_init cX6_init 1 none ({ frames := 2, cells := 0, slots := 0, locals := 80 } : Room) [.ref b] [] [] none := by
  refine CT.of (ρ := Unit) (F := some ()) (ww := fun _ => []) (oo := fun _ => none) rfl RX6 rfl rfl (Nat.le_of_ble_eq_true rfl) ?_
  intro p e s m args below meth c A K hret hlk
  refine s_aload_n K dX6_init_0 rfl 0 rfl ?_
  refine s_callIN (As := []) (w' := []) K nl_5 (c_X5_init b) hd_X5_init t_98 t_6 t_99 rfl ⟨(Nat.le_of_ble_eq_true rfl), (Nat.le_of_ble_eq_true rfl)⟩ ⟨rfl, rfl⟩ ⟨Nat.zero_le _, Nat.zero_le _⟩ [] [] [] rfl rfl rfl rfl (by decide) rfl rfl rfl (Nat.le_of_ble_eq_true rfl) dX6_init_1 ?_
  exact s_vret K hret hlk rfl rfl dX6_init_4
set_option maxHeartbeats 4000000 in
set_option maxRecDepth 100000 in
theorem c_X1_init {l : Launch} {D : va_G} {cI cC cB cQ : ClassId} {kc : Nat → Nat} {kt : Nat} (b : Nat) : CT l D (tysOf cI cC cB cQ) kc kt yX1_init cX1_init 1 none ({ frames := 1, cells := 0, slots := 0, locals := 40 } : Room) [.ref b] [(b, .inr (1, [.null, .int 0, .int 0, .int 0, .int 0]))] [(b, .inr (1, [.ref (kc 0), .int 0, .int (-1), .int (-1), .int (-1)]))] none := by
  refine CT.of (ρ := Unit) (F := some ()) (ww := fun _ => [(b, .inr (1, [.ref (kc 0), .int 0, .int (-1), .int (-1), .int (-1)]))]) (oo := fun _ => none) rfl RX1 rfl rfl (Nat.le_of_ble_eq_true rfl) ?_
  intro p e s m args below meth c A K hret hlk
  refine s_aload_n K dX1_init_0 rfl 0 rfl ?_
  refine s_objInit K t_33 t_19 t_20 (Nat.le_of_ble_eq_true rfl) (Nat.le_of_ble_eq_true rfl) dX1_init_1 ?_
  refine s_aload_n K dX1_init_4 rfl 0 rfl ?_
  refine s_getsK K 0 (by decide) rfl t_34 dX1_init_5 ?_
  refine s_put (w' := [(b, .inr (1, [.ref (kc 0), .int 0, .int 0, .int 0, .int 0]))]) K 0 rfl rfl inT1 tyX1_ok nmX1 0 (Nat.le_of_ble_eq_true rfl) t_36 rfl rfl rfl rfl (Nat.le_of_ble_eq_true rfl) rfl dX1_init_8 ?_
  refine s_aload_n K dX1_init_11 rfl 0 rfl ?_
  refine s_iconst K dX1_init_12 kic_0 ?_
  refine s_put (w' := [(b, .inr (1, [.ref (kc 0), .int 0, .int 0, .int 0, .int 0]))]) K 0 rfl rfl inT1 tyX1_ok nmX1 1 (Nat.le_of_ble_eq_true rfl) t_39 rfl rfl rfl rfl (Nat.le_of_ble_eq_true rfl) rfl dX1_init_13 ?_
  refine s_aload_n K dX1_init_16 rfl 0 rfl ?_
  refine s_iconst K dX1_init_17 kic_m1 ?_
  refine s_put (w' := [(b, .inr (1, [.ref (kc 0), .int 0, .int (-1), .int 0, .int 0]))]) K 0 rfl rfl inT1 tyX1_ok nmX1 2 (Nat.le_of_ble_eq_true rfl) t_44 rfl rfl rfl rfl (Nat.le_of_ble_eq_true rfl) rfl dX1_init_18 ?_
  refine s_aload_n K dX1_init_21 rfl 0 rfl ?_
  refine s_iconst K dX1_init_22 kic_m1 ?_
  refine s_put (w' := [(b, .inr (1, [.ref (kc 0), .int 0, .int (-1), .int (-1), .int 0]))]) K 0 rfl rfl inT1 tyX1_ok nmX1 3 (Nat.le_of_ble_eq_true rfl) t_48 rfl rfl rfl rfl (Nat.le_of_ble_eq_true rfl) rfl dX1_init_23 ?_
  refine s_aload_n K dX1_init_26 rfl 0 rfl ?_
  refine s_iconst K dX1_init_27 kic_m1 ?_
  refine s_put (w' := [(b, .inr (1, [.ref (kc 0), .int 0, .int (-1), .int (-1), .int (-1)]))]) K 0 rfl rfl inT1 tyX1_ok nmX1 4 (Nat.le_of_ble_eq_true rfl) t_51 rfl rfl rfl rfl (Nat.le_of_ble_eq_true rfl) rfl dX1_init_28 ?_
  exact s_vret K hret hlk rfl rfl dX1_init_31
