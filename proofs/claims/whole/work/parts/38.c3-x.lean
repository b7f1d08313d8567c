set_option maxHeartbeats 4000000 in
set_option maxRecDepth 100000 in
theorem c_X7_letter {l : Launch} {D : va_G} {cI cC cB cQ : ClassId} {kc : Nat → Nat} {kt : Nat} (xh xp nh nd nb : Nat) (na : Nat → Nat) (kh kd kb : Nat) (ka : Nat → Nat) (th td tb : Nat) (ta : Nat → Nat) (gl ga gw : Nat) (ltr lrd srs bks img : Int32) (pag : Nat → Int32) (n_cnt n_wet n_stg n_dys : Int32) (n_dep : Nat → Int32) (n_knd : Nat → Nat) (n_siz n_plc n_onn n_axs : Nat → Int32) (k_cnt k_wet k_stg k_dys : Int32) (k_dep : Nat → Int32) (k_knd : Nat → Nat) (k_siz k_plc k_onn k_axs : Nat → Int32) (t_cnt t_wet t_stg t_dys : Int32) (t_dep : Nat → Int32) (t_knd : Nat → Nat) (t_siz t_plc t_onn t_axs : Nat → Int32) (l_gsz l_gsd l_gfw a_gfw a_gtg w_gwy w_grl w_gsz : Int32) (a1 : Int32) {r : Int32 × Int32 × (Nat → Int32)} (hF : f_X7_letter ltr pag a1 = some r) : CT l D (tysOf cI cC cB cQ) kc kt yX7_letter cX7_letter 2 (some .int) ({ frames := 2, cells := 0, slots := 0, locals := 102 } : Room) [.ref xh, .int a1] (wX cI cC cB cQ kc xh xp nh nd nb na kh kd kb ka th td tb ta gl ga gw ltr lrd srs bks img pag n_cnt n_wet n_stg n_dys n_dep n_knd n_siz n_plc n_onn n_axs k_cnt k_wet k_stg k_dys k_dep k_knd k_siz k_plc k_onn k_axs t_cnt t_wet t_stg t_dys t_dep t_knd t_siz t_plc t_onn t_axs l_gsz l_gsd l_gfw a_gfw a_gtg w_gwy w_grl w_gsz) ((fun (r : Int32 × Int32 × (Nat → Int32)) => (wX cI cC cB cQ kc xh xp nh nd nb na kh kd kb ka th td tb ta gl ga gw (r.2.1) lrd srs bks img (r.2.2) n_cnt n_wet n_stg n_dys n_dep n_knd n_siz n_plc n_onn n_axs k_cnt k_wet k_stg k_dys k_dep k_knd k_siz k_plc k_onn k_axs t_cnt t_wet t_stg t_dys t_dep t_knd t_siz t_plc t_onn t_axs l_gsz l_gsd l_gfw a_gfw a_gtg w_gwy w_grl w_gsz)) r) ((fun (r : Int32 × Int32 × (Nat → Int32)) => some (.int (r.1))) r) := by
  refine CT.of (ww := (fun (r : Int32 × Int32 × (Nat → Int32)) => (wX cI cC cB cQ kc xh xp nh nd nb na kh kd kb ka th td tb ta gl ga gw (r.2.1) lrd srs bks img (r.2.2) n_cnt n_wet n_stg n_dys n_dep n_knd n_siz n_plc n_onn n_axs k_cnt k_wet k_stg k_dys k_dep k_knd k_siz k_plc k_onn k_axs t_cnt t_wet t_stg t_dys t_dep t_knd t_siz t_plc t_onn t_axs l_gsz l_gsd l_gfw a_gfw a_gtg w_gwy w_grl w_gsz))) (oo := (fun (r : Int32 × Int32 × (Nat → Int32)) => some (.int (r.1)))) hF RX7 rfl rfl (Nat.le_of_ble_eq_true rfl) ?_
  intro p e s m args below meth c A K hret hlk
  rewrite [f_X7_letter]
  refine s_iload_n K dX7_letter_0 rfl 1 rfl ?_
  refine s_bipush K dX7_letter_1 kib_32 ?_
  refine s_bipush K dX7_letter_3 kib_126 ?_
  refine s_bind (fun q hq_2 => ?_)
  obtain ⟨r_1, rfl⟩ : ∃ z, z = q := ⟨_, rfl⟩
  refine s_callS0 (rest := []) (st1 := [.int r_1]) K (c_X7_isOutside a1 32 126 hq_2) hd_X7_isOutside t_185 t_186 t_1 t_187 ⟨(Nat.le_of_ble_eq_true rfl), (Nat.le_of_ble_eq_true rfl)⟩ ⟨rfl, rfl⟩ ⟨Nat.zero_le _, Nat.zero_le _⟩ rfl rfl (Nat.le_of_ble_eq_true rfl) dX7_letter_5 ?_
  refine s_if_eq (tgt := 14) K dX7_letter_8 (by decide) (fun c_3 => ?_) (fun c_3 => ?_)
  · refine s_aload_n K dX7_letter_14 rfl 0 rfl ?_
    refine s_get K 0 rfl rfl inT7 7 (Nat.le_of_ble_eq_true rfl) t_151 rfl rfl dX7_letter_15 ?_
    refine s_bipush K dX7_letter_18 kib_26 ?_
    refine s_icmp_lt (tgt := 26) K dX7_letter_20 (by decide) (fun c_4 => ?_) (fun c_4 => ?_)
    · refine s_aload_n K dX7_letter_26 rfl 0 rfl ?_
      refine s_get K 0 rfl rfl inT7 0 (Nat.le_of_ble_eq_true rfl) t_144 rfl rfl dX7_letter_27 ?_
      refine s_aload_n K dX7_letter_30 rfl 0 rfl ?_
      refine s_get K 0 rfl rfl inT7 7 (Nat.le_of_ble_eq_true rfl) t_151 rfl rfl dX7_letter_31 ?_
      refine s_iload_n K dX7_letter_34 rfl 1 rfl ?_
      refine s_i2c K dX7_letter_35 ?_
      refine s_ck (fun ho_5 => ?_)
      refine s_cast (w' := (wX cI cC cB cQ kc xh xp nh nd nb na kh kd kb ka th td tb ta gl ga gw ltr lrd srs bks img (upd pag (Int32.toNatClampNeg ltr) (vp_nar .char ((Int32.toUInt32 a1 % 65536).toInt32))) n_cnt n_wet n_stg n_dys n_dep n_knd n_siz n_plc n_onn n_axs k_cnt k_wet k_stg k_dys k_dep k_knd k_siz k_plc k_onn k_axs t_cnt t_wet t_stg t_dys t_dep t_knd t_siz t_plc t_onn t_axs l_gsz l_gsd l_gfw a_gfw a_gtg w_gwy w_grl w_gsz)) K 1 1 rfl rfl (ok_in ho_5) rfl rfl dX7_letter_36 ?_
      refine s_aload_n K dX7_letter_37 rfl 0 rfl ?_
      refine s_dup K dX7_letter_38 rfl ?_
      refine s_get K 0 rfl rfl inT7 7 (Nat.le_of_ble_eq_true rfl) t_151 rfl rfl dX7_letter_39 ?_
      refine s_iconst K dX7_letter_42 kic_1 ?_
      refine s_iadd K dX7_letter_43 ?_
      refine s_put (w' := (wX cI cC cB cQ kc xh xp nh nd nb na kh kd kb ka th td tb ta gl ga gw (ltr + 1) lrd srs bks img (upd pag (Int32.toNatClampNeg ltr) (vp_nar .char ((Int32.toUInt32 a1 % 65536).toInt32))) n_cnt n_wet n_stg n_dys n_dep n_knd n_siz n_plc n_onn n_axs k_cnt k_wet k_stg k_dys k_dep k_knd k_siz k_plc k_onn k_axs t_cnt t_wet t_stg t_dys t_dep t_knd t_siz t_plc t_onn t_axs l_gsz l_gsd l_gfw a_gfw a_gtg w_gwy w_grl w_gsz)) K 0 rfl rfl inT7 tyX7_ok nmX7 7 (Nat.le_of_ble_eq_true rfl) t_151 rfl rfl rfl rfl (Nat.le_of_ble_eq_true rfl) rfl dX7_letter_44 ?_
      refine s_aload_n K dX7_letter_47 rfl 0 rfl ?_
      refine s_get K 0 rfl rfl inT7 7 (Nat.le_of_ble_eq_true rfl) t_151 rfl rfl dX7_letter_48 ?_
      exact s_iret K hret hlk rfl rfl dX7_letter_51
    · refine s_bipush K dX7_letter_23 kib_m104 ?_
      exact s_iret K hret hlk rfl rfl dX7_letter_25
  · refine s_bipush K dX7_letter_11 kib_m102 ?_
    exact s_iret K hret hlk rfl rfl dX7_letter_13
set_option maxHeartbeats 4000000 in
set_option maxRecDepth 100000 in
theorem c_X7_blank {l : Launch} {D : va_G} {cI cC cB cQ : ClassId} {kc : Nat → Nat} {kt : Nat} (xh xp nh nd nb : Nat) (na : Nat → Nat) (kh kd kb : Nat) (ka : Nat → Nat) (th td tb : Nat) (ta : Nat → Nat) (gl ga gw : Nat) (ltr lrd srs bks img : Int32) (pag : Nat → Int32) (n_cnt n_wet n_stg n_dys : Int32) (n_dep : Nat → Int32) (n_knd : Nat → Nat) (n_siz n_plc n_onn n_axs : Nat → Int32) (k_cnt k_wet k_stg k_dys : Int32) (k_dep : Nat → Int32) (k_knd : Nat → Nat) (k_siz k_plc k_onn k_axs : Nat → Int32) (t_cnt t_wet t_stg t_dys : Int32) (t_dep : Nat → Int32) (t_knd : Nat → Nat) (t_siz t_plc t_onn t_axs : Nat → Int32) (l_gsz l_gsd l_gfw a_gfw a_gtg w_gwy w_grl w_gsz : Int32) {r : Int32 × Int32} (hF : f_X7_blank ltr = some r) : CT l D (tysOf cI cC cB cQ) kc kt yX7_blank cX7_blank 2 (some .int) ({ frames := 1, cells := 0, slots := 0, locals := 40 } : Room) [.ref xh] (wX cI cC cB cQ kc xh xp nh nd nb na kh kd kb ka th td tb ta gl ga gw ltr lrd srs bks img pag n_cnt n_wet n_stg n_dys n_dep n_knd n_siz n_plc n_onn n_axs k_cnt k_wet k_stg k_dys k_dep k_knd k_siz k_plc k_onn k_axs t_cnt t_wet t_stg t_dys t_dep t_knd t_siz t_plc t_onn t_axs l_gsz l_gsd l_gfw a_gfw a_gtg w_gwy w_grl w_gsz) ((fun (r : Int32 × Int32) => (wX cI cC cB cQ kc xh xp nh nd nb na kh kd kb ka th td tb ta gl ga gw (r.2) lrd srs bks img pag n_cnt n_wet n_stg n_dys n_dep n_knd n_siz n_plc n_onn n_axs k_cnt k_wet k_stg k_dys k_dep k_knd k_siz k_plc k_onn k_axs t_cnt t_wet t_stg t_dys t_dep t_knd t_siz t_plc t_onn t_axs l_gsz l_gsd l_gfw a_gfw a_gtg w_gwy w_grl w_gsz)) r) ((fun (r : Int32 × Int32) => some (.int (r.1))) r) := by
  refine CT.of (ww := (fun (r : Int32 × Int32) => (wX cI cC cB cQ kc xh xp nh nd nb na kh kd kb ka th td tb ta gl ga gw (r.2) lrd srs bks img pag n_cnt n_wet n_stg n_dys n_dep n_knd n_siz n_plc n_onn n_axs k_cnt k_wet k_stg k_dys k_dep k_knd k_siz k_plc k_onn k_axs t_cnt t_wet t_stg t_dys t_dep t_knd t_siz t_plc t_onn t_axs l_gsz l_gsd l_gfw a_gfw a_gtg w_gwy w_grl w_gsz))) (oo := (fun (r : Int32 × Int32) => some (.int (r.1)))) hF RX7 rfl rfl (Nat.le_of_ble_eq_true rfl) ?_
  intro p e s m args below meth c A K hret hlk
  rewrite [f_X7_blank]
  refine s_aload_n K dX7_blank_0 rfl 0 rfl ?_
  refine s_get K 0 rfl rfl inT7 7 (Nat.le_of_ble_eq_true rfl) t_151 rfl rfl dX7_blank_1 ?_
  refine s_istore_n (lv' := [(1, .int ltr), (0, .ref xh)]) K dX7_blank_4 rfl (Nat.le_of_ble_eq_true rfl) rfl ?_
  refine s_aload_n K dX7_blank_5 rfl 1 rfl ?_
  refine s_iconst K dX7_blank_6 kic_0 ?_
  refine s_put (w' := (wX cI cC cB cQ kc xh xp nh nd nb na kh kd kb ka th td tb ta gl ga gw 0 lrd srs bks img pag n_cnt n_wet n_stg n_dys n_dep n_knd n_siz n_plc n_onn n_axs k_cnt k_wet k_stg k_dys k_dep k_knd k_siz k_plc k_onn k_axs t_cnt t_wet t_stg t_dys t_dep t_knd t_siz t_plc t_onn t_axs l_gsz l_gsd l_gfw a_gfw a_gtg w_gwy w_grl w_gsz)) K 0 rfl rfl inT7 tyX7_ok nmX7 7 (Nat.le_of_ble_eq_true rfl) t_151 rfl rfl rfl rfl (Nat.le_of_ble_eq_true rfl) rfl dX7_blank_7 ?_
  refine s_iload_n K dX7_blank_10 rfl 0 rfl ?_
  exact s_iret K hret hlk rfl rfl dX7_blank_11
set_option maxHeartbeats 4000000 in
set_option maxRecDepth 100000 in
theorem c_X7_fault {l : Launch} {D : va_G} {cI cC cB cQ : ClassId} {kc : Nat → Nat} {kt : Nat} (xh xp nh nd nb : Nat) (na : Nat → Nat) (kh kd kb : Nat) (ka : Nat → Nat) (th td tb : Nat) (ta : Nat → Nat) (gl ga gw : Nat) (ltr lrd srs bks img : Int32) (pag : Nat → Int32) (n_cnt n_wet n_stg n_dys : Int32) (n_dep : Nat → Int32) (n_knd : Nat → Nat) (n_siz n_plc n_onn n_axs : Nat → Int32) (k_cnt k_wet k_stg k_dys : Int32) (k_dep : Nat → Int32) (k_knd : Nat → Nat) (k_siz k_plc k_onn k_axs : Nat → Int32) (t_cnt t_wet t_stg t_dys : Int32) (t_dep : Nat → Int32) (t_knd : Nat → Nat) (t_siz t_plc t_onn t_axs : Nat → Int32) (l_gsz l_gsd l_gfw a_gfw a_gtg w_gwy w_grl w_gsz : Int32) {r : Int32} (hF : f_X7_fault ltr pag = some r) : CT l D (tysOf cI cC cB cQ) kc kt yX7_fault cX7_fault 2 (some .int) ({ frames := 2, cells := 0, slots := 0, locals := 101 } : Room) [.ref xh] (wX cI cC cB cQ kc xh xp nh nd nb na kh kd kb ka th td tb ta gl ga gw ltr lrd srs bks img pag n_cnt n_wet n_stg n_dys n_dep n_knd n_siz n_plc n_onn n_axs k_cnt k_wet k_stg k_dys k_dep k_knd k_siz k_plc k_onn k_axs t_cnt t_wet t_stg t_dys t_dep t_knd t_siz t_plc t_onn t_axs l_gsz l_gsd l_gfw a_gfw a_gtg w_gwy w_grl w_gsz) ((fun (r : Int32) => (wX cI cC cB cQ kc xh xp nh nd nb na kh kd kb ka th td tb ta gl ga gw ltr lrd srs bks img pag n_cnt n_wet n_stg n_dys n_dep n_knd n_siz n_plc n_onn n_axs k_cnt k_wet k_stg k_dys k_dep k_knd k_siz k_plc k_onn k_axs t_cnt t_wet t_stg t_dys t_dep t_knd t_siz t_plc t_onn t_axs l_gsz l_gsd l_gfw a_gfw a_gtg w_gwy w_grl w_gsz)) r) ((fun (r : Int32) => some (.int r)) r) := by
  refine CT.of (ww := (fun (r : Int32) => (wX cI cC cB cQ kc xh xp nh nd nb na kh kd kb ka th td tb ta gl ga gw ltr lrd srs bks img pag n_cnt n_wet n_stg n_dys n_dep n_knd n_siz n_plc n_onn n_axs k_cnt k_wet k_stg k_dys k_dep k_knd k_siz k_plc k_onn k_axs t_cnt t_wet t_stg t_dys t_dep t_knd t_siz t_plc t_onn t_axs l_gsz l_gsd l_gfw a_gfw a_gtg w_gwy w_grl w_gsz))) (oo := (fun (r : Int32) => some (.int r))) hF RX7 rfl rfl (Nat.le_of_ble_eq_true rfl) ?_
  intro p e s m args below meth c A K hret hlk
  have L2 : ∀ (fu : Nat) (x1 : Int32), Sw (ρ := Int32) p l e ({ frames := 2, cells := 0, slots := 0, locals := 101 } : Room) s m args below meth c 0 0 D A 2 (fun r => MQ below (CQ D ((fun (r : Int32) => (wX cI cC cB cQ kc xh xp nh nd nb na kh kd kb ka th td tb ta gl ga gw ltr lrd srs bks img pag n_cnt n_wet n_stg n_dys n_dep n_knd n_siz n_plc n_onn n_axs k_cnt k_wet k_stg k_dys k_dep k_knd k_siz k_plc k_onn k_axs t_cnt t_wet t_stg t_dys t_dep t_knd t_siz t_plc t_onn t_axs l_gsz l_gsd l_gfw a_gfw a_gtg w_gwy w_grl w_gsz)) r) ((fun (r : Int32) => some (.int r)) r) A) args s 0 0 A) (f_X7_fault_h2 ltr pag fu x1) (wX cI cC cB cQ kc xh xp nh nd nb na kh kd kb ka th td tb ta gl ga gw ltr lrd srs bks img pag n_cnt n_wet n_stg n_dys n_dep n_knd n_siz n_plc n_onn n_axs k_cnt k_wet k_stg k_dys k_dep k_knd k_siz k_plc k_onn k_axs t_cnt t_wet t_stg t_dys t_dep t_knd t_siz t_plc t_onn t_axs l_gsz l_gsd l_gfw a_gfw a_gtg w_gwy w_grl w_gsz) [(0, .ref xh), (1, .int x1)] 2 [] := by
    intro  fu
    induction fu with
    | zero =>
      intro x1
      rewrite [f_X7_fault_h2]
      exact s_none
    | succ fu ih =>
      intro x1
      rewrite [f_X7_fault_h2]
      refine s_iload_n K dX7_fault_2 rfl 1 rfl ?_
      refine s_aload_n K dX7_fault_3 rfl 0 rfl ?_
      refine s_get K 0 rfl rfl inT7 7 (Nat.le_of_ble_eq_true rfl) t_151 rfl rfl dX7_fault_4 ?_
      refine s_icmp_ge (tgt := 31) K dX7_fault_7 (by decide) (fun c_1 => ?_) (fun c_1 => ?_)
      · refine s_aload_n K dX7_fault_31 rfl 0 rfl ?_
        refine s_get K 0 rfl rfl inT7 7 (Nat.le_of_ble_eq_true rfl) t_151 rfl rfl dX7_fault_32 ?_
        exact s_iret K hret hlk rfl rfl dX7_fault_35
      · refine s_iload_n K dX7_fault_10 rfl 1 rfl ?_
        refine s_aload_n K dX7_fault_11 rfl 0 rfl ?_
        refine s_get K 0 rfl rfl inT7 0 (Nat.le_of_ble_eq_true rfl) t_144 rfl rfl dX7_fault_12 ?_
        refine s_iload_n K dX7_fault_15 rfl 1 rfl ?_
        refine s_ck (fun ho_2 => ?_)
        refine s_cald K 1 1 rfl rfl (ok_in ho_2) rfl dX7_fault_16 ?_
        refine s_bind (fun q hq_4 => ?_)
        obtain ⟨r_3, rfl⟩ : ∃ z, z = q := ⟨_, rfl⟩
        refine s_callS0 (rest := []) (st1 := [.int r_3]) K (c_X7_belongsAt x1 (pag (Int32.toNatClampNeg x1)) hq_4) hd_X7_belongsAt t_196 t_197 t_1 t_198 ⟨(Nat.le_of_ble_eq_true rfl), (Nat.le_of_ble_eq_true rfl)⟩ ⟨rfl, rfl⟩ ⟨Nat.zero_le _, Nat.zero_le _⟩ rfl rfl (Nat.le_of_ble_eq_true rfl) dX7_fault_17 ?_
        refine s_if_ne (tgt := 25) K dX7_fault_20 (by decide) (fun c_5 => ?_) (fun c_5 => ?_)
        · refine s_iload_n K dX7_fault_23 rfl 1 rfl ?_
          exact s_iret K hret hlk rfl rfl dX7_fault_24
        · refine s_iinc (lv' := [(1, .int (x1 + 1)), (0, .ref xh)]) K dX7_fault_25 1 rfl (kii_1 _) (Nat.le_of_ble_eq_true rfl) rfl ?_
          refine s_goto (tgt := 2) K dX7_fault_28 (by decide) ?_
          refine s_lv (lv' := [(0, .ref xh), (1, .int (x1 + 1))]) [1, 0] rfl ?_
          exact ih (x1 + 1)
  rewrite [f_X7_fault]
  refine s_iconst K dX7_fault_0 kic_0 ?_
  refine s_istore_n (lv' := [(1, .int 0), (0, .ref xh)]) K dX7_fault_1 rfl (Nat.le_of_ble_eq_true rfl) rfl ?_
  refine s_lv (lv' := [(0, .ref xh), (1, .int 0)]) [1, 0] rfl ?_
  exact L2 70 0
set_option maxHeartbeats 4000000 in
set_option maxRecDepth 100000 in
theorem c_X7_lawn {l : Launch} {D : va_G} {cI cC cB cQ : ClassId} {kc : Nat → Nat} {kt : Nat} (xh xp nh nd nb : Nat) (na : Nat → Nat) (kh kd kb : Nat) (ka : Nat → Nat) (th td tb : Nat) (ta : Nat → Nat) (gl ga gw : Nat) (ltr lrd srs bks img : Int32) (pag : Nat → Int32) (n_cnt n_wet n_stg n_dys : Int32) (n_dep : Nat → Int32) (n_knd : Nat → Nat) (n_siz n_plc n_onn n_axs : Nat → Int32) (k_cnt k_wet k_stg k_dys : Int32) (k_dep : Nat → Int32) (k_knd : Nat → Nat) (k_siz k_plc k_onn k_axs : Nat → Int32) (t_cnt t_wet t_stg t_dys : Int32) (t_dep : Nat → Int32) (t_knd : Nat → Nat) (t_siz t_plc t_onn t_axs : Nat → Int32) (l_gsz l_gsd l_gfw a_gfw a_gtg w_gwy w_grl w_gsz : Int32) {r : Int32 × Int32 × Int32 × Int32 × Int32 × Int32 × Int32 × Int32 × (Nat → Int32)} (hF : f_X7_lawn ltr lrd img pag n_cnt n_wet n_stg n_dys n_dep = some r) : CT l D (tysOf cI cC cB cQ) kc kt yX7_lawn cX7_lawn 2 (some .int) ({ frames := 3, cells := 0, slots := 0, locals := 162 } : Room) [.ref xh] (wX cI cC cB cQ kc xh xp nh nd nb na kh kd kb ka th td tb ta gl ga gw ltr lrd srs bks img pag n_cnt n_wet n_stg n_dys n_dep n_knd n_siz n_plc n_onn n_axs k_cnt k_wet k_stg k_dys k_dep k_knd k_siz k_plc k_onn k_axs t_cnt t_wet t_stg t_dys t_dep t_knd t_siz t_plc t_onn t_axs l_gsz l_gsd l_gfw a_gfw a_gtg w_gwy w_grl w_gsz) ((fun (r : Int32 × Int32 × Int32 × Int32 × Int32 × Int32 × Int32 × Int32 × (Nat → Int32)) => (wX cI cC cB cQ kc xh xp nh nd nb na kh kd kb ka th td tb ta gl ga gw (r.2.1) (r.2.2.1) srs bks (r.2.2.2.1) pag (r.2.2.2.2.1) (r.2.2.2.2.2.1) (r.2.2.2.2.2.2.1) (r.2.2.2.2.2.2.2.1) (r.2.2.2.2.2.2.2.2) n_knd n_siz n_plc n_onn n_axs k_cnt k_wet k_stg k_dys k_dep k_knd k_siz k_plc k_onn k_axs t_cnt t_wet t_stg t_dys t_dep t_knd t_siz t_plc t_onn t_axs l_gsz l_gsd l_gfw a_gfw a_gtg w_gwy w_grl w_gsz)) r) ((fun (r : Int32 × Int32 × Int32 × Int32 × Int32 × Int32 × Int32 × Int32 × (Nat → Int32)) => some (.int (r.1))) r) := by
  refine CT.of (ww := (fun (r : Int32 × Int32 × Int32 × Int32 × Int32 × Int32 × Int32 × Int32 × (Nat → Int32)) => (wX cI cC cB cQ kc xh xp nh nd nb na kh kd kb ka th td tb ta gl ga gw (r.2.1) (r.2.2.1) srs bks (r.2.2.2.1) pag (r.2.2.2.2.1) (r.2.2.2.2.2.1) (r.2.2.2.2.2.2.1) (r.2.2.2.2.2.2.2.1) (r.2.2.2.2.2.2.2.2) n_knd n_siz n_plc n_onn n_axs k_cnt k_wet k_stg k_dys k_dep k_knd k_siz k_plc k_onn k_axs t_cnt t_wet t_stg t_dys t_dep t_knd t_siz t_plc t_onn t_axs l_gsz l_gsd l_gfw a_gfw a_gtg w_gwy w_grl w_gsz))) (oo := (fun (r : Int32 × Int32 × Int32 × Int32 × Int32 × Int32 × Int32 × Int32 × (Nat → Int32)) => some (.int (r.1)))) hF RX7 rfl rfl (Nat.le_of_ble_eq_true rfl) ?_
  intro p e s m args below meth c A K hret hlk
  have L30 : ∀ (fu : Nat) (n_cnt n_stg n_dys : Int32) (n_dep : Nat → Int32) (x1 : Int32), Sw (ρ := Int32 × Int32 × Int32 × Int32 × Int32 × Int32 × Int32 × Int32 × (Nat → Int32)) p l e ({ frames := 3, cells := 0, slots := 0, locals := 162 } : Room) s m args below meth c 0 0 D A 2 (fun r => MQ below (CQ D ((fun (r : Int32 × Int32 × Int32 × Int32 × Int32 × Int32 × Int32 × Int32 × (Nat → Int32)) => (wX cI cC cB cQ kc xh xp nh nd nb na kh kd kb ka th td tb ta gl ga gw (r.2.1) (r.2.2.1) srs bks (r.2.2.2.1) pag (r.2.2.2.2.1) (r.2.2.2.2.2.1) (r.2.2.2.2.2.2.1) (r.2.2.2.2.2.2.2.1) (r.2.2.2.2.2.2.2.2) n_knd n_siz n_plc n_onn n_axs k_cnt k_wet k_stg k_dys k_dep k_knd k_siz k_plc k_onn k_axs t_cnt t_wet t_stg t_dys t_dep t_knd t_siz t_plc t_onn t_axs l_gsz l_gsd l_gfw a_gfw a_gtg w_gwy w_grl w_gsz)) r) ((fun (r : Int32 × Int32 × Int32 × Int32 × Int32 × Int32 × Int32 × Int32 × (Nat → Int32)) => some (.int (r.1))) r) A) args s 0 0 A) (f_X7_lawn_h30 lrd pag fu n_cnt n_stg n_dys n_dep x1) (wX cI cC cB cQ kc xh xp nh nd nb na kh kd kb ka th td tb ta gl ga gw ltr lrd srs bks img pag n_cnt n_wet n_stg n_dys n_dep n_knd n_siz n_plc n_onn n_axs k_cnt k_wet k_stg k_dys k_dep k_knd k_siz k_plc k_onn k_axs t_cnt t_wet t_stg t_dys t_dep t_knd t_siz t_plc t_onn t_axs l_gsz l_gsd l_gfw a_gfw a_gtg w_gwy w_grl w_gsz) [(0, .ref xh), (1, .int x1)] 30 [] := by
    intro  fu
    induction fu with
    | zero =>
      intro n_cnt n_stg n_dys n_dep x1
      rewrite [f_X7_lawn_h30]
      exact s_none
    | succ fu ih =>
      intro n_cnt n_stg n_dys n_dep x1
      rewrite [f_X7_lawn_h30]
      refine s_iload_n K dX7_lawn_30 rfl 1 rfl ?_
      refine s_bipush K dX7_lawn_31 kib_20 ?_
      refine s_icmp_ge (tgt := 63) K dX7_lawn_33 (by decide) (fun c_9 => ?_) (fun c_9 => ?_)
      · refine s_aload_n K dX7_lawn_63 rfl 0 rfl ?_
        refine s_get K 0 rfl rfl inT7 1 (Nat.le_of_ble_eq_true rfl) t_145 rfl rfl dX7_lawn_64 ?_
        refine s_aload_n K dX7_lawn_67 rfl 0 rfl ?_
        refine s_get K 0 rfl rfl inT7 0 (Nat.le_of_ble_eq_true rfl) t_144 rfl rfl dX7_lawn_68 ?_
        refine s_bipush K dX7_lawn_71 kib_24 ?_
        refine s_cald K 1 1 rfl rfl kin_24_26 kcl_24 dX7_lawn_73 ?_
        refine s_bipush K dX7_lawn_74 kib_48 ?_
        refine s_isub K dX7_lawn_76 ?_
        refine s_put (w' := (wX cI cC cB cQ kc xh xp nh nd nb na kh kd kb ka th td tb ta gl ga gw ltr lrd srs bks img pag n_cnt ((pag 24) - 48) n_stg n_dys n_dep n_knd n_siz n_plc n_onn n_axs k_cnt k_wet k_stg k_dys k_dep k_knd k_siz k_plc k_onn k_axs t_cnt t_wet t_stg t_dys t_dep t_knd t_siz t_plc t_onn t_axs l_gsz l_gsd l_gfw a_gfw a_gtg w_gwy w_grl w_gsz)) K 2 rfl rfl inT4 tyX4_ok nmX4 3 (Nat.le_of_ble_eq_true rfl) t_74 rfl rfl rfl rfl (Nat.le_of_ble_eq_true rfl) rfl dX7_lawn_77 ?_
        refine s_aload_n K dX7_lawn_80 rfl 0 rfl ?_
        refine s_iconst K dX7_lawn_81 kic_0 ?_
        refine s_put (w' := (wX cI cC cB cQ kc xh xp nh nd nb na kh kd kb ka th td tb ta gl ga gw 0 lrd srs bks img pag n_cnt ((pag 24) - 48) n_stg n_dys n_dep n_knd n_siz n_plc n_onn n_axs k_cnt k_wet k_stg k_dys k_dep k_knd k_siz k_plc k_onn k_axs t_cnt t_wet t_stg t_dys t_dep t_knd t_siz t_plc t_onn t_axs l_gsz l_gsd l_gfw a_gfw a_gtg w_gwy w_grl w_gsz)) K 0 rfl rfl inT7 tyX7_ok nmX7 7 (Nat.le_of_ble_eq_true rfl) t_151 rfl rfl rfl rfl (Nat.le_of_ble_eq_true rfl) rfl dX7_lawn_82 ?_
        refine s_aload_n K dX7_lawn_85 rfl 0 rfl ?_
        refine s_dup K dX7_lawn_86 rfl ?_
        refine s_get K 0 rfl rfl inT7 8 (Nat.le_of_ble_eq_true rfl) t_152 rfl rfl dX7_lawn_87 ?_
        refine s_iconst K dX7_lawn_90 kic_1 ?_
        refine s_iadd K dX7_lawn_91 ?_
        refine s_put (w' := (wX cI cC cB cQ kc xh xp nh nd nb na kh kd kb ka th td tb ta gl ga gw 0 (lrd + 1) srs bks img pag n_cnt ((pag 24) - 48) n_stg n_dys n_dep n_knd n_siz n_plc n_onn n_axs k_cnt k_wet k_stg k_dys k_dep k_knd k_siz k_plc k_onn k_axs t_cnt t_wet t_stg t_dys t_dep t_knd t_siz t_plc t_onn t_axs l_gsz l_gsd l_gfw a_gfw a_gtg w_gwy w_grl w_gsz)) K 0 rfl rfl inT7 tyX7_ok nmX7 8 (Nat.le_of_ble_eq_true rfl) t_152 rfl rfl rfl rfl (Nat.le_of_ble_eq_true rfl) rfl dX7_lawn_92 ?_
        refine s_aload_n K dX7_lawn_95 rfl 0 rfl ?_
        refine s_iconst K dX7_lawn_96 kic_0 ?_
        refine s_put (w' := (wX cI cC cB cQ kc xh xp nh nd nb na kh kd kb ka th td tb ta gl ga gw 0 (lrd + 1) srs bks 0 pag n_cnt ((pag 24) - 48) n_stg n_dys n_dep n_knd n_siz n_plc n_onn n_axs k_cnt k_wet k_stg k_dys k_dep k_knd k_siz k_plc k_onn k_axs t_cnt t_wet t_stg t_dys t_dep t_knd t_siz t_plc t_onn t_axs l_gsz l_gsd l_gfw a_gfw a_gtg w_gwy w_grl w_gsz)) K 0 rfl rfl inT7 tyX7_ok nmX7 11 (Nat.le_of_ble_eq_true rfl) t_155 rfl rfl rfl rfl (Nat.le_of_ble_eq_true rfl) rfl dX7_lawn_97 ?_
        refine s_aload_n K dX7_lawn_100 rfl 0 rfl ?_
        refine s_get K 0 rfl rfl inT7 1 (Nat.le_of_ble_eq_true rfl) t_145 rfl rfl dX7_lawn_101 ?_
        refine s_bind (fun q hq_11 => ?_)
        obtain ⟨r_10, rfl⟩ : ∃ z, z = q := ⟨_, rfl⟩
        refine s_callV (w' := (wX cI cC cB cQ kc xh xp nh nd nb na kh kd kb ka th td tb ta gl ga gw 0 (lrd + 1) srs bks 0 pag n_cnt ((pag 24) - 48) n_stg n_dys n_dep n_knd n_siz n_plc n_onn n_axs k_cnt k_wet k_stg k_dys k_dep k_knd k_siz k_plc k_onn k_axs t_cnt t_wet t_stg t_dys t_dep t_knd t_siz t_plc t_onn t_axs l_gsz l_gsd l_gfw a_gfw a_gtg w_gwy w_grl w_gsz)) (rest := []) (st1 := [.int r_10]) K (c_X4_allDepths nh nd nb na n_cnt ((pag 24) - 48) n_stg n_dys n_dep n_knd n_siz n_plc n_onn n_axs hq_11) rfl hd_X4_allDepths t_211 t_212 t_213 t_2 t_214 ⟨(Nat.le_of_ble_eq_true rfl), (Nat.le_of_ble_eq_true rfl)⟩ ⟨rfl, rfl⟩ ⟨Nat.zero_le _, Nat.zero_le _⟩ (rv_o K 2 rfl rfl) [2, 3, 4, 5, 6, 7, 8, 9] [0, 1, 10, 11, 12, 13, 14, 15, 16, 17, 18, 19, 20, 21, 22, 23, 24, 25, 26, 27, 28] [0, 1, 21, 22, 23, 24, 25, 26, 27, 28, 2, 3, 4, 5, 6, 7, 8, 9, 10, 11, 12, 13, 14, 15, 16, 17, 18, 19, 20] rfl rfl rfl rfl (by decide) rfl rfl rfl rfl (Nat.le_of_ble_eq_true rfl) dX7_lawn_104 ?_
        exact s_iret K hret hlk rfl rfl dX7_lawn_107
      · refine s_aload_n K dX7_lawn_36 rfl 0 rfl ?_
        refine s_get K 0 rfl rfl inT7 1 (Nat.le_of_ble_eq_true rfl) t_145 rfl rfl dX7_lawn_37 ?_
        refine s_get K 2 rfl rfl inT4 0 (Nat.le_of_ble_eq_true rfl) t_68 rfl rfl dX7_lawn_40 ?_
        refine s_iload_n K dX7_lawn_43 rfl 1 rfl ?_
        refine s_aload_n K dX7_lawn_44 rfl 0 rfl ?_
        refine s_get K 0 rfl rfl inT7 0 (Nat.le_of_ble_eq_true rfl) t_144 rfl rfl dX7_lawn_45 ?_
        refine s_iload_n K dX7_lawn_48 rfl 1 rfl ?_
        refine s_bind (fun q hq_13 => ?_)
        obtain ⟨r_12, rfl⟩ : ∃ z, z = q := ⟨_, rfl⟩
        refine s_callS0 (rest := [.ref xp, .int x1, .ref nd]) (st1 := [.int r_12, .ref xp, .int x1, .ref nd]) K (c_X7_letterOf x1 hq_13) hd_X7_letterOf t_208 t_209 t_1 t_210 ⟨(Nat.le_of_ble_eq_true rfl), (Nat.le_of_ble_eq_true rfl)⟩ ⟨rfl, rfl⟩ ⟨Nat.zero_le _, Nat.zero_le _⟩ rfl rfl (Nat.le_of_ble_eq_true rfl) dX7_lawn_49 ?_
        refine s_ck (fun ho_14 => ?_)
        refine s_cald K 1 1 rfl rfl (ok_in ho_14) rfl dX7_lawn_52 ?_
        refine s_bipush K dX7_lawn_53 kib_48 ?_
        refine s_isub K dX7_lawn_55 ?_
        refine s_ck (fun ho_15 => ?_)
        refine s_iast (w' := (wX cI cC cB cQ kc xh xp nh nd nb na kh kd kb ka th td tb ta gl ga gw ltr lrd srs bks img pag n_cnt n_wet n_stg n_dys (upd n_dep (Int32.toNatClampNeg x1) ((pag (Int32.toNatClampNeg r_12)) - 48)) n_knd n_siz n_plc n_onn n_axs k_cnt k_wet k_stg k_dys k_dep k_knd k_siz k_plc k_onn k_axs t_cnt t_wet t_stg t_dys t_dep t_knd t_siz t_plc t_onn t_axs l_gsz l_gsd l_gfw a_gfw a_gtg w_gwy w_grl w_gsz)) K 3 0 rfl rfl (ok_in ho_15) rfl rfl dX7_lawn_56 ?_
        refine s_iinc (lv' := [(1, .int (x1 + 1)), (0, .ref xh)]) K dX7_lawn_57 1 rfl (kii_1 _) (Nat.le_of_ble_eq_true rfl) rfl ?_
        refine s_goto (tgt := 30) K dX7_lawn_60 (by decide) ?_
        refine s_lv (lv' := [(0, .ref xh), (1, .int (x1 + 1))]) [1, 0] rfl ?_
        exact ih n_cnt n_stg n_dys (upd n_dep (Int32.toNatClampNeg x1) ((pag (Int32.toNatClampNeg r_12)) - 48)) (x1 + 1)
  rewrite [f_X7_lawn]
  refine s_aload_n K dX7_lawn_0 rfl 0 rfl ?_
  refine s_get K 0 rfl rfl inT7 7 (Nat.le_of_ble_eq_true rfl) t_151 rfl rfl dX7_lawn_1 ?_
  refine s_bipush K dX7_lawn_4 kib_25 ?_
  refine s_icmp_ne (tgt := 18) K dX7_lawn_6 (by decide) (fun c_1 => ?_) (fun c_1 => ?_)
  · refine s_aload_n K dX7_lawn_9 rfl 0 rfl ?_
    refine s_bind (fun q hq_3 => ?_)
    obtain ⟨r_2, rfl⟩ : ∃ z, z = q := ⟨_, rfl⟩
    refine s_callV (w' := (wX cI cC cB cQ kc xh xp nh nd nb na kh kd kb ka th td tb ta gl ga gw ltr lrd srs bks img pag n_cnt n_wet n_stg n_dys n_dep n_knd n_siz n_plc n_onn n_axs k_cnt k_wet k_stg k_dys k_dep k_knd k_siz k_plc k_onn k_axs t_cnt t_wet t_stg t_dys t_dep t_knd t_siz t_plc t_onn t_axs l_gsz l_gsd l_gfw a_gfw a_gtg w_gwy w_grl w_gsz)) (rest := []) (st1 := [.int r_2]) K (c_X7_fault xh xp nh nd nb na kh kd kb ka th td tb ta gl ga gw ltr lrd srs bks img pag n_cnt n_wet n_stg n_dys n_dep n_knd n_siz n_plc n_onn n_axs k_cnt k_wet k_stg k_dys k_dep k_knd k_siz k_plc k_onn k_axs t_cnt t_wet t_stg t_dys t_dep t_knd t_siz t_plc t_onn t_axs l_gsz l_gsd l_gfw a_gfw a_gtg w_gwy w_grl w_gsz hq_3) rfl hd_X7_fault t_203 t_193 t_194 t_1 t_195 ⟨(Nat.le_of_ble_eq_true rfl), (Nat.le_of_ble_eq_true rfl)⟩ ⟨rfl, rfl⟩ ⟨Nat.zero_le _, Nat.zero_le _⟩ (rv_o K 0 rfl rfl) [0, 1, 2, 3, 4, 5, 6, 7, 8, 9, 10, 11, 12, 13, 14, 15, 16, 17, 18, 19, 20, 21, 22, 23, 24, 25, 26, 27, 28] [] [0, 1, 2, 3, 4, 5, 6, 7, 8, 9, 10, 11, 12, 13, 14, 15, 16, 17, 18, 19, 20, 21, 22, 23, 24, 25, 26, 27, 28] rfl rfl rfl rfl (by decide) rfl rfl rfl rfl (Nat.le_of_ble_eq_true rfl) dX7_lawn_10 ?_
    refine s_bipush K dX7_lawn_13 kib_25 ?_
    refine s_icmp_eq (tgt := 21) K dX7_lawn_15 (by decide) (fun c_4 => ?_) (fun c_4 => ?_)
    · refine s_aload_n K dX7_lawn_21 rfl 0 rfl ?_
      refine s_get K 0 rfl rfl inT7 1 (Nat.le_of_ble_eq_true rfl) t_145 rfl rfl dX7_lawn_22 ?_
      refine s_bind (fun q hq_8 => ?_)
      obtain ⟨n_cnt_5, n_stg_6, n_dys_7⟩ := q
      refine s_callV (w' := (wX cI cC cB cQ kc xh xp nh nd nb na kh kd kb ka th td tb ta gl ga gw ltr lrd srs bks img pag n_cnt_5 n_wet n_stg_6 n_dys_7 n_dep n_knd n_siz n_plc n_onn n_axs k_cnt k_wet k_stg k_dys k_dep k_knd k_siz k_plc k_onn k_axs t_cnt t_wet t_stg t_dys t_dep t_knd t_siz t_plc t_onn t_axs l_gsz l_gsd l_gfw a_gfw a_gtg w_gwy w_grl w_gsz)) (rest := []) (st1 := []) K (c_X4_clear nh nd nb na n_cnt n_wet n_stg n_dys n_dep n_knd n_siz n_plc n_onn n_axs hq_8) rfl hd_X4_clear t_204 t_205 t_206 t_2 t_207 ⟨(Nat.le_of_ble_eq_true rfl), (Nat.le_of_ble_eq_true rfl)⟩ ⟨rfl, rfl⟩ ⟨Nat.zero_le _, Nat.zero_le _⟩ (rv_o K 2 rfl rfl) [2, 3, 4, 5, 6, 7, 8, 9] [0, 1, 10, 11, 12, 13, 14, 15, 16, 17, 18, 19, 20, 21, 22, 23, 24, 25, 26, 27, 28] [0, 1, 21, 22, 23, 24, 25, 26, 27, 28, 2, 3, 4, 5, 6, 7, 8, 9, 10, 11, 12, 13, 14, 15, 16, 17, 18, 19, 20] rfl rfl rfl rfl (by decide) rfl rfl rfl rfl (Nat.le_of_ble_eq_true rfl) dX7_lawn_25 ?_
      refine s_iconst K dX7_lawn_28 kic_0 ?_
      refine s_istore_n (lv' := [(1, .int 0), (0, .ref xh)]) K dX7_lawn_29 rfl (Nat.le_of_ble_eq_true rfl) rfl ?_
      refine s_lv (lv' := [(0, .ref xh), (1, .int 0)]) [1, 0] rfl ?_
      exact L30 70 n_cnt_5 n_stg_6 n_dys_7 n_dep 0
    · refine s_bipush K dX7_lawn_18 kib_m103 ?_
      exact s_iret K hret hlk rfl rfl dX7_lawn_20
  · refine s_bipush K dX7_lawn_18 kib_m103 ?_
    exact s_iret K hret hlk rfl rfl dX7_lawn_20
set_option maxHeartbeats 4000000 in
set_option maxRecDepth 100000 in
theorem c_X7_hasLawn {l : Launch} {D : va_G} {cI cC cB cQ : ClassId} {kc : Nat → Nat} {kt : Nat} (xh xp nh nd nb : Nat) (na : Nat → Nat) (kh kd kb : Nat) (ka : Nat → Nat) (th td tb : Nat) (ta : Nat → Nat) (gl ga gw : Nat) (ltr lrd srs bks img : Int32) (pag : Nat → Int32) (n_cnt n_wet n_stg n_dys : Int32) (n_dep : Nat → Int32) (n_knd : Nat → Nat) (n_siz n_plc n_onn n_axs : Nat → Int32) (k_cnt k_wet k_stg k_dys : Int32) (k_dep : Nat → Int32) (k_knd : Nat → Nat) (k_siz k_plc k_onn k_axs : Nat → Int32) (t_cnt t_wet t_stg t_dys : Int32) (t_dep : Nat → Int32) (t_knd : Nat → Nat) (t_siz t_plc t_onn t_axs : Nat → Int32) (l_gsz l_gsd l_gfw a_gfw a_gtg w_gwy w_grl w_gsz : Int32) {r : Int32} (hF : f_X7_hasLawn lrd = some r) : CT l D (tysOf cI cC cB cQ) kc kt yX7_hasLawn cX7_hasLawn 1 (some .boolean) ({ frames := 1, cells := 0, slots := 0, locals := 40 } : Room) [.ref xh] (wX cI cC cB cQ kc xh xp nh nd nb na kh kd kb ka th td tb ta gl ga gw ltr lrd srs bks img pag n_cnt n_wet n_stg n_dys n_dep n_knd n_siz n_plc n_onn n_axs k_cnt k_wet k_stg k_dys k_dep k_knd k_siz k_plc k_onn k_axs t_cnt t_wet t_stg t_dys t_dep t_knd t_siz t_plc t_onn t_axs l_gsz l_gsd l_gfw a_gfw a_gtg w_gwy w_grl w_gsz) ((fun (r : Int32) => (wX cI cC cB cQ kc xh xp nh nd nb na kh kd kb ka th td tb ta gl ga gw ltr lrd srs bks img pag n_cnt n_wet n_stg n_dys n_dep n_knd n_siz n_plc n_onn n_axs k_cnt k_wet k_stg k_dys k_dep k_knd k_siz k_plc k_onn k_axs t_cnt t_wet t_stg t_dys t_dep t_knd t_siz t_plc t_onn t_axs l_gsz l_gsd l_gfw a_gfw a_gtg w_gwy w_grl w_gsz)) r) ((fun (r : Int32) => some (.int r)) r) := by
  refine CT.of (ww := (fun (r : Int32) => (wX cI cC cB cQ kc xh xp nh nd nb na kh kd kb ka th td tb ta gl ga gw ltr lrd srs bks img pag n_cnt n_wet n_stg n_dys n_dep n_knd n_siz n_plc n_onn n_axs k_cnt k_wet k_stg k_dys k_dep k_knd k_siz k_plc k_onn k_axs t_cnt t_wet t_stg t_dys t_dep t_knd t_siz t_plc t_onn t_axs l_gsz l_gsd l_gfw a_gfw a_gtg w_gwy w_grl w_gsz))) (oo := (fun (r : Int32) => some (.int r))) hF RX7 rfl rfl (Nat.le_of_ble_eq_true rfl) ?_
  intro p e s m args below meth c A K hret hlk
  rewrite [f_X7_hasLawn]
  refine s_aload_n K dX7_hasLawn_0 rfl 0 rfl ?_
  refine s_get K 0 rfl rfl inT7 8 (Nat.le_of_ble_eq_true rfl) t_152 rfl rfl dX7_hasLawn_1 ?_
  refine s_if_le (tgt := 11) K dX7_hasLawn_4 (by decide) (fun c_1 => ?_) (fun c_1 => ?_)
  · refine s_iconst K dX7_hasLawn_11 kic_0 ?_
    exact s_zret K hret hlk rfl rfl rfl dX7_hasLawn_12
  · refine s_iconst K dX7_hasLawn_7 kic_1 ?_
    refine s_goto (tgt := 12) K dX7_hasLawn_8 (by decide) ?_
    exact s_zret K hret hlk rfl rfl rfl dX7_hasLawn_12
set_option maxHeartbeats 4000000 in
set_option maxRecDepth 100000 in
theorem c_X7_place {l : Launch} {D : va_G} {cI cC cB cQ : ClassId} {kc : Nat → Nat} {kt : Nat} (xh xp nh nd nb : Nat) (na : Nat → Nat) (kh kd kb : Nat) (ka : Nat → Nat) (th td tb : Nat) (ta : Nat → Nat) (gl ga gw : Nat) (ltr lrd srs bks img : Int32) (pag : Nat → Int32) (n_cnt n_wet n_stg n_dys : Int32) (n_dep : Nat → Int32) (n_knd : Nat → Nat) (n_siz n_plc n_onn n_axs : Nat → Int32) (k_cnt k_wet k_stg k_dys : Int32) (k_dep : Nat → Int32) (k_knd : Nat → Nat) (k_siz k_plc k_onn k_axs : Nat → Int32) (t_cnt t_wet t_stg t_dys : Int32) (t_dep : Nat → Int32) (t_knd : Nat → Nat) (t_siz t_plc t_onn t_axs : Nat → Int32) (l_gsz l_gsd l_gfw a_gfw a_gtg w_gwy w_grl w_gsz : Int32) (a1 a2 : Int32) {r : Int32} (hF : f_X7_place lrd n_cnt n_dep n_siz n_plc n_onn a1 a2 = some r) : CT l D (tysOf cI cC cB cQ) kc kt yX7_place cX7_place 3 (some .int) ({ frames := 3, cells := 0, slots := 0, locals := 165 } : Room) [.ref xh, .int a1, .int a2] (wX cI cC cB cQ kc xh xp nh nd nb na kh kd kb ka th td tb ta gl ga gw ltr lrd srs bks img pag n_cnt n_wet n_stg n_dys n_dep n_knd n_siz n_plc n_onn n_axs k_cnt k_wet k_stg k_dys k_dep k_knd k_siz k_plc k_onn k_axs t_cnt t_wet t_stg t_dys t_dep t_knd t_siz t_plc t_onn t_axs l_gsz l_gsd l_gfw a_gfw a_gtg w_gwy w_grl w_gsz) ((fun (r : Int32) => (wX cI cC cB cQ kc xh xp nh nd nb na kh kd kb ka th td tb ta gl ga gw ltr lrd srs bks img pag n_cnt n_wet n_stg n_dys n_dep n_knd n_siz n_plc n_onn n_axs k_cnt k_wet k_stg k_dys k_dep k_knd k_siz k_plc k_onn k_axs t_cnt t_wet t_stg t_dys t_dep t_knd t_siz t_plc t_onn t_axs l_gsz l_gsd l_gfw a_gfw a_gtg w_gwy w_grl w_gsz)) r) ((fun (r : Int32) => some (.int r)) r) := by
  refine CT.of (ww := (fun (r : Int32) => (wX cI cC cB cQ kc xh xp nh nd nb na kh kd kb ka th td tb ta gl ga gw ltr lrd srs bks img pag n_cnt n_wet n_stg n_dys n_dep n_knd n_siz n_plc n_onn n_axs k_cnt k_wet k_stg k_dys k_dep k_knd k_siz k_plc k_onn k_axs t_cnt t_wet t_stg t_dys t_dep t_knd t_siz t_plc t_onn t_axs l_gsz l_gsd l_gfw a_gfw a_gtg w_gwy w_grl w_gsz))) (oo := (fun (r : Int32) => some (.int r))) hF RX7 rfl rfl (Nat.le_of_ble_eq_true rfl) ?_
  intro p e s m args below meth c A K hret hlk
  rewrite [f_X7_place]
  refine s_iload_n K dX7_place_0 rfl 1 rfl ?_
  refine s_bind (fun q hq_2 => ?_)
  obtain ⟨r_1, rfl⟩ : ∃ z, z = q := ⟨_, rfl⟩
  refine s_callS0 (rest := []) (st1 := [.int r_1]) K (c_X7_isPlace a1 hq_2) hd_X7_isPlace t_219 t_220 t_1 t_221 ⟨(Nat.le_of_ble_eq_true rfl), (Nat.le_of_ble_eq_true rfl)⟩ ⟨rfl, rfl⟩ ⟨Nat.zero_le _, Nat.zero_le _⟩ rfl rfl (Nat.le_of_ble_eq_true rfl) dX7_place_1 ?_
  refine s_if_ne (tgt := 10) K dX7_place_4 (by decide) (fun c_3 => ?_) (fun c_3 => ?_)
  · refine s_bipush K dX7_place_7 kib_m101 ?_
    exact s_iret K hret hlk rfl rfl dX7_place_9
  · refine s_iload_n K dX7_place_10 rfl 2 rfl ?_
    refine s_iconst K dX7_place_11 kic_0 ?_
    refine s_iconst K dX7_place_12 kic_2 ?_
    refine s_bind (fun q hq_5 => ?_)
    obtain ⟨r_4, rfl⟩ : ∃ z, z = q := ⟨_, rfl⟩
    refine s_callS0 (rest := []) (st1 := [.int r_4]) K (c_X7_isOutside a2 0 2 hq_5) hd_X7_isOutside t_185 t_186 t_1 t_187 ⟨(Nat.le_of_ble_eq_true rfl), (Nat.le_of_ble_eq_true rfl)⟩ ⟨rfl, rfl⟩ ⟨Nat.zero_le _, Nat.zero_le _⟩ rfl rfl (Nat.le_of_ble_eq_true rfl) dX7_place_13 ?_
    refine s_if_eq (tgt := 22) K dX7_place_16 (by decide) (fun c_6 => ?_) (fun c_6 => ?_)
    · refine s_aload_n K dX7_place_22 rfl 0 rfl ?_
      refine s_bind (fun q hq_8 => ?_)
      obtain ⟨r_7, rfl⟩ : ∃ z, z = q := ⟨_, rfl⟩
      refine s_callV (w' := (wX cI cC cB cQ kc xh xp nh nd nb na kh kd kb ka th td tb ta gl ga gw ltr lrd srs bks img pag n_cnt n_wet n_stg n_dys n_dep n_knd n_siz n_plc n_onn n_axs k_cnt k_wet k_stg k_dys k_dep k_knd k_siz k_plc k_onn k_axs t_cnt t_wet t_stg t_dys t_dep t_knd t_siz t_plc t_onn t_axs l_gsz l_gsd l_gfw a_gfw a_gtg w_gwy w_grl w_gsz)) (rest := []) (st1 := [.int r_7]) K (c_X7_hasLawn xh xp nh nd nb na kh kd kb ka th td tb ta gl ga gw ltr lrd srs bks img pag n_cnt n_wet n_stg n_dys n_dep n_knd n_siz n_plc n_onn n_axs k_cnt k_wet k_stg k_dys k_dep k_knd k_siz k_plc k_onn k_axs t_cnt t_wet t_stg t_dys t_dep t_knd t_siz t_plc t_onn t_axs l_gsz l_gsd l_gfw a_gfw a_gtg w_gwy w_grl w_gsz hq_8) rfl hd_X7_hasLawn t_222 t_224 ts_0 t_1 t_225 ⟨(Nat.le_of_ble_eq_true rfl), (Nat.le_of_ble_eq_true rfl)⟩ ⟨rfl, rfl⟩ ⟨Nat.zero_le _, Nat.zero_le _⟩ (rv_o K 0 rfl rfl) [0, 1, 2, 3, 4, 5, 6, 7, 8, 9, 10, 11, 12, 13, 14, 15, 16, 17, 18, 19, 20, 21, 22, 23, 24, 25, 26, 27, 28] [] [0, 1, 2, 3, 4, 5, 6, 7, 8, 9, 10, 11, 12, 13, 14, 15, 16, 17, 18, 19, 20, 21, 22, 23, 24, 25, 26, 27, 28] rfl rfl rfl rfl (by decide) rfl rfl rfl rfl (Nat.le_of_ble_eq_true rfl) dX7_place_23 ?_
      refine s_if_ne (tgt := 32) K dX7_place_26 (by decide) (fun c_9 => ?_) (fun c_9 => ?_)
      · refine s_bipush K dX7_place_29 kib_m103 ?_
        exact s_iret K hret hlk rfl rfl dX7_place_31
      · refine s_iload_n K dX7_place_32 rfl 2 rfl ?_
        refine s_if_ne (tgt := 46) K dX7_place_33 (by decide) (fun c_10 => ?_) (fun c_10 => ?_)
        · refine s_aload_n K dX7_place_36 rfl 0 rfl ?_
          refine s_get K 0 rfl rfl inT7 1 (Nat.le_of_ble_eq_true rfl) t_145 rfl rfl dX7_place_37 ?_
          refine s_get K 2 rfl rfl inT4 0 (Nat.le_of_ble_eq_true rfl) t_68 rfl rfl dX7_place_40 ?_
          refine s_iload_n K dX7_place_43 rfl 1 rfl ?_
          refine s_ck (fun ho_11 => ?_)
          refine s_iald K 3 0 rfl rfl (ok_in ho_11) rfl dX7_place_44 ?_
          exact s_iret K hret hlk rfl rfl dX7_place_45
        · refine s_iload_n K dX7_place_46 rfl 2 rfl ?_
          refine s_iconst K dX7_place_47 kic_1 ?_
          refine s_icmp_ne (tgt := 62) K dX7_place_48 (by decide) (fun c_12 => ?_) (fun c_12 => ?_)
          · refine s_aload_n K dX7_place_51 rfl 0 rfl ?_
            refine s_get K 0 rfl rfl inT7 1 (Nat.le_of_ble_eq_true rfl) t_145 rfl rfl dX7_place_52 ?_
            refine s_iload_n K dX7_place_55 rfl 1 rfl ?_
            refine s_bind (fun q hq_14 => ?_)
            obtain ⟨r_13, rfl⟩ : ∃ z, z = q := ⟨_, rfl⟩
            refine s_callV (w' := (wX cI cC cB cQ kc xh xp nh nd nb na kh kd kb ka th td tb ta gl ga gw ltr lrd srs bks img pag n_cnt n_wet n_stg n_dys n_dep n_knd n_siz n_plc n_onn n_axs k_cnt k_wet k_stg k_dys k_dep k_knd k_siz k_plc k_onn k_axs t_cnt t_wet t_stg t_dys t_dep t_knd t_siz t_plc t_onn t_axs l_gsz l_gsd l_gfw a_gfw a_gtg w_gwy w_grl w_gsz)) (rest := []) (st1 := [.int r_13]) K (c_X4_lowestAt nh nd nb na n_cnt n_wet n_stg n_dys n_dep n_knd n_siz n_plc n_onn n_axs a1 hq_14) rfl hd_X4_lowestAt t_226 t_227 t_228 t_2 t_229 ⟨(Nat.le_of_ble_eq_true rfl), (Nat.le_of_ble_eq_true rfl)⟩ ⟨rfl, rfl⟩ ⟨Nat.zero_le _, Nat.zero_le _⟩ (rv_o K 2 rfl rfl) [2, 3, 4, 5, 6, 7, 8, 9] [0, 1, 10, 11, 12, 13, 14, 15, 16, 17, 18, 19, 20, 21, 22, 23, 24, 25, 26, 27, 28] [0, 1, 21, 22, 23, 24, 25, 26, 27, 28, 2, 3, 4, 5, 6, 7, 8, 9, 10, 11, 12, 13, 14, 15, 16, 17, 18, 19, 20] rfl rfl rfl rfl (by decide) rfl rfl rfl rfl (Nat.le_of_ble_eq_true rfl) dX7_place_56 ?_
            refine s_goto (tgt := 70) K dX7_place_59 (by decide) ?_
            exact s_iret K hret hlk rfl rfl dX7_place_70
          · refine s_aload_n K dX7_place_62 rfl 0 rfl ?_
            refine s_get K 0 rfl rfl inT7 1 (Nat.le_of_ble_eq_true rfl) t_145 rfl rfl dX7_place_63 ?_
            refine s_iload_n K dX7_place_66 rfl 1 rfl ?_
            refine s_bind (fun q hq_16 => ?_)
            obtain ⟨r_15, rfl⟩ : ∃ z, z = q := ⟨_, rfl⟩
            refine s_callV (w' := (wX cI cC cB cQ kc xh xp nh nd nb na kh kd kb ka th td tb ta gl ga gw ltr lrd srs bks img pag n_cnt n_wet n_stg n_dys n_dep n_knd n_siz n_plc n_onn n_axs k_cnt k_wet k_stg k_dys k_dep k_knd k_siz k_plc k_onn k_axs t_cnt t_wet t_stg t_dys t_dep t_knd t_siz t_plc t_onn t_axs l_gsz l_gsd l_gfw a_gfw a_gtg w_gwy w_grl w_gsz)) (rest := []) (st1 := [.int r_15]) K (c_X4_heightAt nh nd nb na n_cnt n_wet n_stg n_dys n_dep n_knd n_siz n_plc n_onn n_axs a1 hq_16) rfl hd_X4_heightAt t_230 t_231 t_232 t_2 t_233 ⟨(Nat.le_of_ble_eq_true rfl), (Nat.le_of_ble_eq_true rfl)⟩ ⟨rfl, rfl⟩ ⟨Nat.zero_le _, Nat.zero_le _⟩ (rv_o K 2 rfl rfl) [2, 3, 4, 5, 6, 7, 8, 9] [0, 1, 10, 11, 12, 13, 14, 15, 16, 17, 18, 19, 20, 21, 22, 23, 24, 25, 26, 27, 28] [0, 1, 21, 22, 23, 24, 25, 26, 27, 28, 2, 3, 4, 5, 6, 7, 8, 9, 10, 11, 12, 13, 14, 15, 16, 17, 18, 19, 20] rfl rfl rfl rfl (by decide) rfl rfl rfl rfl (Nat.le_of_ble_eq_true rfl) dX7_place_67 ?_
            exact s_iret K hret hlk rfl rfl dX7_place_70
    · refine s_bipush K dX7_place_19 kib_m102 ?_
      exact s_iret K hret hlk rfl rfl dX7_place_21
set_option maxHeartbeats 4000000 in
set_option maxRecDepth 100000 in
theorem c_X7_strength {l : Launch} {D : va_G} {cI cC cB cQ : ClassId} {kc : Nat → Nat} {kt : Nat} (xh xp nh nd nb : Nat) (na : Nat → Nat) (kh kd kb : Nat) (ka : Nat → Nat) (th td tb : Nat) (ta : Nat → Nat) (gl ga gw : Nat) (ltr lrd srs bks img : Int32) (pag : Nat → Int32) (n_cnt n_wet n_stg n_dys : Int32) (n_dep : Nat → Int32) (n_knd : Nat → Nat) (n_siz n_plc n_onn n_axs : Nat → Int32) (k_cnt k_wet k_stg k_dys : Int32) (k_dep : Nat → Int32) (k_knd : Nat → Nat) (k_siz k_plc k_onn k_axs : Nat → Int32) (t_cnt t_wet t_stg t_dys : Int32) (t_dep : Nat → Int32) (t_knd : Nat → Nat) (t_siz t_plc t_onn t_axs : Nat → Int32) (l_gsz l_gsd l_gfw a_gfw a_gtg w_gwy w_grl w_gsz : Int32) (a1 : Int32) {r : Int32 × Int32} (hF : f_X7_strength lrd n_stg a1 = some r) : CT l D (tysOf cI cC cB cQ) kc kt yX7_strength cX7_strength 3 (some .int) ({ frames := 2, cells := 0, slots := 0, locals := 102 } : Room) [.ref xh, .int a1] (wX cI cC cB cQ kc xh xp nh nd nb na kh kd kb ka th td tb ta gl ga gw ltr lrd srs bks img pag n_cnt n_wet n_stg n_dys n_dep n_knd n_siz n_plc n_onn n_axs k_cnt k_wet k_stg k_dys k_dep k_knd k_siz k_plc k_onn k_axs t_cnt t_wet t_stg t_dys t_dep t_knd t_siz t_plc t_onn t_axs l_gsz l_gsd l_gfw a_gfw a_gtg w_gwy w_grl w_gsz) ((fun (r : Int32 × Int32) => (wX cI cC cB cQ kc xh xp nh nd nb na kh kd kb ka th td tb ta gl ga gw ltr lrd srs bks img pag n_cnt n_wet (r.2) n_dys n_dep n_knd n_siz n_plc n_onn n_axs k_cnt k_wet k_stg k_dys k_dep k_knd k_siz k_plc k_onn k_axs t_cnt t_wet t_stg t_dys t_dep t_knd t_siz t_plc t_onn t_axs l_gsz l_gsd l_gfw a_gfw a_gtg w_gwy w_grl w_gsz)) r) ((fun (r : Int32 × Int32) => some (.int (r.1))) r) := by
  refine CT.of (ww := (fun (r : Int32 × Int32) => (wX cI cC cB cQ kc xh xp nh nd nb na kh kd kb ka th td tb ta gl ga gw ltr lrd srs bks img pag n_cnt n_wet (r.2) n_dys n_dep n_knd n_siz n_plc n_onn n_axs k_cnt k_wet k_stg k_dys k_dep k_knd k_siz k_plc k_onn k_axs t_cnt t_wet t_stg t_dys t_dep t_knd t_siz t_plc t_onn t_axs l_gsz l_gsd l_gfw a_gfw a_gtg w_gwy w_grl w_gsz))) (oo := (fun (r : Int32 × Int32) => some (.int (r.1)))) hF RX7 rfl rfl (Nat.le_of_ble_eq_true rfl) ?_
  intro p e s m args below meth c A K hret hlk
  rewrite [f_X7_strength]
  refine s_iload_n K dX7_strength_0 rfl 1 rfl ?_
  refine s_iconst K dX7_strength_1 kic_1 ?_
  refine s_bipush K dX7_strength_2 kib_99 ?_
  refine s_bind (fun q hq_2 => ?_)
  obtain ⟨r_1, rfl⟩ : ∃ z, z = q := ⟨_, rfl⟩
  refine s_callS0 (rest := []) (st1 := [.int r_1]) K (c_X7_isOutside a1 1 99 hq_2) hd_X7_isOutside t_185 t_186 t_1 t_187 ⟨(Nat.le_of_ble_eq_true rfl), (Nat.le_of_ble_eq_true rfl)⟩ ⟨rfl, rfl⟩ ⟨Nat.zero_le _, Nat.zero_le _⟩ rfl rfl (Nat.le_of_ble_eq_true rfl) dX7_strength_4 ?_
  refine s_if_eq (tgt := 13) K dX7_strength_7 (by decide) (fun c_3 => ?_) (fun c_3 => ?_)
  · refine s_aload_n K dX7_strength_13 rfl 0 rfl ?_
    refine s_bind (fun q hq_5 => ?_)
    obtain ⟨r_4, rfl⟩ : ∃ z, z = q := ⟨_, rfl⟩
    refine s_callV (w' := (wX cI cC cB cQ kc xh xp nh nd nb na kh kd kb ka th td tb ta gl ga gw ltr lrd srs bks img pag n_cnt n_wet n_stg n_dys n_dep n_knd n_siz n_plc n_onn n_axs k_cnt k_wet k_stg k_dys k_dep k_knd k_siz k_plc k_onn k_axs t_cnt t_wet t_stg t_dys t_dep t_knd t_siz t_plc t_onn t_axs l_gsz l_gsd l_gfw a_gfw a_gtg w_gwy w_grl w_gsz)) (rest := []) (st1 := [.int r_4]) K (c_X7_hasLawn xh xp nh nd nb na kh kd kb ka th td tb ta gl ga gw ltr lrd srs bks img pag n_cnt n_wet n_stg n_dys n_dep n_knd n_siz n_plc n_onn n_axs k_cnt k_wet k_stg k_dys k_dep k_knd k_siz k_plc k_onn k_axs t_cnt t_wet t_stg t_dys t_dep t_knd t_siz t_plc t_onn t_axs l_gsz l_gsd l_gfw a_gfw a_gtg w_gwy w_grl w_gsz hq_5) rfl hd_X7_hasLawn t_222 t_224 ts_0 t_1 t_225 ⟨(Nat.le_of_ble_eq_true rfl), (Nat.le_of_ble_eq_true rfl)⟩ ⟨rfl, rfl⟩ ⟨Nat.zero_le _, Nat.zero_le _⟩ (rv_o K 0 rfl rfl) [0, 1, 2, 3, 4, 5, 6, 7, 8, 9, 10, 11, 12, 13, 14, 15, 16, 17, 18, 19, 20, 21, 22, 23, 24, 25, 26, 27, 28] [] [0, 1, 2, 3, 4, 5, 6, 7, 8, 9, 10, 11, 12, 13, 14, 15, 16, 17, 18, 19, 20, 21, 22, 23, 24, 25, 26, 27, 28] rfl rfl rfl rfl (by decide) rfl rfl rfl rfl (Nat.le_of_ble_eq_true rfl) dX7_strength_14 ?_
    refine s_if_ne (tgt := 23) K dX7_strength_17 (by decide) (fun c_6 => ?_) (fun c_6 => ?_)
    · refine s_bipush K dX7_strength_20 kib_m103 ?_
      exact s_iret K hret hlk rfl rfl dX7_strength_22
    · refine s_aload_n K dX7_strength_23 rfl 0 rfl ?_
      refine s_get K 0 rfl rfl inT7 1 (Nat.le_of_ble_eq_true rfl) t_145 rfl rfl dX7_strength_24 ?_
      refine s_get K 2 rfl rfl inT4 4 (Nat.le_of_ble_eq_true rfl) t_76 rfl rfl dX7_strength_27 ?_
      refine s_istore_n (lv' := [(2, .int n_stg), (0, .ref xh), (1, .int a1)]) K dX7_strength_30 rfl (Nat.le_of_ble_eq_true rfl) rfl ?_
      refine s_aload_n K dX7_strength_31 rfl 1 rfl ?_
      refine s_get K 0 rfl rfl inT7 1 (Nat.le_of_ble_eq_true rfl) t_145 rfl rfl dX7_strength_32 ?_
      refine s_iload_n K dX7_strength_35 rfl 2 rfl ?_
      refine s_put (w' := (wX cI cC cB cQ kc xh xp nh nd nb na kh kd kb ka th td tb ta gl ga gw ltr lrd srs bks img pag n_cnt n_wet a1 n_dys n_dep n_knd n_siz n_plc n_onn n_axs k_cnt k_wet k_stg k_dys k_dep k_knd k_siz k_plc k_onn k_axs t_cnt t_wet t_stg t_dys t_dep t_knd t_siz t_plc t_onn t_axs l_gsz l_gsd l_gfw a_gfw a_gtg w_gwy w_grl w_gsz)) K 2 rfl rfl inT4 tyX4_ok nmX4 4 (Nat.le_of_ble_eq_true rfl) t_76 rfl rfl rfl rfl (Nat.le_of_ble_eq_true rfl) rfl dX7_strength_36 ?_
      refine s_iload_n K dX7_strength_39 rfl 0 rfl ?_
      exact s_iret K hret hlk rfl rfl dX7_strength_40
  · refine s_bipush K dX7_strength_10 kib_m102 ?_
    exact s_iret K hret hlk rfl rfl dX7_strength_12
set_option maxHeartbeats 4000000 in
set_option maxRecDepth 100000 in
theorem c_X7_ball {l : Launch} {D : va_G} {cI cC cB cQ : ClassId} {kc : Nat → Nat} {kt : Nat} (xh xp nh nd nb : Nat) (na : Nat → Nat) (kh kd kb : Nat) (ka : Nat → Nat) (th td tb : Nat) (ta : Nat → Nat) (gl ga gw : Nat) (ltr lrd srs bks img : Int32) (pag : Nat → Int32) (n_cnt n_wet n_stg n_dys : Int32) (n_dep : Nat → Int32) (n_knd : Nat → Nat) (n_siz n_plc n_onn n_axs : Nat → Int32) (k_cnt k_wet k_stg k_dys : Int32) (k_dep : Nat → Int32) (k_knd : Nat → Nat) (k_siz k_plc k_onn k_axs : Nat → Int32) (t_cnt t_wet t_stg t_dys : Int32) (t_dep : Nat → Int32) (t_knd : Nat → Nat) (t_siz t_plc t_onn t_axs : Nat → Int32) (l_gsz l_gsd l_gfw a_gfw a_gtg w_gwy w_grl w_gsz : Int32) (a1 a2 : Int32) {r : Int32 × Int32 × (Nat → Nat) × (Nat → Int32) × (Nat → Int32) × (Nat → Int32) × (Nat → Int32)} (hF : f_X7_ball lrd n_cnt n_knd n_siz n_plc n_onn n_axs a1 a2 = some r) : CT l D (tysOf cI cC cB cQ) kc kt yX7_ball cX7_ball 3 (some .int) ({ frames := 3, cells := 0, slots := 0, locals := 164 } : Room) [.ref xh, .int a1, .int a2] (wX cI cC cB cQ kc xh xp nh nd nb na kh kd kb ka th td tb ta gl ga gw ltr lrd srs bks img pag n_cnt n_wet n_stg n_dys n_dep n_knd n_siz n_plc n_onn n_axs k_cnt k_wet k_stg k_dys k_dep k_knd k_siz k_plc k_onn k_axs t_cnt t_wet t_stg t_dys t_dep t_knd t_siz t_plc t_onn t_axs l_gsz l_gsd l_gfw a_gfw a_gtg w_gwy w_grl w_gsz) ((fun (r : Int32 × Int32 × (Nat → Nat) × (Nat → Int32) × (Nat → Int32) × (Nat → Int32) × (Nat → Int32)) => (wX cI cC cB cQ kc xh xp nh nd nb na kh kd kb ka th td tb ta gl ga gw ltr lrd srs bks img pag (r.2.1) n_wet n_stg n_dys n_dep (r.2.2.1) (r.2.2.2.1) (r.2.2.2.2.1) (r.2.2.2.2.2.1) (r.2.2.2.2.2.2) k_cnt k_wet k_stg k_dys k_dep k_knd k_siz k_plc k_onn k_axs t_cnt t_wet t_stg t_dys t_dep t_knd t_siz t_plc t_onn t_axs l_gsz l_gsd l_gfw a_gfw a_gtg w_gwy w_grl w_gsz)) r) ((fun (r : Int32 × Int32 × (Nat → Nat) × (Nat → Int32) × (Nat → Int32) × (Nat → Int32) × (Nat → Int32)) => some (.int (r.1))) r) := by
  refine CT.of (ww := (fun (r : Int32 × Int32 × (Nat → Nat) × (Nat → Int32) × (Nat → Int32) × (Nat → Int32) × (Nat → Int32)) => (wX cI cC cB cQ kc xh xp nh nd nb na kh kd kb ka th td tb ta gl ga gw ltr lrd srs bks img pag (r.2.1) n_wet n_stg n_dys n_dep (r.2.2.1) (r.2.2.2.1) (r.2.2.2.2.1) (r.2.2.2.2.2.1) (r.2.2.2.2.2.2) k_cnt k_wet k_stg k_dys k_dep k_knd k_siz k_plc k_onn k_axs t_cnt t_wet t_stg t_dys t_dep t_knd t_siz t_plc t_onn t_axs l_gsz l_gsd l_gfw a_gfw a_gtg w_gwy w_grl w_gsz))) (oo := (fun (r : Int32 × Int32 × (Nat → Nat) × (Nat → Int32) × (Nat → Int32) × (Nat → Int32) × (Nat → Int32)) => some (.int (r.1)))) hF RX7 rfl rfl (Nat.le_of_ble_eq_true rfl) ?_
  intro p e s m args below meth c A K hret hlk
  rewrite [f_X7_ball]
  refine s_iload_n K dX7_ball_0 rfl 2 rfl ?_
  refine s_bind (fun q hq_2 => ?_)
  obtain ⟨r_1, rfl⟩ : ∃ z, z = q := ⟨_, rfl⟩
  refine s_callS0 (rest := []) (st1 := [.int r_1]) K (c_X7_isPlace a2 hq_2) hd_X7_isPlace t_219 t_220 t_1 t_221 ⟨(Nat.le_of_ble_eq_true rfl), (Nat.le_of_ble_eq_true rfl)⟩ ⟨rfl, rfl⟩ ⟨Nat.zero_le _, Nat.zero_le _⟩ rfl rfl (Nat.le_of_ble_eq_true rfl) dX7_ball_1 ?_
  refine s_if_ne (tgt := 10) K dX7_ball_4 (by decide) (fun c_3 => ?_) (fun c_3 => ?_)
  · refine s_bipush K dX7_ball_7 kib_m101 ?_
    exact s_iret K hret hlk rfl rfl dX7_ball_9
  · refine s_iload_n K dX7_ball_10 rfl 1 rfl ?_
    refine s_bind (fun q hq_5 => ?_)
    obtain ⟨r_4, rfl⟩ : ∃ z, z = q := ⟨_, rfl⟩
    refine s_callS0 (rest := []) (st1 := [.int r_4]) K (c_X7_isKind a1 hq_5) hd_X7_isKind t_245 t_246 t_1 t_247 ⟨(Nat.le_of_ble_eq_true rfl), (Nat.le_of_ble_eq_true rfl)⟩ ⟨rfl, rfl⟩ ⟨Nat.zero_le _, Nat.zero_le _⟩ rfl rfl (Nat.le_of_ble_eq_true rfl) dX7_ball_11 ?_
    refine s_if_ne (tgt := 20) K dX7_ball_14 (by decide) (fun c_6 => ?_) (fun c_6 => ?_)
    · refine s_bipush K dX7_ball_17 kib_m102 ?_
      exact s_iret K hret hlk rfl rfl dX7_ball_19
    · refine s_aload_n K dX7_ball_20 rfl 0 rfl ?_
      refine s_bind (fun q hq_8 => ?_)
      obtain ⟨r_7, rfl⟩ : ∃ z, z = q := ⟨_, rfl⟩
      refine s_callV (w' := (wX cI cC cB cQ kc xh xp nh nd nb na kh kd kb ka th td tb ta gl ga gw ltr lrd srs bks img pag n_cnt n_wet n_stg n_dys n_dep n_knd n_siz n_plc n_onn n_axs k_cnt k_wet k_stg k_dys k_dep k_knd k_siz k_plc k_onn k_axs t_cnt t_wet t_stg t_dys t_dep t_knd t_siz t_plc t_onn t_axs l_gsz l_gsd l_gfw a_gfw a_gtg w_gwy w_grl w_gsz)) (rest := []) (st1 := [.int r_7]) K (c_X7_hasLawn xh xp nh nd nb na kh kd kb ka th td tb ta gl ga gw ltr lrd srs bks img pag n_cnt n_wet n_stg n_dys n_dep n_knd n_siz n_plc n_onn n_axs k_cnt k_wet k_stg k_dys k_dep k_knd k_siz k_plc k_onn k_axs t_cnt t_wet t_stg t_dys t_dep t_knd t_siz t_plc t_onn t_axs l_gsz l_gsd l_gfw a_gfw a_gtg w_gwy w_grl w_gsz hq_8) rfl hd_X7_hasLawn t_222 t_224 ts_0 t_1 t_225 ⟨(Nat.le_of_ble_eq_true rfl), (Nat.le_of_ble_eq_true rfl)⟩ ⟨rfl, rfl⟩ ⟨Nat.zero_le _, Nat.zero_le _⟩ (rv_o K 0 rfl rfl) [0, 1, 2, 3, 4, 5, 6, 7, 8, 9, 10, 11, 12, 13, 14, 15, 16, 17, 18, 19, 20, 21, 22, 23, 24, 25, 26, 27, 28] [] [0, 1, 2, 3, 4, 5, 6, 7, 8, 9, 10, 11, 12, 13, 14, 15, 16, 17, 18, 19, 20, 21, 22, 23, 24, 25, 26, 27, 28] rfl rfl rfl rfl (by decide) rfl rfl rfl rfl (Nat.le_of_ble_eq_true rfl) dX7_ball_21 ?_
      refine s_if_eq (tgt := 38) K dX7_ball_24 (by decide) (fun c_9 => ?_) (fun c_9 => ?_)
      · refine s_bipush K dX7_ball_38 kib_m103 ?_
        exact s_iret K hret hlk rfl rfl dX7_ball_40
      · refine s_aload_n K dX7_ball_27 rfl 0 rfl ?_
        refine s_get K 0 rfl rfl inT7 1 (Nat.le_of_ble_eq_true rfl) t_145 rfl rfl dX7_ball_28 ?_
        refine s_iload_n K dX7_ball_31 rfl 2 rfl ?_
        refine s_bind (fun q hq_11 => ?_)
        obtain ⟨r_10, rfl⟩ : ∃ z, z = q := ⟨_, rfl⟩
        refine s_callV (w' := (wX cI cC cB cQ kc xh xp nh nd nb na kh kd kb ka th td tb ta gl ga gw ltr lrd srs bks img pag n_cnt n_wet n_stg n_dys n_dep n_knd n_siz n_plc n_onn n_axs k_cnt k_wet k_stg k_dys k_dep k_knd k_siz k_plc k_onn k_axs t_cnt t_wet t_stg t_dys t_dep t_knd t_siz t_plc t_onn t_axs l_gsz l_gsd l_gfw a_gfw a_gtg w_gwy w_grl w_gsz)) (rest := []) (st1 := [.int r_10]) K (c_X4_isFree nh nd nb na n_cnt n_wet n_stg n_dys n_dep n_knd n_siz n_plc n_onn n_axs a2 hq_11) rfl hd_X4_isFree t_250 t_251 t_252 t_2 t_253 ⟨(Nat.le_of_ble_eq_true rfl), (Nat.le_of_ble_eq_true rfl)⟩ ⟨rfl, rfl⟩ ⟨Nat.zero_le _, Nat.zero_le _⟩ (rv_o K 2 rfl rfl) [2, 3, 4, 5, 6, 7, 8, 9] [0, 1, 10, 11, 12, 13, 14, 15, 16, 17, 18, 19, 20, 21, 22, 23, 24, 25, 26, 27, 28] [0, 1, 21, 22, 23, 24, 25, 26, 27, 28, 2, 3, 4, 5, 6, 7, 8, 9, 10, 11, 12, 13, 14, 15, 16, 17, 18, 19, 20] rfl rfl rfl rfl (by decide) rfl rfl rfl rfl (Nat.le_of_ble_eq_true rfl) dX7_ball_32 ?_
        refine s_if_ne (tgt := 41) K dX7_ball_35 (by decide) (fun c_12 => ?_) (fun c_12 => ?_)
        · refine s_bipush K dX7_ball_38 kib_m103 ?_
          exact s_iret K hret hlk rfl rfl dX7_ball_40
        · refine s_aload_n K dX7_ball_41 rfl 0 rfl ?_
          refine s_get K 0 rfl rfl inT7 1 (Nat.le_of_ble_eq_true rfl) t_145 rfl rfl dX7_ball_42 ?_
          refine s_get K 2 rfl rfl inT4 2 (Nat.le_of_ble_eq_true rfl) t_72 rfl rfl dX7_ball_45 ?_
          refine s_iconst K dX7_ball_48 kic_4 ?_
          refine s_icmp_lt (tgt := 55) K dX7_ball_49 (by decide) (fun c_13 => ?_) (fun c_13 => ?_)
          · refine s_aload_n K dX7_ball_55 rfl 0 rfl ?_
            refine s_get K 0 rfl rfl inT7 1 (Nat.le_of_ble_eq_true rfl) t_145 rfl rfl dX7_ball_56 ?_
            refine s_get K 2 rfl rfl inT4 1 (Nat.le_of_ble_eq_true rfl) t_70 rfl rfl dX7_ball_59 ?_
            refine s_aload_n K dX7_ball_62 rfl 0 rfl ?_
            refine s_get K 0 rfl rfl inT7 1 (Nat.le_of_ble_eq_true rfl) t_145 rfl rfl dX7_ball_63 ?_
            refine s_get K 2 rfl rfl inT4 2 (Nat.le_of_ble_eq_true rfl) t_72 rfl rfl dX7_ball_66 ?_
            refine s_ck (fun ho_14 => ?_)
            refine s_aldb K 4 3 rfl rfl (ok_in ho_14) rfl dX7_ball_69 ?_
            refine s_getsT K t_248 dX7_ball_70 ?_
            refine s_iload_n K dX7_ball_73 rfl 1 rfl ?_
            refine s_ck (fun ho_15 => ?_)
            refine s_aldT K (ok_in ho_15) dX7_ball_74 ?_
            refine s_iload_n K dX7_ball_75 rfl 2 rfl ?_
            refine s_bind (fun q hq_21 => ?_)
            obtain ⟨n_knd_16, n_siz_17, n_plc_18, n_onn_19, n_axs_20⟩ := q
            refine s_callV (w' := (wX cI cC cB cQ kc xh xp nh nd nb na kh kd kb ka th td tb ta gl ga gw ltr lrd srs bks img pag n_cnt n_wet n_stg n_dys n_dep n_knd_16 n_siz_17 n_plc_18 n_onn_19 n_axs_20 k_cnt k_wet k_stg k_dys k_dep k_knd k_siz k_plc k_onn k_axs t_cnt t_wet t_stg t_dys t_dep t_knd t_siz t_plc t_onn t_axs l_gsz l_gsd l_gfw a_gfw a_gtg w_gwy w_grl w_gsz)) (rest := []) (st1 := []) K (c_X1_begin na n_knd n_siz n_plc n_onn n_axs a2 (Int32.toNatClampNeg n_cnt) (Int32.toNatClampNeg a1) (vp_lt (ok_in ho_14)) (vp_lt (ok_in ho_15)) hq_21) rfl hd_X1_begin t_258 t_259 t_260 t_3 t_261 ⟨(Nat.le_of_ble_eq_true rfl), (Nat.le_of_ble_eq_true rfl)⟩ ⟨rfl, rfl⟩ ⟨Nat.zero_le _, Nat.zero_le _⟩ (rv_o K (5 + (Int32.toNatClampNeg n_cnt)) (gX_5 (vp_lt (ok_in ho_14))) rfl) [5, 6, 7, 8, 9] [0, 1, 2, 3, 4, 10, 11, 12, 13, 14, 15, 16, 17, 18, 19, 20, 21, 22, 23, 24, 25, 26, 27, 28] [0, 1, 2, 3, 4, 24, 25, 26, 27, 28, 5, 6, 7, 8, 9, 10, 11, 12, 13, 14, 15, 16, 17, 18, 19, 20, 21, 22, 23] rfl rfl rfl rfl (by decide) rfl rfl rfl rfl (Nat.le_of_ble_eq_true rfl) dX7_ball_76 ?_
            refine s_aload_n K dX7_ball_79 rfl 0 rfl ?_
            refine s_get K 0 rfl rfl inT7 1 (Nat.le_of_ble_eq_true rfl) t_145 rfl rfl dX7_ball_80 ?_
            refine s_dup K dX7_ball_83 rfl ?_
            refine s_get K 2 rfl rfl inT4 2 (Nat.le_of_ble_eq_true rfl) t_72 rfl rfl dX7_ball_84 ?_
            refine s_iconst K dX7_ball_87 kic_1 ?_
            refine s_iadd K dX7_ball_88 ?_
            refine s_put (w' := (wX cI cC cB cQ kc xh xp nh nd nb na kh kd kb ka th td tb ta gl ga gw ltr lrd srs bks img pag (n_cnt + 1) n_wet n_stg n_dys n_dep n_knd_16 n_siz_17 n_plc_18 n_onn_19 n_axs_20 k_cnt k_wet k_stg k_dys k_dep k_knd k_siz k_plc k_onn k_axs t_cnt t_wet t_stg t_dys t_dep t_knd t_siz t_plc t_onn t_axs l_gsz l_gsd l_gfw a_gfw a_gtg w_gwy w_grl w_gsz)) K 2 rfl rfl inT4 tyX4_ok nmX4 2 (Nat.le_of_ble_eq_true rfl) t_72 rfl rfl rfl rfl (Nat.le_of_ble_eq_true rfl) rfl dX7_ball_89 ?_
            refine s_aload_n K dX7_ball_92 rfl 0 rfl ?_
            refine s_get K 0 rfl rfl inT7 1 (Nat.le_of_ble_eq_true rfl) t_145 rfl rfl dX7_ball_93 ?_
            refine s_get K 2 rfl rfl inT4 2 (Nat.le_of_ble_eq_true rfl) t_72 rfl rfl dX7_ball_96 ?_
            refine s_iconst K dX7_ball_99 kic_1 ?_
            refine s_isub K dX7_ball_100 ?_
            exact s_iret K hret hlk rfl rfl dX7_ball_101
          · refine s_bipush K dX7_ball_52 kib_m104 ?_
            exact s_iret K hret hlk rfl rfl dX7_ball_54
set_option maxHeartbeats 4000000 in
set_option maxRecDepth 100000 in
theorem c_X7_isBall {l : Launch} {D : va_G} {cI cC cB cQ : ClassId} {kc : Nat → Nat} {kt : Nat} (xh xp nh nd nb : Nat) (na : Nat → Nat) (kh kd kb : Nat) (ka : Nat → Nat) (th td tb : Nat) (ta : Nat → Nat) (gl ga gw : Nat) (ltr lrd srs bks img : Int32) (pag : Nat → Int32) (n_cnt n_wet n_stg n_dys : Int32) (n_dep : Nat → Int32) (n_knd : Nat → Nat) (n_siz n_plc n_onn n_axs : Nat → Int32) (k_cnt k_wet k_stg k_dys : Int32) (k_dep : Nat → Int32) (k_knd : Nat → Nat) (k_siz k_plc k_onn k_axs : Nat → Int32) (t_cnt t_wet t_stg t_dys : Int32) (t_dep : Nat → Int32) (t_knd : Nat → Nat) (t_siz t_plc t_onn t_axs : Nat → Int32) (l_gsz l_gsd l_gfw a_gfw a_gtg w_gwy w_grl w_gsz : Int32) (a1 : Int32) {r : Int32} (hF : f_X7_isBall n_cnt a1 = some r) : CT l D (tysOf cI cC cB cQ) kc kt yX7_isBall cX7_isBall 2 (some .boolean) ({ frames := 1, cells := 0, slots := 0, locals := 40 } : Room) [.ref xh, .int a1] (wX cI cC cB cQ kc xh xp nh nd nb na kh kd kb ka th td tb ta gl ga gw ltr lrd srs bks img pag n_cnt n_wet n_stg n_dys n_dep n_knd n_siz n_plc n_onn n_axs k_cnt k_wet k_stg k_dys k_dep k_knd k_siz k_plc k_onn k_axs t_cnt t_wet t_stg t_dys t_dep t_knd t_siz t_plc t_onn t_axs l_gsz l_gsd l_gfw a_gfw a_gtg w_gwy w_grl w_gsz) ((fun (r : Int32) => (wX cI cC cB cQ kc xh xp nh nd nb na kh kd kb ka th td tb ta gl ga gw ltr lrd srs bks img pag n_cnt n_wet n_stg n_dys n_dep n_knd n_siz n_plc n_onn n_axs k_cnt k_wet k_stg k_dys k_dep k_knd k_siz k_plc k_onn k_axs t_cnt t_wet t_stg t_dys t_dep t_knd t_siz t_plc t_onn t_axs l_gsz l_gsd l_gfw a_gfw a_gtg w_gwy w_grl w_gsz)) r) ((fun (r : Int32) => some (.int r)) r) := by
  refine CT.of (ww := (fun (r : Int32) => (wX cI cC cB cQ kc xh xp nh nd nb na kh kd kb ka th td tb ta gl ga gw ltr lrd srs bks img pag n_cnt n_wet n_stg n_dys n_dep n_knd n_siz n_plc n_onn n_axs k_cnt k_wet k_stg k_dys k_dep k_knd k_siz k_plc k_onn k_axs t_cnt t_wet t_stg t_dys t_dep t_knd t_siz t_plc t_onn t_axs l_gsz l_gsd l_gfw a_gfw a_gtg w_gwy w_grl w_gsz))) (oo := (fun (r : Int32) => some (.int r))) hF RX7 rfl rfl (Nat.le_of_ble_eq_true rfl) ?_
  intro p e s m args below meth c A K hret hlk
  rewrite [f_X7_isBall]
  refine s_iload_n K dX7_isBall_0 rfl 1 rfl ?_
  refine s_if_lt (tgt := 19) K dX7_isBall_1 (by decide) (fun c_1 => ?_) (fun c_1 => ?_)
  · refine s_iconst K dX7_isBall_19 kic_0 ?_
    exact s_zret K hret hlk rfl rfl rfl dX7_isBall_20
  · refine s_iload_n K dX7_isBall_4 rfl 1 rfl ?_
    refine s_aload_n K dX7_isBall_5 rfl 0 rfl ?_
    refine s_get K 0 rfl rfl inT7 1 (Nat.le_of_ble_eq_true rfl) t_145 rfl rfl dX7_isBall_6 ?_
    refine s_get K 2 rfl rfl inT4 2 (Nat.le_of_ble_eq_true rfl) t_72 rfl rfl dX7_isBall_9 ?_
    refine s_icmp_ge (tgt := 19) K dX7_isBall_12 (by decide) (fun c_2 => ?_) (fun c_2 => ?_)
    · refine s_iconst K dX7_isBall_19 kic_0 ?_
      exact s_zret K hret hlk rfl rfl rfl dX7_isBall_20
    · refine s_iconst K dX7_isBall_15 kic_1 ?_
      refine s_goto (tgt := 20) K dX7_isBall_16 (by decide) ?_
      exact s_zret K hret hlk rfl rfl rfl dX7_isBall_20
set_option maxHeartbeats 4000000 in
set_option maxRecDepth 100000 in
theorem c_X7_about {l : Launch} {D : va_G} {cI cC cB cQ : ClassId} {kc : Nat → Nat} {kt : Nat} (xh xp nh nd nb : Nat) (na : Nat → Nat) (kh kd kb : Nat) (ka : Nat → Nat) (th td tb : Nat) (ta : Nat → Nat) (gl ga gw : Nat) (ltr lrd srs bks img : Int32) (pag : Nat → Int32) (n_cnt n_wet n_stg n_dys : Int32) (n_dep : Nat → Int32) (n_knd : Nat → Nat) (n_siz n_plc n_onn n_axs : Nat → Int32) (k_cnt k_wet k_stg k_dys : Int32) (k_dep : Nat → Int32) (k_knd : Nat → Nat) (k_siz k_plc k_onn k_axs : Nat → Int32) (t_cnt t_wet t_stg t_dys : Int32) (t_dep : Nat → Int32) (t_knd : Nat → Nat) (t_siz t_plc t_onn t_axs : Nat → Int32) (l_gsz l_gsd l_gfw a_gfw a_gtg w_gwy w_grl w_gsz : Int32) (a1 a2 : Int32) {r : Int32} (hF : f_X7_about n_cnt n_knd n_siz n_plc n_onn n_axs a1 a2 = some r) : CT l D (tysOf cI cC cB cQ) kc kt yX7_about cX7_about 4 (some .int) ({ frames := 3, cells := 0, slots := 0, locals := 161 } : Room) [.ref xh, .int a1, .int a2] (wX cI cC cB cQ kc xh xp nh nd nb na kh kd kb ka th td tb ta gl ga gw ltr lrd srs bks img pag n_cnt n_wet n_stg n_dys n_dep n_knd n_siz n_plc n_onn n_axs k_cnt k_wet k_stg k_dys k_dep k_knd k_siz k_plc k_onn k_axs t_cnt t_wet t_stg t_dys t_dep t_knd t_siz t_plc t_onn t_axs l_gsz l_gsd l_gfw a_gfw a_gtg w_gwy w_grl w_gsz) ((fun (r : Int32) => (wX cI cC cB cQ kc xh xp nh nd nb na kh kd kb ka th td tb ta gl ga gw ltr lrd srs bks img pag n_cnt n_wet n_stg n_dys n_dep n_knd n_siz n_plc n_onn n_axs k_cnt k_wet k_stg k_dys k_dep k_knd k_siz k_plc k_onn k_axs t_cnt t_wet t_stg t_dys t_dep t_knd t_siz t_plc t_onn t_axs l_gsz l_gsd l_gfw a_gfw a_gtg w_gwy w_grl w_gsz)) r) ((fun (r : Int32) => some (.int r)) r) := by
  refine CT.of (ww := (fun (r : Int32) => (wX cI cC cB cQ kc xh xp nh nd nb na kh kd kb ka th td tb ta gl ga gw ltr lrd srs bks img pag n_cnt n_wet n_stg n_dys n_dep n_knd n_siz n_plc n_onn n_axs k_cnt k_wet k_stg k_dys k_dep k_knd k_siz k_plc k_onn k_axs t_cnt t_wet t_stg t_dys t_dep t_knd t_siz t_plc t_onn t_axs l_gsz l_gsd l_gfw a_gfw a_gtg w_gwy w_grl w_gsz))) (oo := (fun (r : Int32) => some (.int r))) hF RX7 rfl rfl (Nat.le_of_ble_eq_true rfl) ?_
  intro p e s m args below meth c A K hret hlk
  rewrite [f_X7_about]
  refine s_aload_n K dX7_about_0 rfl 0 rfl ?_
  refine s_iload_n K dX7_about_1 rfl 1 rfl ?_
  refine s_bind (fun q hq_2 => ?_)
  obtain ⟨r_1, rfl⟩ : ∃ z, z = q := ⟨_, rfl⟩
  refine s_callV (w' := (wX cI cC cB cQ kc xh xp nh nd nb na kh kd kb ka th td tb ta gl ga gw ltr lrd srs bks img pag n_cnt n_wet n_stg n_dys n_dep n_knd n_siz n_plc n_onn n_axs k_cnt k_wet k_stg k_dys k_dep k_knd k_siz k_plc k_onn k_axs t_cnt t_wet t_stg t_dys t_dep t_knd t_siz t_plc t_onn t_axs l_gsz l_gsd l_gfw a_gfw a_gtg w_gwy w_grl w_gsz)) (rest := []) (st1 := [.int r_1]) K (c_X7_isBall xh xp nh nd nb na kh kd kb ka th td tb ta gl ga gw ltr lrd srs bks img pag n_cnt n_wet n_stg n_dys n_dep n_knd n_siz n_plc n_onn n_axs k_cnt k_wet k_stg k_dys k_dep k_knd k_siz k_plc k_onn k_axs t_cnt t_wet t_stg t_dys t_dep t_knd t_siz t_plc t_onn t_axs l_gsz l_gsd l_gfw a_gfw a_gtg w_gwy w_grl w_gsz a1 hq_2) rfl hd_X7_isBall t_266 t_268 ts_1 t_1 t_269 ⟨(Nat.le_of_ble_eq_true rfl), (Nat.le_of_ble_eq_true rfl)⟩ ⟨rfl, rfl⟩ ⟨Nat.zero_le _, Nat.zero_le _⟩ (rv_o K 0 rfl rfl) [0, 1, 2, 3, 4, 5, 6, 7, 8, 9, 10, 11, 12, 13, 14, 15, 16, 17, 18, 19, 20, 21, 22, 23, 24, 25, 26, 27, 28] [] [0, 1, 2, 3, 4, 5, 6, 7, 8, 9, 10, 11, 12, 13, 14, 15, 16, 17, 18, 19, 20, 21, 22, 23, 24, 25, 26, 27, 28] rfl rfl rfl rfl (by decide) rfl rfl rfl rfl (Nat.le_of_ble_eq_true rfl) dX7_about_2 ?_
  refine s_if_ne (tgt := 11) K dX7_about_5 (by decide) (fun c_3 => ?_) (fun c_3 => ?_)
  · refine s_bipush K dX7_about_8 kib_m101 ?_
    exact s_iret K hret hlk rfl rfl dX7_about_10
  · refine s_iload_n K dX7_about_11 rfl 2 rfl ?_
    refine s_iconst K dX7_about_12 kic_0 ?_
    refine s_bipush K dX7_about_13 kib_6 ?_
    refine s_bind (fun q hq_5 => ?_)
    obtain ⟨r_4, rfl⟩ : ∃ z, z = q := ⟨_, rfl⟩
    refine s_callS0 (rest := []) (st1 := [.int r_4]) K (c_X7_isOutside a2 0 6 hq_5) hd_X7_isOutside t_185 t_186 t_1 t_187 ⟨(Nat.le_of_ble_eq_true rfl), (Nat.le_of_ble_eq_true rfl)⟩ ⟨rfl, rfl⟩ ⟨Nat.zero_le _, Nat.zero_le _⟩ rfl rfl (Nat.le_of_ble_eq_true rfl) dX7_about_15 ?_
    refine s_if_eq (tgt := 24) K dX7_about_18 (by decide) (fun c_6 => ?_) (fun c_6 => ?_)
    · refine s_aload_n K dX7_about_24 rfl 0 rfl ?_
      refine s_get K 0 rfl rfl inT7 1 (Nat.le_of_ble_eq_true rfl) t_145 rfl rfl dX7_about_25 ?_
      refine s_get K 2 rfl rfl inT4 1 (Nat.le_of_ble_eq_true rfl) t_70 rfl rfl dX7_about_28 ?_
      refine s_iload_n K dX7_about_31 rfl 1 rfl ?_
      refine s_ck (fun ho_7 => ?_)
      refine s_aldb K 4 3 rfl rfl (ok_in ho_7) rfl dX7_about_32 ?_
      refine s_astore_n (lv' := [(3, .ref (na (Int32.toNatClampNeg a1))), (0, .ref xh), (1, .int a1), (2, .int a2)]) K dX7_about_33 rfl (Nat.le_of_ble_eq_true rfl) rfl ?_
      refine s_iload_n K dX7_about_34 rfl 3 rfl ?_
      refine s_ite (fun c_8 => ?_) (fun c_8 => ?_)
      · refine s_swIn K (0) 72 dX7_about_35 ⟨by decide, by decide⟩ rfl (by decide) c_8 ?_
        refine s_aload_n K dX7_about_72 rfl 0 rfl ?_
        refine s_get K (5 + (Int32.toNatClampNeg a1)) (gX_5 (vp_lt (ok_in ho_7))) rfl inT1 0 (Nat.le_of_ble_eq_true rfl) t_37 rfl rfl dX7_about_73 ?_
        refine s_ck (fun hk_9 => ?_)
        refine s_getE_number K hk_9 t_919 dX7_about_76 ?_
        exact s_iret K hret hlk rfl rfl dX7_about_79
      · refine s_ite (fun c_10 => ?_) (fun c_10 => ?_)
        · refine s_swIn K (1) 80 dX7_about_35 ⟨by decide, by decide⟩ rfl (by decide) c_10 ?_
          refine s_aload_n K dX7_about_80 rfl 0 rfl ?_
          refine s_get K (5 + (Int32.toNatClampNeg a1)) (gX_5 (vp_lt (ok_in ho_7))) rfl inT1 1 (Nat.le_of_ble_eq_true rfl) t_43 rfl rfl dX7_about_81 ?_
          exact s_iret K hret hlk rfl rfl dX7_about_84
        · refine s_ite (fun c_11 => ?_) (fun c_11 => ?_)
          · refine s_swIn K (2) 85 dX7_about_35 ⟨by decide, by decide⟩ rfl (by decide) c_11 ?_
            refine s_aload_n K dX7_about_85 rfl 0 rfl ?_
            refine s_get K (5 + (Int32.toNatClampNeg a1)) (gX_5 (vp_lt (ok_in ho_7))) rfl inT1 2 (Nat.le_of_ble_eq_true rfl) t_47 rfl rfl dX7_about_86 ?_
            exact s_iret K hret hlk rfl rfl dX7_about_89
          · refine s_ite (fun c_12 => ?_) (fun c_12 => ?_)
            · refine s_swIn K (3) 90 dX7_about_35 ⟨by decide, by decide⟩ rfl (by decide) c_12 ?_
              refine s_aload_n K dX7_about_90 rfl 0 rfl ?_
              refine s_get K (5 + (Int32.toNatClampNeg a1)) (gX_5 (vp_lt (ok_in ho_7))) rfl inT1 3 (Nat.le_of_ble_eq_true rfl) t_50 rfl rfl dX7_about_91 ?_
              exact s_iret K hret hlk rfl rfl dX7_about_94
            · refine s_ite (fun c_13 => ?_) (fun c_13 => ?_)
              · refine s_swIn K (4) 95 dX7_about_35 ⟨by decide, by decide⟩ rfl (by decide) c_13 ?_
                refine s_aload_n K dX7_about_95 rfl 0 rfl ?_
                refine s_bind (fun q hq_15 => ?_)
                obtain ⟨r_14, rfl⟩ : ∃ z, z = q := ⟨_, rfl⟩
                refine s_callV (w' := (wX cI cC cB cQ kc xh xp nh nd nb na kh kd kb ka th td tb ta gl ga gw ltr lrd srs bks img pag n_cnt n_wet n_stg n_dys n_dep n_knd n_siz n_plc n_onn n_axs k_cnt k_wet k_stg k_dys k_dep k_knd k_siz k_plc k_onn k_axs t_cnt t_wet t_stg t_dys t_dep t_knd t_siz t_plc t_onn t_axs l_gsz l_gsd l_gfw a_gfw a_gtg w_gwy w_grl w_gsz)) (rest := []) (st1 := [.int r_14]) K (c_X1_weight na n_knd n_siz n_plc n_onn n_axs (Int32.toNatClampNeg a1) (vp_lt (ok_in ho_7)) hq_15) rfl hd_X1_weight t_270 t_271 t_272 t_3 t_273 ⟨(Nat.le_of_ble_eq_true rfl), (Nat.le_of_ble_eq_true rfl)⟩ ⟨rfl, rfl⟩ ⟨Nat.zero_le _, Nat.zero_le _⟩ (rv_o K (5 + (Int32.toNatClampNeg a1)) (gX_5 (vp_lt (ok_in ho_7))) rfl) [5, 6, 7, 8, 9] [0, 1, 2, 3, 4, 10, 11, 12, 13, 14, 15, 16, 17, 18, 19, 20, 21, 22, 23, 24, 25, 26, 27, 28] [0, 1, 2, 3, 4, 24, 25, 26, 27, 28, 5, 6, 7, 8, 9, 10, 11, 12, 13, 14, 15, 16, 17, 18, 19, 20, 21, 22, 23] rfl rfl rfl rfl (by decide) rfl rfl rfl rfl (Nat.le_of_ble_eq_true rfl) dX7_about_96 ?_
                exact s_iret K hret hlk rfl rfl dX7_about_99
              · refine s_ite (fun c_16 => ?_) (fun c_16 => ?_)
                · refine s_swIn K (5) 100 dX7_about_35 ⟨by decide, by decide⟩ rfl (by decide) c_16 ?_
                  refine s_aload_n K dX7_about_100 rfl 0 rfl ?_
                  refine s_get K (5 + (Int32.toNatClampNeg a1)) (gX_5 (vp_lt (ok_in ho_7))) rfl inT1 0 (Nat.le_of_ble_eq_true rfl) t_37 rfl rfl dX7_about_101 ?_
                  refine s_aload_n K dX7_about_104 rfl 0 rfl ?_
                  refine s_get K (5 + (Int32.toNatClampNeg a1)) (gX_5 (vp_lt (ok_in ho_7))) rfl inT1 1 (Nat.le_of_ble_eq_true rfl) t_43 rfl rfl dX7_about_105 ?_
                  refine s_ck (fun hk_17 => ?_)
                  refine s_bind (fun q hq_19 => ?_)
                  obtain ⟨r_18, rfl⟩ : ∃ z, z = q := ⟨_, rfl⟩
                  refine s_callV0 (rest := []) (st1 := [.int r_18]) K (c_X2_breadth (n_siz (Int32.toNatClampNeg a1)) (n_knd (Int32.toNatClampNeg a1)) hk_17 hq_19) rfl hd_X2_breadth t_278 t_279 t_280 t_5 t_281 ⟨(Nat.le_of_ble_eq_true rfl), (Nat.le_of_ble_eq_true rfl)⟩ ⟨rfl, rfl⟩ ⟨Nat.zero_le _, Nat.zero_le _⟩ (rv_k K hk_17) rfl rfl (Nat.le_of_ble_eq_true rfl) dX7_about_108 ?_
                  exact s_iret K hret hlk rfl rfl dX7_about_111
                · refine s_swOut (tgt := 112) K dX7_about_35 (sw_out (n := 5) (by decide) (fun j hj => match j, hj with | 0, _ => c_8 | 1, _ => c_10 | 2, _ => c_11 | 3, _ => c_12 | 4, _ => c_13 | 5, _ => c_16 | j + 6, h => absurd h (by omega))) (by decide) ?_
                  refine s_aload_n K dX7_about_112 rfl 0 rfl ?_
                  refine s_get K (5 + (Int32.toNatClampNeg a1)) (gX_5 (vp_lt (ok_in ho_7))) rfl inT1 4 (Nat.le_of_ble_eq_true rfl) t_52 rfl rfl dX7_about_113 ?_
                  exact s_iret K hret hlk rfl rfl dX7_about_116
    · refine s_bipush K dX7_about_21 kib_m102 ?_
      exact s_iret K hret hlk rfl rfl dX7_about_23
set_option maxHeartbeats 4000000 in
set_option maxRecDepth 100000 in
theorem c_X7_as {l : Launch} {D : va_G} {cI cC cB cQ : ClassId} {kc : Nat → Nat} {kt : Nat} (xh xp nh nd nb : Nat) (na : Nat → Nat) (kh kd kb : Nat) (ka : Nat → Nat) (th td tb : Nat) (ta : Nat → Nat) (gl ga gw : Nat) (ltr lrd srs bks img : Int32) (pag : Nat → Int32) (n_cnt n_wet n_stg n_dys : Int32) (n_dep : Nat → Int32) (n_knd : Nat → Nat) (n_siz n_plc n_onn n_axs : Nat → Int32) (k_cnt k_wet k_stg k_dys : Int32) (k_dep : Nat → Int32) (k_knd : Nat → Nat) (k_siz k_plc k_onn k_axs : Nat → Int32) (t_cnt t_wet t_stg t_dys : Int32) (t_dep : Nat → Int32) (t_knd : Nat → Nat) (t_siz t_plc t_onn t_axs : Nat → Int32) (l_gsz l_gsd l_gfw a_gfw a_gtg w_gwy w_grl w_gsz : Int32) (a1 a2 : Int32) {r : Int32} (hF : f_X7_as n_cnt n_knd a1 a2 = some r) : CT l D (tysOf cI cC cB cQ) kc kt yX7_as cX7_as 3 (some .int) ({ frames := 3, cells := 0, slots := 0, locals := 162 } : Room) [.ref xh, .int a1, .int a2] (wX cI cC cB cQ kc xh xp nh nd nb na kh kd kb ka th td tb ta gl ga gw ltr lrd srs bks img pag n_cnt n_wet n_stg n_dys n_dep n_knd n_siz n_plc n_onn n_axs k_cnt k_wet k_stg k_dys k_dep k_knd k_siz k_plc k_onn k_axs t_cnt t_wet t_stg t_dys t_dep t_knd t_siz t_plc t_onn t_axs l_gsz l_gsd l_gfw a_gfw a_gtg w_gwy w_grl w_gsz) ((fun (r : Int32) => (wX cI cC cB cQ kc xh xp nh nd nb na kh kd kb ka th td tb ta gl ga gw ltr lrd srs bks img pag n_cnt n_wet n_stg n_dys n_dep n_knd n_siz n_plc n_onn n_axs k_cnt k_wet k_stg k_dys k_dep k_knd k_siz k_plc k_onn k_axs t_cnt t_wet t_stg t_dys t_dep t_knd t_siz t_plc t_onn t_axs l_gsz l_gsd l_gfw a_gfw a_gtg w_gwy w_grl w_gsz)) r) ((fun (r : Int32) => some (.int r)) r) := by
  refine CT.of (ww := (fun (r : Int32) => (wX cI cC cB cQ kc xh xp nh nd nb na kh kd kb ka th td tb ta gl ga gw ltr lrd srs bks img pag n_cnt n_wet n_stg n_dys n_dep n_knd n_siz n_plc n_onn n_axs k_cnt k_wet k_stg k_dys k_dep k_knd k_siz k_plc k_onn k_axs t_cnt t_wet t_stg t_dys t_dep t_knd t_siz t_plc t_onn t_axs l_gsz l_gsd l_gfw a_gfw a_gtg w_gwy w_grl w_gsz))) (oo := (fun (r : Int32) => some (.int r))) hF RX7 rfl rfl (Nat.le_of_ble_eq_true rfl) ?_
  intro p e s m args below meth c A K hret hlk
  rewrite [f_X7_as]
  refine s_aload_n K dX7_as_0 rfl 0 rfl ?_
  refine s_iload_n K dX7_as_1 rfl 1 rfl ?_
  refine s_bind (fun q hq_2 => ?_)
  obtain ⟨r_1, rfl⟩ : ∃ z, z = q := ⟨_, rfl⟩
  refine s_callV (w' := (wX cI cC cB cQ kc xh xp nh nd nb na kh kd kb ka th td tb ta gl ga gw ltr lrd srs bks img pag n_cnt n_wet n_stg n_dys n_dep n_knd n_siz n_plc n_onn n_axs k_cnt k_wet k_stg k_dys k_dep k_knd k_siz k_plc k_onn k_axs t_cnt t_wet t_stg t_dys t_dep t_knd t_siz t_plc t_onn t_axs l_gsz l_gsd l_gfw a_gfw a_gtg w_gwy w_grl w_gsz)) (rest := []) (st1 := [.int r_1]) K (c_X7_isBall xh xp nh nd nb na kh kd kb ka th td tb ta gl ga gw ltr lrd srs bks img pag n_cnt n_wet n_stg n_dys n_dep n_knd n_siz n_plc n_onn n_axs k_cnt k_wet k_stg k_dys k_dep k_knd k_siz k_plc k_onn k_axs t_cnt t_wet t_stg t_dys t_dep t_knd t_siz t_plc t_onn t_axs l_gsz l_gsd l_gfw a_gfw a_gtg w_gwy w_grl w_gsz a1 hq_2) rfl hd_X7_isBall t_266 t_268 ts_1 t_1 t_269 ⟨(Nat.le_of_ble_eq_true rfl), (Nat.le_of_ble_eq_true rfl)⟩ ⟨rfl, rfl⟩ ⟨Nat.zero_le _, Nat.zero_le _⟩ (rv_o K 0 rfl rfl) [0, 1, 2, 3, 4, 5, 6, 7, 8, 9, 10, 11, 12, 13, 14, 15, 16, 17, 18, 19, 20, 21, 22, 23, 24, 25, 26, 27, 28] [] [0, 1, 2, 3, 4, 5, 6, 7, 8, 9, 10, 11, 12, 13, 14, 15, 16, 17, 18, 19, 20, 21, 22, 23, 24, 25, 26, 27, 28] rfl rfl rfl rfl (by decide) rfl rfl rfl rfl (Nat.le_of_ble_eq_true rfl) dX7_as_2 ?_
  refine s_if_ne (tgt := 11) K dX7_as_5 (by decide) (fun c_3 => ?_) (fun c_3 => ?_)
  · refine s_bipush K dX7_as_8 kib_m101 ?_
    exact s_iret K hret hlk rfl rfl dX7_as_10
  · refine s_iload_n K dX7_as_11 rfl 2 rfl ?_
    refine s_bind (fun q hq_5 => ?_)
    obtain ⟨r_4, rfl⟩ : ∃ z, z = q := ⟨_, rfl⟩
    refine s_callS0 (rest := []) (st1 := [.int r_4]) K (c_X7_isKind a2 hq_5) hd_X7_isKind t_245 t_246 t_1 t_247 ⟨(Nat.le_of_ble_eq_true rfl), (Nat.le_of_ble_eq_true rfl)⟩ ⟨rfl, rfl⟩ ⟨Nat.zero_le _, Nat.zero_le _⟩ rfl rfl (Nat.le_of_ble_eq_true rfl) dX7_as_12 ?_
    refine s_if_ne (tgt := 21) K dX7_as_15 (by decide) (fun c_6 => ?_) (fun c_6 => ?_)
    · refine s_bipush K dX7_as_18 kib_m102 ?_
      exact s_iret K hret hlk rfl rfl dX7_as_20
    · refine s_aload_n K dX7_as_21 rfl 0 rfl ?_
      refine s_get K 0 rfl rfl inT7 1 (Nat.le_of_ble_eq_true rfl) t_145 rfl rfl dX7_as_22 ?_
      refine s_get K 2 rfl rfl inT4 1 (Nat.le_of_ble_eq_true rfl) t_70 rfl rfl dX7_as_25 ?_
      refine s_iload_n K dX7_as_28 rfl 1 rfl ?_
      refine s_ck (fun ho_7 => ?_)
      refine s_aldb K 4 3 rfl rfl (ok_in ho_7) rfl dX7_as_29 ?_
      refine s_get K (5 + (Int32.toNatClampNeg a1)) (gX_5 (vp_lt (ok_in ho_7))) rfl inT1 0 (Nat.le_of_ble_eq_true rfl) t_37 rfl rfl dX7_as_30 ?_
      refine s_getsT K t_248 dX7_as_33 ?_
      refine s_iload_n K dX7_as_36 rfl 2 rfl ?_
      refine s_ck (fun ho_8 => ?_)
      refine s_aldT K (ok_in ho_8) dX7_as_37 ?_
      refine s_ck (fun hk_9 => ?_)
      refine s_bind (fun q hq_11 => ?_)
      obtain ⟨r_10, rfl⟩ : ∃ z, z = q := ⟨_, rfl⟩
      refine s_callV0 (rest := []) (st1 := [.int r_10]) K (c_X2_isA (n_knd (Int32.toNatClampNeg a1)) (Int32.toNatClampNeg a2) hk_9 (vp_lt (ok_in ho_8)) hq_11) rfl hd_X2_isA t_286 t_287 t_288 t_5 t_289 ⟨(Nat.le_of_ble_eq_true rfl), (Nat.le_of_ble_eq_true rfl)⟩ ⟨rfl, rfl⟩ ⟨Nat.zero_le _, Nat.zero_le _⟩ (rv_k K hk_9) rfl rfl (Nat.le_of_ble_eq_true rfl) dX7_as_38 ?_
      refine s_if_eq (tgt := 48) K dX7_as_41 (by decide) (fun c_12 => ?_) (fun c_12 => ?_)
      · refine s_iconst K dX7_as_48 kic_m1 ?_
        exact s_iret K hret hlk rfl rfl dX7_as_49
      · refine s_iload_n K dX7_as_44 rfl 1 rfl ?_
        refine s_goto (tgt := 49) K dX7_as_45 (by decide) ?_
        exact s_iret K hret hlk rfl rfl dX7_as_49
set_option maxHeartbeats 4000000 in
set_option maxRecDepth 100000 in
theorem c_X7_may {l : Launch} {D : va_G} {cI cC cB cQ : ClassId} {kc : Nat → Nat} {kt : Nat} (xh xp nh nd nb : Nat) (na : Nat → Nat) (kh kd kb : Nat) (ka : Nat → Nat) (th td tb : Nat) (ta : Nat → Nat) (gl ga gw : Nat) (ltr lrd srs bks img : Int32) (pag : Nat → Int32) (n_cnt n_wet n_stg n_dys : Int32) (n_dep : Nat → Int32) (n_knd : Nat → Nat) (n_siz n_plc n_onn n_axs : Nat → Int32) (k_cnt k_wet k_stg k_dys : Int32) (k_dep : Nat → Int32) (k_knd : Nat → Nat) (k_siz k_plc k_onn k_axs : Nat → Int32) (t_cnt t_wet t_stg t_dys : Int32) (t_dep : Nat → Int32) (t_knd : Nat → Nat) (t_siz t_plc t_onn t_axs : Nat → Int32) (l_gsz l_gsd l_gfw a_gfw a_gtg w_gwy w_grl w_gsz : Int32) (a1 a2 : Int32) {r : Int32} (hF : f_X7_may n_cnt n_stg n_knd n_siz n_plc n_onn n_axs a1 a2 = some r) : CT l D (tysOf cI cC cB cQ) kc kt yX7_may cX7_may 3 (some .int) ({ frames := 5, cells := 0, slots := 0, locals := 288 } : Room) [.ref xh, .int a1, .int a2] (wX cI cC cB cQ kc xh xp nh nd nb na kh kd kb ka th td tb ta gl ga gw ltr lrd srs bks img pag n_cnt n_wet n_stg n_dys n_dep n_knd n_siz n_plc n_onn n_axs k_cnt k_wet k_stg k_dys k_dep k_knd k_siz k_plc k_onn k_axs t_cnt t_wet t_stg t_dys t_dep t_knd t_siz t_plc t_onn t_axs l_gsz l_gsd l_gfw a_gfw a_gtg w_gwy w_grl w_gsz) ((fun (r : Int32) => (wX cI cC cB cQ kc xh xp nh nd nb na kh kd kb ka th td tb ta gl ga gw ltr lrd srs bks img pag n_cnt n_wet n_stg n_dys n_dep n_knd n_siz n_plc n_onn n_axs k_cnt k_wet k_stg k_dys k_dep k_knd k_siz k_plc k_onn k_axs t_cnt t_wet t_stg t_dys t_dep t_knd t_siz t_plc t_onn t_axs l_gsz l_gsd l_gfw a_gfw a_gtg w_gwy w_grl w_gsz)) r) ((fun (r : Int32) => some (.int r)) r) := by
  refine CT.of (ww := (fun (r : Int32) => (wX cI cC cB cQ kc xh xp nh nd nb na kh kd kb ka th td tb ta gl ga gw ltr lrd srs bks img pag n_cnt n_wet n_stg n_dys n_dep n_knd n_siz n_plc n_onn n_axs k_cnt k_wet k_stg k_dys k_dep k_knd k_siz k_plc k_onn k_axs t_cnt t_wet t_stg t_dys t_dep t_knd t_siz t_plc t_onn t_axs l_gsz l_gsd l_gfw a_gfw a_gtg w_gwy w_grl w_gsz))) (oo := (fun (r : Int32) => some (.int r))) hF RX7 rfl rfl (Nat.le_of_ble_eq_true rfl) ?_
  intro p e s m args below meth c A K hret hlk
  rewrite [f_X7_may]
  refine s_aload_n K dX7_may_0 rfl 0 rfl ?_
  refine s_iload_n K dX7_may_1 rfl 1 rfl ?_
  refine s_bind (fun q hq_2 => ?_)
  obtain ⟨r_1, rfl⟩ : ∃ z, z = q := ⟨_, rfl⟩
  refine s_callV (w' := (wX cI cC cB cQ kc xh xp nh nd nb na kh kd kb ka th td tb ta gl ga gw ltr lrd srs bks img pag n_cnt n_wet n_stg n_dys n_dep n_knd n_siz n_plc n_onn n_axs k_cnt k_wet k_stg k_dys k_dep k_knd k_siz k_plc k_onn k_axs t_cnt t_wet t_stg t_dys t_dep t_knd t_siz t_plc t_onn t_axs l_gsz l_gsd l_gfw a_gfw a_gtg w_gwy w_grl w_gsz)) (rest := []) (st1 := [.int r_1]) K (c_X7_isBall xh xp nh nd nb na kh kd kb ka th td tb ta gl ga gw ltr lrd srs bks img pag n_cnt n_wet n_stg n_dys n_dep n_knd n_siz n_plc n_onn n_axs k_cnt k_wet k_stg k_dys k_dep k_knd k_siz k_plc k_onn k_axs t_cnt t_wet t_stg t_dys t_dep t_knd t_siz t_plc t_onn t_axs l_gsz l_gsd l_gfw a_gfw a_gtg w_gwy w_grl w_gsz a1 hq_2) rfl hd_X7_isBall t_266 t_268 ts_1 t_1 t_269 ⟨(Nat.le_of_ble_eq_true rfl), (Nat.le_of_ble_eq_true rfl)⟩ ⟨rfl, rfl⟩ ⟨Nat.zero_le _, Nat.zero_le _⟩ (rv_o K 0 rfl rfl) [0, 1, 2, 3, 4, 5, 6, 7, 8, 9, 10, 11, 12, 13, 14, 15, 16, 17, 18, 19, 20, 21, 22, 23, 24, 25, 26, 27, 28] [] [0, 1, 2, 3, 4, 5, 6, 7, 8, 9, 10, 11, 12, 13, 14, 15, 16, 17, 18, 19, 20, 21, 22, 23, 24, 25, 26, 27, 28] rfl rfl rfl rfl (by decide) rfl rfl rfl rfl (Nat.le_of_ble_eq_true rfl) dX7_may_2 ?_
  refine s_if_ne (tgt := 11) K dX7_may_5 (by decide) (fun c_3 => ?_) (fun c_3 => ?_)
  · refine s_bipush K dX7_may_8 kib_m101 ?_
    exact s_iret K hret hlk rfl rfl dX7_may_10
  · refine s_iload_n K dX7_may_11 rfl 2 rfl ?_
    refine s_bind (fun q hq_5 => ?_)
    obtain ⟨r_4, rfl⟩ : ∃ z, z = q := ⟨_, rfl⟩
    refine s_callS0 (rest := []) (st1 := [.int r_4]) K (c_X7_isSide a2 hq_5) hd_X7_isSide t_299 t_300 t_1 t_301 ⟨(Nat.le_of_ble_eq_true rfl), (Nat.le_of_ble_eq_true rfl)⟩ ⟨rfl, rfl⟩ ⟨Nat.zero_le _, Nat.zero_le _⟩ rfl rfl (Nat.le_of_ble_eq_true rfl) dX7_may_12 ?_
    refine s_if_ne (tgt := 21) K dX7_may_15 (by decide) (fun c_6 => ?_) (fun c_6 => ?_)
    · refine s_bipush K dX7_may_18 kib_m102 ?_
      exact s_iret K hret hlk rfl rfl dX7_may_20
    · refine s_aload_n K dX7_may_21 rfl 0 rfl ?_
      refine s_get K 0 rfl rfl inT7 1 (Nat.le_of_ble_eq_true rfl) t_145 rfl rfl dX7_may_22 ?_
      refine s_iload_n K dX7_may_25 rfl 1 rfl ?_
      refine s_iload_n K dX7_may_26 rfl 2 rfl ?_
      refine s_bind (fun q hq_8 => ?_)
      obtain ⟨r_7, rfl⟩ : ∃ z, z = q := ⟨_, rfl⟩
      refine s_callV (w' := (wX cI cC cB cQ kc xh xp nh nd nb na kh kd kb ka th td tb ta gl ga gw ltr lrd srs bks img pag n_cnt n_wet n_stg n_dys n_dep n_knd n_siz n_plc n_onn n_axs k_cnt k_wet k_stg k_dys k_dep k_knd k_siz k_plc k_onn k_axs t_cnt t_wet t_stg t_dys t_dep t_knd t_siz t_plc t_onn t_axs l_gsz l_gsd l_gfw a_gfw a_gtg w_gwy w_grl w_gsz)) (rest := []) (st1 := [.int r_7]) K (c_X4_canRoll nh nd nb na n_cnt n_wet n_stg n_dys n_dep n_knd n_siz n_plc n_onn n_axs a1 a2 hq_8) rfl hd_X4_canRoll t_302 t_303 t_304 t_2 t_305 ⟨(Nat.le_of_ble_eq_true rfl), (Nat.le_of_ble_eq_true rfl)⟩ ⟨rfl, rfl⟩ ⟨Nat.zero_le _, Nat.zero_le _⟩ (rv_o K 2 rfl rfl) [2, 3, 4, 5, 6, 7, 8, 9] [0, 1, 10, 11, 12, 13, 14, 15, 16, 17, 18, 19, 20, 21, 22, 23, 24, 25, 26, 27, 28] [0, 1, 21, 22, 23, 24, 25, 26, 27, 28, 2, 3, 4, 5, 6, 7, 8, 9, 10, 11, 12, 13, 14, 15, 16, 17, 18, 19, 20] rfl rfl rfl rfl (by decide) rfl rfl rfl rfl (Nat.le_of_ble_eq_true rfl) dX7_may_27 ?_
      refine s_if_eq (tgt := 37) K dX7_may_30 (by decide) (fun c_9 => ?_) (fun c_9 => ?_)
      · refine s_iconst K dX7_may_37 kic_0 ?_
        exact s_iret K hret hlk rfl rfl dX7_may_38
      · refine s_iconst K dX7_may_33 kic_1 ?_
        refine s_goto (tgt := 38) K dX7_may_34 (by decide) ?_
        exact s_iret K hret hlk rfl rfl dX7_may_38
set_option maxHeartbeats 4000000 in
set_option maxRecDepth 100000 in
theorem c_X7_roll {l : Launch} {D : va_G} {cI cC cB cQ : ClassId} {kc : Nat → Nat} {kt : Nat} (xh xp nh nd nb : Nat) (na : Nat → Nat) (kh kd kb : Nat) (ka : Nat → Nat) (th td tb : Nat) (ta : Nat → Nat) (gl ga gw : Nat) (ltr lrd srs bks img : Int32) (pag : Nat → Int32) (n_cnt n_wet n_stg n_dys : Int32) (n_dep : Nat → Int32) (n_knd : Nat → Nat) (n_siz n_plc n_onn n_axs : Nat → Int32) (k_cnt k_wet k_stg k_dys : Int32) (k_dep : Nat → Int32) (k_knd : Nat → Nat) (k_siz k_plc k_onn k_axs : Nat → Int32) (t_cnt t_wet t_stg t_dys : Int32) (t_dep : Nat → Int32) (t_knd : Nat → Nat) (t_siz t_plc t_onn t_axs : Nat → Int32) (l_gsz l_gsd l_gfw a_gfw a_gtg w_gwy w_grl w_gsz : Int32) (a1 a2 : Int32) {r : Int32 × (Nat → Int32) × (Nat → Int32) × (Nat → Int32) × (Nat → Int32) × (Nat → Int32)} (hF : f_X7_roll n_cnt n_wet n_stg n_dep n_knd n_siz n_plc n_onn n_axs a1 a2 = some r) : CT l D (tysOf cI cC cB cQ) kc kt yX7_roll cX7_roll 3 (some .int) ({ frames := 5, cells := 0, slots := 0, locals := 289 } : Room) [.ref xh, .int a1, .int a2] (wX cI cC cB cQ kc xh xp nh nd nb na kh kd kb ka th td tb ta gl ga gw ltr lrd srs bks img pag n_cnt n_wet n_stg n_dys n_dep n_knd n_siz n_plc n_onn n_axs k_cnt k_wet k_stg k_dys k_dep k_knd k_siz k_plc k_onn k_axs t_cnt t_wet t_stg t_dys t_dep t_knd t_siz t_plc t_onn t_axs l_gsz l_gsd l_gfw a_gfw a_gtg w_gwy w_grl w_gsz) ((fun (r : Int32 × (Nat → Int32) × (Nat → Int32) × (Nat → Int32) × (Nat → Int32) × (Nat → Int32)) => (wX cI cC cB cQ kc xh xp nh nd nb na kh kd kb ka th td tb ta gl ga gw ltr lrd srs bks img pag n_cnt n_wet n_stg n_dys (r.2.1) n_knd (r.2.2.1) (r.2.2.2.1) (r.2.2.2.2.1) (r.2.2.2.2.2) k_cnt k_wet k_stg k_dys k_dep k_knd k_siz k_plc k_onn k_axs t_cnt t_wet t_stg t_dys t_dep t_knd t_siz t_plc t_onn t_axs l_gsz l_gsd l_gfw a_gfw a_gtg w_gwy w_grl w_gsz)) r) ((fun (r : Int32 × (Nat → Int32) × (Nat → Int32) × (Nat → Int32) × (Nat → Int32) × (Nat → Int32)) => some (.int (r.1))) r) := by
  refine CT.of (ww := (fun (r : Int32 × (Nat → Int32) × (Nat → Int32) × (Nat → Int32) × (Nat → Int32) × (Nat → Int32)) => (wX cI cC cB cQ kc xh xp nh nd nb na kh kd kb ka th td tb ta gl ga gw ltr lrd srs bks img pag n_cnt n_wet n_stg n_dys (r.2.1) n_knd (r.2.2.1) (r.2.2.2.1) (r.2.2.2.2.1) (r.2.2.2.2.2) k_cnt k_wet k_stg k_dys k_dep k_knd k_siz k_plc k_onn k_axs t_cnt t_wet t_stg t_dys t_dep t_knd t_siz t_plc t_onn t_axs l_gsz l_gsd l_gfw a_gfw a_gtg w_gwy w_grl w_gsz))) (oo := (fun (r : Int32 × (Nat → Int32) × (Nat → Int32) × (Nat → Int32) × (Nat → Int32) × (Nat → Int32)) => some (.int (r.1)))) hF RX7 rfl rfl (Nat.le_of_ble_eq_true rfl) ?_
  intro p e s m args below meth c A K hret hlk
  rewrite [f_X7_roll]
  refine s_aload_n K dX7_roll_0 rfl 0 rfl ?_
  refine s_iload_n K dX7_roll_1 rfl 1 rfl ?_
  refine s_bind (fun q hq_2 => ?_)
  obtain ⟨r_1, rfl⟩ : ∃ z, z = q := ⟨_, rfl⟩
  refine s_callV (w' := (wX cI cC cB cQ kc xh xp nh nd nb na kh kd kb ka th td tb ta gl ga gw ltr lrd srs bks img pag n_cnt n_wet n_stg n_dys n_dep n_knd n_siz n_plc n_onn n_axs k_cnt k_wet k_stg k_dys k_dep k_knd k_siz k_plc k_onn k_axs t_cnt t_wet t_stg t_dys t_dep t_knd t_siz t_plc t_onn t_axs l_gsz l_gsd l_gfw a_gfw a_gtg w_gwy w_grl w_gsz)) (rest := []) (st1 := [.int r_1]) K (c_X7_isBall xh xp nh nd nb na kh kd kb ka th td tb ta gl ga gw ltr lrd srs bks img pag n_cnt n_wet n_stg n_dys n_dep n_knd n_siz n_plc n_onn n_axs k_cnt k_wet k_stg k_dys k_dep k_knd k_siz k_plc k_onn k_axs t_cnt t_wet t_stg t_dys t_dep t_knd t_siz t_plc t_onn t_axs l_gsz l_gsd l_gfw a_gfw a_gtg w_gwy w_grl w_gsz a1 hq_2) rfl hd_X7_isBall t_266 t_268 ts_1 t_1 t_269 ⟨(Nat.le_of_ble_eq_true rfl), (Nat.le_of_ble_eq_true rfl)⟩ ⟨rfl, rfl⟩ ⟨Nat.zero_le _, Nat.zero_le _⟩ (rv_o K 0 rfl rfl) [0, 1, 2, 3, 4, 5, 6, 7, 8, 9, 10, 11, 12, 13, 14, 15, 16, 17, 18, 19, 20, 21, 22, 23, 24, 25, 26, 27, 28] [] [0, 1, 2, 3, 4, 5, 6, 7, 8, 9, 10, 11, 12, 13, 14, 15, 16, 17, 18, 19, 20, 21, 22, 23, 24, 25, 26, 27, 28] rfl rfl rfl rfl (by decide) rfl rfl rfl rfl (Nat.le_of_ble_eq_true rfl) dX7_roll_2 ?_
  refine s_if_ne (tgt := 11) K dX7_roll_5 (by decide) (fun c_3 => ?_) (fun c_3 => ?_)
  · refine s_bipush K dX7_roll_8 kib_m101 ?_
    exact s_iret K hret hlk rfl rfl dX7_roll_10
  · refine s_iload_n K dX7_roll_11 rfl 2 rfl ?_
    refine s_bind (fun q hq_5 => ?_)
    obtain ⟨r_4, rfl⟩ : ∃ z, z = q := ⟨_, rfl⟩
    refine s_callS0 (rest := []) (st1 := [.int r_4]) K (c_X7_isSide a2 hq_5) hd_X7_isSide t_299 t_300 t_1 t_301 ⟨(Nat.le_of_ble_eq_true rfl), (Nat.le_of_ble_eq_true rfl)⟩ ⟨rfl, rfl⟩ ⟨Nat.zero_le _, Nat.zero_le _⟩ rfl rfl (Nat.le_of_ble_eq_true rfl) dX7_roll_12 ?_
    refine s_if_ne (tgt := 21) K dX7_roll_15 (by decide) (fun c_6 => ?_) (fun c_6 => ?_)
    · refine s_bipush K dX7_roll_18 kib_m102 ?_
      exact s_iret K hret hlk rfl rfl dX7_roll_20
    · refine s_aload_n K dX7_roll_21 rfl 0 rfl ?_
      refine s_get K 0 rfl rfl inT7 1 (Nat.le_of_ble_eq_true rfl) t_145 rfl rfl dX7_roll_22 ?_
      refine s_iload_n K dX7_roll_25 rfl 1 rfl ?_
      refine s_iload_n K dX7_roll_26 rfl 2 rfl ?_
      refine s_bind (fun q hq_8 => ?_)
      obtain ⟨r_7, rfl⟩ : ∃ z, z = q := ⟨_, rfl⟩
      refine s_callV (w' := (wX cI cC cB cQ kc xh xp nh nd nb na kh kd kb ka th td tb ta gl ga gw ltr lrd srs bks img pag n_cnt n_wet n_stg n_dys n_dep n_knd n_siz n_plc n_onn n_axs k_cnt k_wet k_stg k_dys k_dep k_knd k_siz k_plc k_onn k_axs t_cnt t_wet t_stg t_dys t_dep t_knd t_siz t_plc t_onn t_axs l_gsz l_gsd l_gfw a_gfw a_gtg w_gwy w_grl w_gsz)) (rest := []) (st1 := [.int r_7]) K (c_X4_canRoll nh nd nb na n_cnt n_wet n_stg n_dys n_dep n_knd n_siz n_plc n_onn n_axs a1 a2 hq_8) rfl hd_X4_canRoll t_302 t_303 t_304 t_2 t_305 ⟨(Nat.le_of_ble_eq_true rfl), (Nat.le_of_ble_eq_true rfl)⟩ ⟨rfl, rfl⟩ ⟨Nat.zero_le _, Nat.zero_le _⟩ (rv_o K 2 rfl rfl) [2, 3, 4, 5, 6, 7, 8, 9] [0, 1, 10, 11, 12, 13, 14, 15, 16, 17, 18, 19, 20, 21, 22, 23, 24, 25, 26, 27, 28] [0, 1, 21, 22, 23, 24, 25, 26, 27, 28, 2, 3, 4, 5, 6, 7, 8, 9, 10, 11, 12, 13, 14, 15, 16, 17, 18, 19, 20] rfl rfl rfl rfl (by decide) rfl rfl rfl rfl (Nat.le_of_ble_eq_true rfl) dX7_roll_27 ?_
      refine s_if_ne (tgt := 36) K dX7_roll_30 (by decide) (fun c_9 => ?_) (fun c_9 => ?_)
      · refine s_bipush K dX7_roll_33 kib_m103 ?_
        exact s_iret K hret hlk rfl rfl dX7_roll_35
      · refine s_aload_n K dX7_roll_36 rfl 0 rfl ?_
        refine s_get K 0 rfl rfl inT7 1 (Nat.le_of_ble_eq_true rfl) t_145 rfl rfl dX7_roll_37 ?_
        refine s_iload_n K dX7_roll_40 rfl 1 rfl ?_
        refine s_iload_n K dX7_roll_41 rfl 2 rfl ?_
        refine s_bind (fun q hq_16 => ?_)
        obtain ⟨r_10, n_dep_11, n_siz_12, n_plc_13, n_onn_14, n_axs_15⟩ := q
        refine s_callV (w' := (wX cI cC cB cQ kc xh xp nh nd nb na kh kd kb ka th td tb ta gl ga gw ltr lrd srs bks img pag n_cnt n_wet n_stg n_dys n_dep_11 n_knd n_siz_12 n_plc_13 n_onn_14 n_axs_15 k_cnt k_wet k_stg k_dys k_dep k_knd k_siz k_plc k_onn k_axs t_cnt t_wet t_stg t_dys t_dep t_knd t_siz t_plc t_onn t_axs l_gsz l_gsd l_gfw a_gfw a_gtg w_gwy w_grl w_gsz)) (rest := []) (st1 := [.int r_10]) K (c_X4_push nh nd nb na n_cnt n_wet n_stg n_dys n_dep n_knd n_siz n_plc n_onn n_axs a1 a2 hq_16) rfl hd_X4_push t_334 t_335 t_336 t_2 t_337 ⟨(Nat.le_of_ble_eq_true rfl), (Nat.le_of_ble_eq_true rfl)⟩ ⟨rfl, rfl⟩ ⟨Nat.zero_le _, Nat.zero_le _⟩ (rv_o K 2 rfl rfl) [2, 3, 4, 5, 6, 7, 8, 9] [0, 1, 10, 11, 12, 13, 14, 15, 16, 17, 18, 19, 20, 21, 22, 23, 24, 25, 26, 27, 28] [0, 1, 21, 22, 23, 24, 25, 26, 27, 28, 2, 3, 4, 5, 6, 7, 8, 9, 10, 11, 12, 13, 14, 15, 16, 17, 18, 19, 20] rfl rfl rfl rfl (by decide) rfl rfl rfl rfl (Nat.le_of_ble_eq_true rfl) dX7_roll_42 ?_
        exact s_iret K hret hlk rfl rfl dX7_roll_45
set_option maxHeartbeats 4000000 in
set_option maxRecDepth 100000 in
theorem c_X7_lift {l : Launch} {D : va_G} {cI cC cB cQ : ClassId} {kc : Nat → Nat} {kt : Nat} (xh xp nh nd nb : Nat) (na : Nat → Nat) (kh kd kb : Nat) (ka : Nat → Nat) (th td tb : Nat) (ta : Nat → Nat) (gl ga gw : Nat) (ltr lrd srs bks img : Int32) (pag : Nat → Int32) (n_cnt n_wet n_stg n_dys : Int32) (n_dep : Nat → Int32) (n_knd : Nat → Nat) (n_siz n_plc n_onn n_axs : Nat → Int32) (k_cnt k_wet k_stg k_dys : Int32) (k_dep : Nat → Int32) (k_knd : Nat → Nat) (k_siz k_plc k_onn k_axs : Nat → Int32) (t_cnt t_wet t_stg t_dys : Int32) (t_dep : Nat → Int32) (t_knd : Nat → Nat) (t_siz t_plc t_onn t_axs : Nat → Int32) (l_gsz l_gsd l_gfw a_gfw a_gtg w_gwy w_grl w_gsz : Int32) (a1 a2 : Int32) {r : Int32 × (Nat → Int32) × (Nat → Int32)} (hF : f_X7_lift n_cnt n_stg n_knd n_siz n_plc n_onn a1 a2 = some r) : CT l D (tysOf cI cC cB cQ) kc kt yX7_lift cX7_lift 3 (some .int) ({ frames := 6, cells := 0, slots := 0, locals := 350 } : Room) [.ref xh, .int a1, .int a2] (wX cI cC cB cQ kc xh xp nh nd nb na kh kd kb ka th td tb ta gl ga gw ltr lrd srs bks img pag n_cnt n_wet n_stg n_dys n_dep n_knd n_siz n_plc n_onn n_axs k_cnt k_wet k_stg k_dys k_dep k_knd k_siz k_plc k_onn k_axs t_cnt t_wet t_stg t_dys t_dep t_knd t_siz t_plc t_onn t_axs l_gsz l_gsd l_gfw a_gfw a_gtg w_gwy w_grl w_gsz) ((fun (r : Int32 × (Nat → Int32) × (Nat → Int32)) => (wX cI cC cB cQ kc xh xp nh nd nb na kh kd kb ka th td tb ta gl ga gw ltr lrd srs bks img pag n_cnt n_wet n_stg n_dys n_dep n_knd n_siz (r.2.1) (r.2.2) n_axs k_cnt k_wet k_stg k_dys k_dep k_knd k_siz k_plc k_onn k_axs t_cnt t_wet t_stg t_dys t_dep t_knd t_siz t_plc t_onn t_axs l_gsz l_gsd l_gfw a_gfw a_gtg w_gwy w_grl w_gsz)) r) ((fun (r : Int32 × (Nat → Int32) × (Nat → Int32)) => some (.int (r.1))) r) := by
  refine CT.of (ww := (fun (r : Int32 × (Nat → Int32) × (Nat → Int32)) => (wX cI cC cB cQ kc xh xp nh nd nb na kh kd kb ka th td tb ta gl ga gw ltr lrd srs bks img pag n_cnt n_wet n_stg n_dys n_dep n_knd n_siz (r.2.1) (r.2.2) n_axs k_cnt k_wet k_stg k_dys k_dep k_knd k_siz k_plc k_onn k_axs t_cnt t_wet t_stg t_dys t_dep t_knd t_siz t_plc t_onn t_axs l_gsz l_gsd l_gfw a_gfw a_gtg w_gwy w_grl w_gsz))) (oo := (fun (r : Int32 × (Nat → Int32) × (Nat → Int32)) => some (.int (r.1)))) hF RX7 rfl rfl (Nat.le_of_ble_eq_true rfl) ?_
  intro p e s m args below meth c A K hret hlk
  rewrite [f_X7_lift]
  refine s_aload_n K dX7_lift_0 rfl 0 rfl ?_
  refine s_iload_n K dX7_lift_1 rfl 1 rfl ?_
  refine s_bind (fun q hq_2 => ?_)
  obtain ⟨r_1, rfl⟩ : ∃ z, z = q := ⟨_, rfl⟩
  refine s_callV (w' := (wX cI cC cB cQ kc xh xp nh nd nb na kh kd kb ka th td tb ta gl ga gw ltr lrd srs bks img pag n_cnt n_wet n_stg n_dys n_dep n_knd n_siz n_plc n_onn n_axs k_cnt k_wet k_stg k_dys k_dep k_knd k_siz k_plc k_onn k_axs t_cnt t_wet t_stg t_dys t_dep t_knd t_siz t_plc t_onn t_axs l_gsz l_gsd l_gfw a_gfw a_gtg w_gwy w_grl w_gsz)) (rest := []) (st1 := [.int r_1]) K (c_X7_isBall xh xp nh nd nb na kh kd kb ka th td tb ta gl ga gw ltr lrd srs bks img pag n_cnt n_wet n_stg n_dys n_dep n_knd n_siz n_plc n_onn n_axs k_cnt k_wet k_stg k_dys k_dep k_knd k_siz k_plc k_onn k_axs t_cnt t_wet t_stg t_dys t_dep t_knd t_siz t_plc t_onn t_axs l_gsz l_gsd l_gfw a_gfw a_gtg w_gwy w_grl w_gsz a1 hq_2) rfl hd_X7_isBall t_266 t_268 ts_1 t_1 t_269 ⟨(Nat.le_of_ble_eq_true rfl), (Nat.le_of_ble_eq_true rfl)⟩ ⟨rfl, rfl⟩ ⟨Nat.zero_le _, Nat.zero_le _⟩ (rv_o K 0 rfl rfl) [0, 1, 2, 3, 4, 5, 6, 7, 8, 9, 10, 11, 12, 13, 14, 15, 16, 17, 18, 19, 20, 21, 22, 23, 24, 25, 26, 27, 28] [] [0, 1, 2, 3, 4, 5, 6, 7, 8, 9, 10, 11, 12, 13, 14, 15, 16, 17, 18, 19, 20, 21, 22, 23, 24, 25, 26, 27, 28] rfl rfl rfl rfl (by decide) rfl rfl rfl rfl (Nat.le_of_ble_eq_true rfl) dX7_lift_2 ?_
  refine s_if_eq (tgt := 21) K dX7_lift_5 (by decide) (fun c_3 => ?_) (fun c_3 => ?_)
  · refine s_bipush K dX7_lift_21 kib_m101 ?_
    exact s_iret K hret hlk rfl rfl dX7_lift_23
  · refine s_aload_n K dX7_lift_8 rfl 0 rfl ?_
    refine s_iload_n K dX7_lift_9 rfl 2 rfl ?_
    refine s_bind (fun q hq_5 => ?_)
    obtain ⟨r_4, rfl⟩ : ∃ z, z = q := ⟨_, rfl⟩
    refine s_callV (w' := (wX cI cC cB cQ kc xh xp nh nd nb na kh kd kb ka th td tb ta gl ga gw ltr lrd srs bks img pag n_cnt n_wet n_stg n_dys n_dep n_knd n_siz n_plc n_onn n_axs k_cnt k_wet k_stg k_dys k_dep k_knd k_siz k_plc k_onn k_axs t_cnt t_wet t_stg t_dys t_dep t_knd t_siz t_plc t_onn t_axs l_gsz l_gsd l_gfw a_gfw a_gtg w_gwy w_grl w_gsz)) (rest := []) (st1 := [.int r_4]) K (c_X7_isBall xh xp nh nd nb na kh kd kb ka th td tb ta gl ga gw ltr lrd srs bks img pag n_cnt n_wet n_stg n_dys n_dep n_knd n_siz n_plc n_onn n_axs k_cnt k_wet k_stg k_dys k_dep k_knd k_siz k_plc k_onn k_axs t_cnt t_wet t_stg t_dys t_dep t_knd t_siz t_plc t_onn t_axs l_gsz l_gsd l_gfw a_gfw a_gtg w_gwy w_grl w_gsz a2 hq_5) rfl hd_X7_isBall t_266 t_268 ts_1 t_1 t_269 ⟨(Nat.le_of_ble_eq_true rfl), (Nat.le_of_ble_eq_true rfl)⟩ ⟨rfl, rfl⟩ ⟨Nat.zero_le _, Nat.zero_le _⟩ (rv_o K 0 rfl rfl) [0, 1, 2, 3, 4, 5, 6, 7, 8, 9, 10, 11, 12, 13, 14, 15, 16, 17, 18, 19, 20, 21, 22, 23, 24, 25, 26, 27, 28] [] [0, 1, 2, 3, 4, 5, 6, 7, 8, 9, 10, 11, 12, 13, 14, 15, 16, 17, 18, 19, 20, 21, 22, 23, 24, 25, 26, 27, 28] rfl rfl rfl rfl (by decide) rfl rfl rfl rfl (Nat.le_of_ble_eq_true rfl) dX7_lift_10 ?_
    refine s_if_eq (tgt := 21) K dX7_lift_13 (by decide) (fun c_6 => ?_) (fun c_6 => ?_)
    · refine s_bipush K dX7_lift_21 kib_m101 ?_
      exact s_iret K hret hlk rfl rfl dX7_lift_23
    · refine s_iload_n K dX7_lift_16 rfl 1 rfl ?_
      refine s_iload_n K dX7_lift_17 rfl 2 rfl ?_
      refine s_icmp_ne (tgt := 24) K dX7_lift_18 (by decide) (fun c_7 => ?_) (fun c_7 => ?_)
      · refine s_bipush K dX7_lift_21 kib_m101 ?_
        exact s_iret K hret hlk rfl rfl dX7_lift_23
      · refine s_aload_n K dX7_lift_24 rfl 0 rfl ?_
        refine s_get K 0 rfl rfl inT7 1 (Nat.le_of_ble_eq_true rfl) t_145 rfl rfl dX7_lift_25 ?_
        refine s_iload_n K dX7_lift_28 rfl 1 rfl ?_
        refine s_iload_n K dX7_lift_29 rfl 2 rfl ?_
        refine s_bind (fun q hq_9 => ?_)
        obtain ⟨r_8, rfl⟩ : ∃ z, z = q := ⟨_, rfl⟩
        refine s_callV (w' := (wX cI cC cB cQ kc xh xp nh nd nb na kh kd kb ka th td tb ta gl ga gw ltr lrd srs bks img pag n_cnt n_wet n_stg n_dys n_dep n_knd n_siz n_plc n_onn n_axs k_cnt k_wet k_stg k_dys k_dep k_knd k_siz k_plc k_onn k_axs t_cnt t_wet t_stg t_dys t_dep t_knd t_siz t_plc t_onn t_axs l_gsz l_gsd l_gfw a_gfw a_gtg w_gwy w_grl w_gsz)) (rest := []) (st1 := [.int r_8]) K (c_X4_canLift nh nd nb na n_cnt n_wet n_stg n_dys n_dep n_knd n_siz n_plc n_onn n_axs a1 a2 hq_9) rfl hd_X4_canLift t_367 t_368 t_369 t_2 t_370 ⟨(Nat.le_of_ble_eq_true rfl), (Nat.le_of_ble_eq_true rfl)⟩ ⟨rfl, rfl⟩ ⟨Nat.zero_le _, Nat.zero_le _⟩ (rv_o K 2 rfl rfl) [2, 3, 4, 5, 6, 7, 8, 9] [0, 1, 10, 11, 12, 13, 14, 15, 16, 17, 18, 19, 20, 21, 22, 23, 24, 25, 26, 27, 28] [0, 1, 21, 22, 23, 24, 25, 26, 27, 28, 2, 3, 4, 5, 6, 7, 8, 9, 10, 11, 12, 13, 14, 15, 16, 17, 18, 19, 20] rfl rfl rfl rfl (by decide) rfl rfl rfl rfl (Nat.le_of_ble_eq_true rfl) dX7_lift_30 ?_
        refine s_if_ne (tgt := 39) K dX7_lift_33 (by decide) (fun c_10 => ?_) (fun c_10 => ?_)
        · refine s_bipush K dX7_lift_36 kib_m103 ?_
          exact s_iret K hret hlk rfl rfl dX7_lift_38
        · refine s_aload_n K dX7_lift_39 rfl 0 rfl ?_
          refine s_get K 0 rfl rfl inT7 1 (Nat.le_of_ble_eq_true rfl) t_145 rfl rfl dX7_lift_40 ?_
          refine s_iload_n K dX7_lift_43 rfl 1 rfl ?_
          refine s_iload_n K dX7_lift_44 rfl 2 rfl ?_
          refine s_bind (fun q hq_14 => ?_)
          obtain ⟨r_11, n_plc_12, n_onn_13⟩ := q
          refine s_callV (w' := (wX cI cC cB cQ kc xh xp nh nd nb na kh kd kb ka th td tb ta gl ga gw ltr lrd srs bks img pag n_cnt n_wet n_stg n_dys n_dep n_knd n_siz n_plc_12 n_onn_13 n_axs k_cnt k_wet k_stg k_dys k_dep k_knd k_siz k_plc k_onn k_axs t_cnt t_wet t_stg t_dys t_dep t_knd t_siz t_plc t_onn t_axs l_gsz l_gsd l_gfw a_gfw a_gtg w_gwy w_grl w_gsz)) (rest := []) (st1 := [.int r_11]) K (c_X4_raise nh nd nb na n_cnt n_wet n_stg n_dys n_dep n_knd n_siz n_plc n_onn n_axs a1 a2 hq_14) rfl hd_X4_raise t_375 t_376 t_377 t_2 t_378 ⟨(Nat.le_of_ble_eq_true rfl), (Nat.le_of_ble_eq_true rfl)⟩ ⟨rfl, rfl⟩ ⟨Nat.zero_le _, Nat.zero_le _⟩ (rv_o K 2 rfl rfl) [2, 3, 4, 5, 6, 7, 8, 9] [0, 1, 10, 11, 12, 13, 14, 15, 16, 17, 18, 19, 20, 21, 22, 23, 24, 25, 26, 27, 28] [0, 1, 21, 22, 23, 24, 25, 26, 27, 28, 2, 3, 4, 5, 6, 7, 8, 9, 10, 11, 12, 13, 14, 15, 16, 17, 18, 19, 20] rfl rfl rfl rfl (by decide) rfl rfl rfl rfl (Nat.le_of_ble_eq_true rfl) dX7_lift_45 ?_
          exact s_iret K hret hlk rfl rfl dX7_lift_48
set_option maxHeartbeats 4000000 in
set_option maxRecDepth 100000 in
theorem c_X7_day {l : Launch} {D : va_G} {cI cC cB cQ : ClassId} {kc : Nat → Nat} {kt : Nat} (xh xp nh nd nb : Nat) (na : Nat → Nat) (kh kd kb : Nat) (ka : Nat → Nat) (th td tb : Nat) (ta : Nat → Nat) (gl ga gw : Nat) (ltr lrd srs bks img : Int32) (pag : Nat → Int32) (n_cnt n_wet n_stg n_dys : Int32) (n_dep : Nat → Int32) (n_knd : Nat → Nat) (n_siz n_plc n_onn n_axs : Nat → Int32) (k_cnt k_wet k_stg k_dys : Int32) (k_dep : Nat → Int32) (k_knd : Nat → Nat) (k_siz k_plc k_onn k_axs : Nat → Int32) (t_cnt t_wet t_stg t_dys : Int32) (t_dep : Nat → Int32) (t_knd : Nat → Nat) (t_siz t_plc t_onn t_axs : Nat → Int32) (l_gsz l_gsd l_gfw a_gfw a_gtg w_gwy w_grl w_gsz : Int32) (a1 : Int32) {r : Int32 × Int32 × (Nat → Int32) × (Nat → Int32) × (Nat → Int32)} (hF : f_X7_day lrd n_cnt n_dys n_knd n_siz n_plc n_onn a1 = some r) : CT l D (tysOf cI cC cB cQ) kc kt yX7_day cX7_day 2 (some .int) ({ frames := 3, cells := 0, slots := 0, locals := 168 } : Room) [.ref xh, .int a1] (wX cI cC cB cQ kc xh xp nh nd nb na kh kd kb ka th td tb ta gl ga gw ltr lrd srs bks img pag n_cnt n_wet n_stg n_dys n_dep n_knd n_siz n_plc n_onn n_axs k_cnt k_wet k_stg k_dys k_dep k_knd k_siz k_plc k_onn k_axs t_cnt t_wet t_stg t_dys t_dep t_knd t_siz t_plc t_onn t_axs l_gsz l_gsd l_gfw a_gfw a_gtg w_gwy w_grl w_gsz) ((fun (r : Int32 × Int32 × (Nat → Int32) × (Nat → Int32) × (Nat → Int32)) => (wX cI cC cB cQ kc xh xp nh nd nb na kh kd kb ka th td tb ta gl ga gw ltr lrd srs bks img pag n_cnt n_wet n_stg (r.2.1) n_dep n_knd (r.2.2.1) (r.2.2.2.1) (r.2.2.2.2) n_axs k_cnt k_wet k_stg k_dys k_dep k_knd k_siz k_plc k_onn k_axs t_cnt t_wet t_stg t_dys t_dep t_knd t_siz t_plc t_onn t_axs l_gsz l_gsd l_gfw a_gfw a_gtg w_gwy w_grl w_gsz)) r) ((fun (r : Int32 × Int32 × (Nat → Int32) × (Nat → Int32) × (Nat → Int32)) => some (.int (r.1))) r) := by
  refine CT.of (ww := (fun (r : Int32 × Int32 × (Nat → Int32) × (Nat → Int32) × (Nat → Int32)) => (wX cI cC cB cQ kc xh xp nh nd nb na kh kd kb ka th td tb ta gl ga gw ltr lrd srs bks img pag n_cnt n_wet n_stg (r.2.1) n_dep n_knd (r.2.2.1) (r.2.2.2.1) (r.2.2.2.2) n_axs k_cnt k_wet k_stg k_dys k_dep k_knd k_siz k_plc k_onn k_axs t_cnt t_wet t_stg t_dys t_dep t_knd t_siz t_plc t_onn t_axs l_gsz l_gsd l_gfw a_gfw a_gtg w_gwy w_grl w_gsz))) (oo := (fun (r : Int32 × Int32 × (Nat → Int32) × (Nat → Int32) × (Nat → Int32)) => some (.int (r.1)))) hF RX7 rfl rfl (Nat.le_of_ble_eq_true rfl) ?_
  intro p e s m args below meth c A K hret hlk
  rewrite [f_X7_day]
  refine s_iload_n K dX7_day_0 rfl 1 rfl ?_
  refine s_iconst K dX7_day_1 kic_0 ?_
  refine s_bipush K dX7_day_2 kib_9 ?_
  refine s_bind (fun q hq_2 => ?_)
  obtain ⟨r_1, rfl⟩ : ∃ z, z = q := ⟨_, rfl⟩
  refine s_callS0 (rest := []) (st1 := [.int r_1]) K (c_X7_isOutside a1 0 9 hq_2) hd_X7_isOutside t_185 t_186 t_1 t_187 ⟨(Nat.le_of_ble_eq_true rfl), (Nat.le_of_ble_eq_true rfl)⟩ ⟨rfl, rfl⟩ ⟨Nat.zero_le _, Nat.zero_le _⟩ rfl rfl (Nat.le_of_ble_eq_true rfl) dX7_day_4 ?_
  refine s_if_eq (tgt := 13) K dX7_day_7 (by decide) (fun c_3 => ?_) (fun c_3 => ?_)
  · refine s_aload_n K dX7_day_13 rfl 0 rfl ?_
    refine s_bind (fun q hq_5 => ?_)
    obtain ⟨r_4, rfl⟩ : ∃ z, z = q := ⟨_, rfl⟩
    refine s_callV (w' := (wX cI cC cB cQ kc xh xp nh nd nb na kh kd kb ka th td tb ta gl ga gw ltr lrd srs bks img pag n_cnt n_wet n_stg n_dys n_dep n_knd n_siz n_plc n_onn n_axs k_cnt k_wet k_stg k_dys k_dep k_knd k_siz k_plc k_onn k_axs t_cnt t_wet t_stg t_dys t_dep t_knd t_siz t_plc t_onn t_axs l_gsz l_gsd l_gfw a_gfw a_gtg w_gwy w_grl w_gsz)) (rest := []) (st1 := [.int r_4]) K (c_X7_hasLawn xh xp nh nd nb na kh kd kb ka th td tb ta gl ga gw ltr lrd srs bks img pag n_cnt n_wet n_stg n_dys n_dep n_knd n_siz n_plc n_onn n_axs k_cnt k_wet k_stg k_dys k_dep k_knd k_siz k_plc k_onn k_axs t_cnt t_wet t_stg t_dys t_dep t_knd t_siz t_plc t_onn t_axs l_gsz l_gsd l_gfw a_gfw a_gtg w_gwy w_grl w_gsz hq_5) rfl hd_X7_hasLawn t_222 t_224 ts_0 t_1 t_225 ⟨(Nat.le_of_ble_eq_true rfl), (Nat.le_of_ble_eq_true rfl)⟩ ⟨rfl, rfl⟩ ⟨Nat.zero_le _, Nat.zero_le _⟩ (rv_o K 0 rfl rfl) [0, 1, 2, 3, 4, 5, 6, 7, 8, 9, 10, 11, 12, 13, 14, 15, 16, 17, 18, 19, 20, 21, 22, 23, 24, 25, 26, 27, 28] [] [0, 1, 2, 3, 4, 5, 6, 7, 8, 9, 10, 11, 12, 13, 14, 15, 16, 17, 18, 19, 20, 21, 22, 23, 24, 25, 26, 27, 28] rfl rfl rfl rfl (by decide) rfl rfl rfl rfl (Nat.le_of_ble_eq_true rfl) dX7_day_14 ?_
    refine s_if_ne (tgt := 23) K dX7_day_17 (by decide) (fun c_6 => ?_) (fun c_6 => ?_)
    · refine s_bipush K dX7_day_20 kib_m103 ?_
      exact s_iret K hret hlk rfl rfl dX7_day_22
    · refine s_aload_n K dX7_day_23 rfl 0 rfl ?_
      refine s_get K 0 rfl rfl inT7 1 (Nat.le_of_ble_eq_true rfl) t_145 rfl rfl dX7_day_24 ?_
      refine s_iload_n K dX7_day_27 rfl 1 rfl ?_
      refine s_bind (fun q hq_12 => ?_)
      obtain ⟨r_7, n_dys_8, n_siz_9, n_plc_10, n_onn_11⟩ := q
      refine s_callV (w' := (wX cI cC cB cQ kc xh xp nh nd nb na kh kd kb ka th td tb ta gl ga gw ltr lrd srs bks img pag n_cnt n_wet n_stg n_dys_8 n_dep n_knd n_siz_9 n_plc_10 n_onn_11 n_axs k_cnt k_wet k_stg k_dys k_dep k_knd k_siz k_plc k_onn k_axs t_cnt t_wet t_stg t_dys t_dep t_knd t_siz t_plc t_onn t_axs l_gsz l_gsd l_gfw a_gfw a_gtg w_gwy w_grl w_gsz)) (rest := []) (st1 := [.int r_7]) K (c_X4_melt nh nd nb na n_cnt n_wet n_stg n_dys n_dep n_knd n_siz n_plc n_onn n_axs a1 hq_12) rfl hd_X4_melt t_384 t_385 t_386 t_2 t_387 ⟨(Nat.le_of_ble_eq_true rfl), (Nat.le_of_ble_eq_true rfl)⟩ ⟨rfl, rfl⟩ ⟨Nat.zero_le _, Nat.zero_le _⟩ (rv_o K 2 rfl rfl) [2, 3, 4, 5, 6, 7, 8, 9] [0, 1, 10, 11, 12, 13, 14, 15, 16, 17, 18, 19, 20, 21, 22, 23, 24, 25, 26, 27, 28] [0, 1, 21, 22, 23, 24, 25, 26, 27, 28, 2, 3, 4, 5, 6, 7, 8, 9, 10, 11, 12, 13, 14, 15, 16, 17, 18, 19, 20] rfl rfl rfl rfl (by decide) rfl rfl rfl rfl (Nat.le_of_ble_eq_true rfl) dX7_day_28 ?_
      exact s_iret K hret hlk rfl rfl dX7_day_31
  · refine s_bipush K dX7_day_10 kib_m102 ?_
    exact s_iret K hret hlk rfl rfl dX7_day_12
set_option maxHeartbeats 4000000 in
set_option maxRecDepth 100000 in
theorem c_X7_maySearch {l : Launch} {D : va_G} {cI cC cB cQ : ClassId} {kc : Nat → Nat} {kt : Nat} (xh xp nh nd nb : Nat) (na : Nat → Nat) (kh kd kb : Nat) (ka : Nat → Nat) (th td tb : Nat) (ta : Nat → Nat) (gl ga gw : Nat) (ltr lrd srs bks img : Int32) (pag : Nat → Int32) (n_cnt n_wet n_stg n_dys : Int32) (n_dep : Nat → Int32) (n_knd : Nat → Nat) (n_siz n_plc n_onn n_axs : Nat → Int32) (k_cnt k_wet k_stg k_dys : Int32) (k_dep : Nat → Int32) (k_knd : Nat → Nat) (k_siz k_plc k_onn k_axs : Nat → Int32) (t_cnt t_wet t_stg t_dys : Int32) (t_dep : Nat → Int32) (t_knd : Nat → Nat) (t_siz t_plc t_onn t_axs : Nat → Int32) (l_gsz l_gsd l_gfw a_gfw a_gtg w_gwy w_grl w_gsz : Int32) (a1 : Int32) {r : Int32} (hF : f_X7_maySearch srs n_siz a1 = some r) : CT l D (tysOf cI cC cB cQ) kc kt yX7_maySearch cX7_maySearch 2 (some .boolean) ({ frames := 2, cells := 0, slots := 0, locals := 100 } : Room) [.ref xh, .int a1] (wX cI cC cB cQ kc xh xp nh nd nb na kh kd kb ka th td tb ta gl ga gw ltr lrd srs bks img pag n_cnt n_wet n_stg n_dys n_dep n_knd n_siz n_plc n_onn n_axs k_cnt k_wet k_stg k_dys k_dep k_knd k_siz k_plc k_onn k_axs t_cnt t_wet t_stg t_dys t_dep t_knd t_siz t_plc t_onn t_axs l_gsz l_gsd l_gfw a_gfw a_gtg w_gwy w_grl w_gsz) ((fun (r : Int32) => (wX cI cC cB cQ kc xh xp nh nd nb na kh kd kb ka th td tb ta gl ga gw ltr lrd srs bks img pag n_cnt n_wet n_stg n_dys n_dep n_knd n_siz n_plc n_onn n_axs k_cnt k_wet k_stg k_dys k_dep k_knd k_siz k_plc k_onn k_axs t_cnt t_wet t_stg t_dys t_dep t_knd t_siz t_plc t_onn t_axs l_gsz l_gsd l_gfw a_gfw a_gtg w_gwy w_grl w_gsz)) r) ((fun (r : Int32) => some (.int r)) r) := by
  refine CT.of (ww := (fun (r : Int32) => (wX cI cC cB cQ kc xh xp nh nd nb na kh kd kb ka th td tb ta gl ga gw ltr lrd srs bks img pag n_cnt n_wet n_stg n_dys n_dep n_knd n_siz n_plc n_onn n_axs k_cnt k_wet k_stg k_dys k_dep k_knd k_siz k_plc k_onn k_axs t_cnt t_wet t_stg t_dys t_dep t_knd t_siz t_plc t_onn t_axs l_gsz l_gsd l_gfw a_gfw a_gtg w_gwy w_grl w_gsz))) (oo := (fun (r : Int32) => some (.int r))) hF RX7 rfl rfl (Nat.le_of_ble_eq_true rfl) ?_
  intro p e s m args below meth c A K hret hlk
  rewrite [f_X7_maySearch]
  refine s_aload_n K dX7_maySearch_0 rfl 0 rfl ?_
  refine s_get K 0 rfl rfl inT7 1 (Nat.le_of_ble_eq_true rfl) t_145 rfl rfl dX7_maySearch_1 ?_
  refine s_get K 2 rfl rfl inT4 1 (Nat.le_of_ble_eq_true rfl) t_70 rfl rfl dX7_maySearch_4 ?_
  refine s_iload_n K dX7_maySearch_7 rfl 1 rfl ?_
  refine s_ck (fun ho_1 => ?_)
  refine s_aldb K 4 3 rfl rfl (ok_in ho_1) rfl dX7_maySearch_8 ?_
  refine s_bind (fun q hq_3 => ?_)
  obtain ⟨r_2, rfl⟩ : ∃ z, z = q := ⟨_, rfl⟩
  refine s_callV (w' := (wX cI cC cB cQ kc xh xp nh nd nb na kh kd kb ka th td tb ta gl ga gw ltr lrd srs bks img pag n_cnt n_wet n_stg n_dys n_dep n_knd n_siz n_plc n_onn n_axs k_cnt k_wet k_stg k_dys k_dep k_knd k_siz k_plc k_onn k_axs t_cnt t_wet t_stg t_dys t_dep t_knd t_siz t_plc t_onn t_axs l_gsz l_gsd l_gfw a_gfw a_gtg w_gwy w_grl w_gsz)) (rest := []) (st1 := [.int r_2]) K (c_X1_isGone na n_knd n_siz n_plc n_onn n_axs (Int32.toNatClampNeg a1) (vp_lt (ok_in ho_1)) hq_3) rfl hd_X1_isGone t_404 t_311 t_312 t_3 t_313 ⟨(Nat.le_of_ble_eq_true rfl), (Nat.le_of_ble_eq_true rfl)⟩ ⟨rfl, rfl⟩ ⟨Nat.zero_le _, Nat.zero_le _⟩ (rv_o K (5 + (Int32.toNatClampNeg a1)) (gX_5 (vp_lt (ok_in ho_1))) rfl) [5, 6, 7, 8, 9] [0, 1, 2, 3, 4, 10, 11, 12, 13, 14, 15, 16, 17, 18, 19, 20, 21, 22, 23, 24, 25, 26, 27, 28] [0, 1, 2, 3, 4, 24, 25, 26, 27, 28, 5, 6, 7, 8, 9, 10, 11, 12, 13, 14, 15, 16, 17, 18, 19, 20, 21, 22, 23] rfl rfl rfl rfl (by decide) rfl rfl rfl rfl (Nat.le_of_ble_eq_true rfl) dX7_maySearch_9 ?_
  refine s_if_ne (tgt := 28) K dX7_maySearch_12 (by decide) (fun c_4 => ?_) (fun c_4 => ?_)
  · refine s_aload_n K dX7_maySearch_15 rfl 0 rfl ?_
    refine s_get K 0 rfl rfl inT7 9 (Nat.le_of_ble_eq_true rfl) t_153 rfl rfl dX7_maySearch_16 ?_
    refine s_bipush K dX7_maySearch_19 kib_60 ?_
    refine s_icmp_ge (tgt := 28) K dX7_maySearch_21 (by decide) (fun c_5 => ?_) (fun c_5 => ?_)
    · refine s_iconst K dX7_maySearch_28 kic_0 ?_
      exact s_zret K hret hlk rfl rfl rfl dX7_maySearch_29
    · refine s_iconst K dX7_maySearch_24 kic_1 ?_
      refine s_goto (tgt := 29) K dX7_maySearch_25 (by decide) ?_
      exact s_zret K hret hlk rfl rfl rfl dX7_maySearch_29
  · refine s_iconst K dX7_maySearch_28 kic_0 ?_
    exact s_zret K hret hlk rfl rfl rfl dX7_maySearch_29
set_option maxHeartbeats 4000000 in
set_option maxRecDepth 100000 in
theorem c_X7_largest {l : Launch} {D : va_G} {cI cC cB cQ : ClassId} {kc : Nat → Nat} {kt : Nat} (xh xp nh nd nb : Nat) (na : Nat → Nat) (kh kd kb : Nat) (ka : Nat → Nat) (th td tb : Nat) (ta : Nat → Nat) (gl ga gw : Nat) (ltr lrd srs bks img : Int32) (pag : Nat → Int32) (n_cnt n_wet n_stg n_dys : Int32) (n_dep : Nat → Int32) (n_knd : Nat → Nat) (n_siz n_plc n_onn n_axs : Nat → Int32) (k_cnt k_wet k_stg k_dys : Int32) (k_dep : Nat → Int32) (k_knd : Nat → Nat) (k_siz k_plc k_onn k_axs : Nat → Int32) (t_cnt t_wet t_stg t_dys : Int32) (t_dep : Nat → Int32) (t_knd : Nat → Nat) (t_siz t_plc t_onn t_axs : Nat → Int32) (l_gsz l_gsd l_gfw a_gfw a_gtg w_gwy w_grl w_gsz : Int32) (a1 a2 a3 : Int32) {r : Int32 × Int32 × Int32 × Int32 × Int32 × Int32 × (Nat → Int32) × (Nat → Nat) × (Nat → Int32) × (Nat → Int32) × (Nat → Int32) × (Nat → Int32) × Int32 × Int32 × Int32} (hF : f_X7_largest srs n_cnt n_wet n_stg n_dys n_dep n_knd n_siz n_plc n_onn n_axs t_cnt t_wet t_stg t_dys t_dep t_knd t_siz t_plc t_onn t_axs l_gsz l_gsd l_gfw a1 a2 a3 = some r) : CT l D (tysOf cI cC cB cQ) kc kt yX7_largest cX7_largest 4 (some .int) ({ frames := 28, cells := 0, slots := 0, locals := 2272 } : Room) [.ref xh, .int a1, .int a2, .int a3] (wX cI cC cB cQ kc xh xp nh nd nb na kh kd kb ka th td tb ta gl ga gw ltr lrd srs bks img pag n_cnt n_wet n_stg n_dys n_dep n_knd n_siz n_plc n_onn n_axs k_cnt k_wet k_stg k_dys k_dep k_knd k_siz k_plc k_onn k_axs t_cnt t_wet t_stg t_dys t_dep t_knd t_siz t_plc t_onn t_axs l_gsz l_gsd l_gfw a_gfw a_gtg w_gwy w_grl w_gsz) ((fun (r : Int32 × Int32 × Int32 × Int32 × Int32 × Int32 × (Nat → Int32) × (Nat → Nat) × (Nat → Int32) × (Nat → Int32) × (Nat → Int32) × (Nat → Int32) × Int32 × Int32 × Int32) => (wX cI cC cB cQ kc xh xp nh nd nb na kh kd kb ka th td tb ta gl ga gw ltr lrd (r.2.1) bks img pag n_cnt n_wet n_stg n_dys n_dep n_knd n_siz n_plc n_onn n_axs k_cnt k_wet k_stg k_dys k_dep k_knd k_siz k_plc k_onn k_axs (r.2.2.1) (r.2.2.2.1) (r.2.2.2.2.1) (r.2.2.2.2.2.1) (r.2.2.2.2.2.2.1) (r.2.2.2.2.2.2.2.1) (r.2.2.2.2.2.2.2.2.1) (r.2.2.2.2.2.2.2.2.2.1) (r.2.2.2.2.2.2.2.2.2.2.1) (r.2.2.2.2.2.2.2.2.2.2.2.1) (r.2.2.2.2.2.2.2.2.2.2.2.2.1) (r.2.2.2.2.2.2.2.2.2.2.2.2.2.1) (r.2.2.2.2.2.2.2.2.2.2.2.2.2.2) a_gfw a_gtg w_gwy w_grl w_gsz)) r) ((fun (r : Int32 × Int32 × Int32 × Int32 × Int32 × Int32 × (Nat → Int32) × (Nat → Nat) × (Nat → Int32) × (Nat → Int32) × (Nat → Int32) × (Nat → Int32) × Int32 × Int32 × Int32) => some (.int (r.1))) r) := by
  refine CT.of (ww := (fun (r : Int32 × Int32 × Int32 × Int32 × Int32 × Int32 × (Nat → Int32) × (Nat → Nat) × (Nat → Int32) × (Nat → Int32) × (Nat → Int32) × (Nat → Int32) × Int32 × Int32 × Int32) => (wX cI cC cB cQ kc xh xp nh nd nb na kh kd kb ka th td tb ta gl ga gw ltr lrd (r.2.1) bks img pag n_cnt n_wet n_stg n_dys n_dep n_knd n_siz n_plc n_onn n_axs k_cnt k_wet k_stg k_dys k_dep k_knd k_siz k_plc k_onn k_axs (r.2.2.1) (r.2.2.2.1) (r.2.2.2.2.1) (r.2.2.2.2.2.1) (r.2.2.2.2.2.2.1) (r.2.2.2.2.2.2.2.1) (r.2.2.2.2.2.2.2.2.1) (r.2.2.2.2.2.2.2.2.2.1) (r.2.2.2.2.2.2.2.2.2.2.1) (r.2.2.2.2.2.2.2.2.2.2.2.1) (r.2.2.2.2.2.2.2.2.2.2.2.2.1) (r.2.2.2.2.2.2.2.2.2.2.2.2.2.1) (r.2.2.2.2.2.2.2.2.2.2.2.2.2.2) a_gfw a_gtg w_gwy w_grl w_gsz))) (oo := (fun (r : Int32 × Int32 × Int32 × Int32 × Int32 × Int32 × (Nat → Int32) × (Nat → Nat) × (Nat → Int32) × (Nat → Int32) × (Nat → Int32) × (Nat → Int32) × Int32 × Int32 × Int32) => some (.int (r.1)))) hF RX7 rfl rfl (Nat.le_of_ble_eq_true rfl) ?_
  intro p e s m args below meth c A K hret hlk
  rewrite [f_X7_largest]
  refine s_aload_n K dX7_largest_0 rfl 0 rfl ?_
  refine s_iload_n K dX7_largest_1 rfl 1 rfl ?_
  refine s_bind (fun q hq_2 => ?_)
  obtain ⟨r_1, rfl⟩ : ∃ z, z = q := ⟨_, rfl⟩
  refine s_callV (w' := (wX cI cC cB cQ kc xh xp nh nd nb na kh kd kb ka th td tb ta gl ga gw ltr lrd srs bks img pag n_cnt n_wet n_stg n_dys n_dep n_knd n_siz n_plc n_onn n_axs k_cnt k_wet k_stg k_dys k_dep k_knd k_siz k_plc k_onn k_axs t_cnt t_wet t_stg t_dys t_dep t_knd t_siz t_plc t_onn t_axs l_gsz l_gsd l_gfw a_gfw a_gtg w_gwy w_grl w_gsz)) (rest := []) (st1 := [.int r_1]) K (c_X7_isBall xh xp nh nd nb na kh kd kb ka th td tb ta gl ga gw ltr lrd srs bks img pag n_cnt n_wet n_stg n_dys n_dep n_knd n_siz n_plc n_onn n_axs k_cnt k_wet k_stg k_dys k_dep k_knd k_siz k_plc k_onn k_axs t_cnt t_wet t_stg t_dys t_dep t_knd t_siz t_plc t_onn t_axs l_gsz l_gsd l_gfw a_gfw a_gtg w_gwy w_grl w_gsz a1 hq_2) rfl hd_X7_isBall t_266 t_268 ts_1 t_1 t_269 ⟨(Nat.le_of_ble_eq_true rfl), (Nat.le_of_ble_eq_true rfl)⟩ ⟨rfl, rfl⟩ ⟨Nat.zero_le _, Nat.zero_le _⟩ (rv_o K 0 rfl rfl) [0, 1, 2, 3, 4, 5, 6, 7, 8, 9, 10, 11, 12, 13, 14, 15, 16, 17, 18, 19, 20, 21, 22, 23, 24, 25, 26, 27, 28] [] [0, 1, 2, 3, 4, 5, 6, 7, 8, 9, 10, 11, 12, 13, 14, 15, 16, 17, 18, 19, 20, 21, 22, 23, 24, 25, 26, 27, 28] rfl rfl rfl rfl (by decide) rfl rfl rfl rfl (Nat.le_of_ble_eq_true rfl) dX7_largest_2 ?_
  refine s_if_ne (tgt := 11) K dX7_largest_5 (by decide) (fun c_3 => ?_) (fun c_3 => ?_)
  · refine s_bipush K dX7_largest_8 kib_m101 ?_
    exact s_iret K hret hlk rfl rfl dX7_largest_10
  · refine s_iload_n K dX7_largest_11 rfl 2 rfl ?_
    refine s_iconst K dX7_largest_12 kic_0 ?_
    refine s_bipush K dX7_largest_13 kib_6 ?_
    refine s_bind (fun q hq_5 => ?_)
    obtain ⟨r_4, rfl⟩ : ∃ z, z = q := ⟨_, rfl⟩
    refine s_callS0 (rest := []) (st1 := [.int r_4]) K (c_X7_isOutside a2 0 6 hq_5) hd_X7_isOutside t_185 t_186 t_1 t_187 ⟨(Nat.le_of_ble_eq_true rfl), (Nat.le_of_ble_eq_true rfl)⟩ ⟨rfl, rfl⟩ ⟨Nat.zero_le _, Nat.zero_le _⟩ rfl rfl (Nat.le_of_ble_eq_true rfl) dX7_largest_15 ?_
    refine s_if_ne (tgt := 30) K dX7_largest_18 (by decide) (fun c_6 => ?_) (fun c_6 => ?_)
    · refine s_iload_n K dX7_largest_21 rfl 3 rfl ?_
      refine s_iconst K dX7_largest_22 kic_0 ?_
      refine s_iconst K dX7_largest_23 kic_1 ?_
      refine s_bind (fun q hq_8 => ?_)
      obtain ⟨r_7, rfl⟩ : ∃ z, z = q := ⟨_, rfl⟩
      refine s_callS0 (rest := []) (st1 := [.int r_7]) K (c_X7_isOutside a3 0 1 hq_8) hd_X7_isOutside t_185 t_186 t_1 t_187 ⟨(Nat.le_of_ble_eq_true rfl), (Nat.le_of_ble_eq_true rfl)⟩ ⟨rfl, rfl⟩ ⟨Nat.zero_le _, Nat.zero_le _⟩ rfl rfl (Nat.le_of_ble_eq_true rfl) dX7_largest_24 ?_
      refine s_if_eq (tgt := 33) K dX7_largest_27 (by decide) (fun c_9 => ?_) (fun c_9 => ?_)
      · refine s_aload_n K dX7_largest_33 rfl 0 rfl ?_
        refine s_iload_n K dX7_largest_34 rfl 1 rfl ?_
        refine s_bind (fun q hq_11 => ?_)
        obtain ⟨r_10, rfl⟩ : ∃ z, z = q := ⟨_, rfl⟩
        refine s_callV (w' := (wX cI cC cB cQ kc xh xp nh nd nb na kh kd kb ka th td tb ta gl ga gw ltr lrd srs bks img pag n_cnt n_wet n_stg n_dys n_dep n_knd n_siz n_plc n_onn n_axs k_cnt k_wet k_stg k_dys k_dep k_knd k_siz k_plc k_onn k_axs t_cnt t_wet t_stg t_dys t_dep t_knd t_siz t_plc t_onn t_axs l_gsz l_gsd l_gfw a_gfw a_gtg w_gwy w_grl w_gsz)) (rest := []) (st1 := [.int r_10]) K (c_X7_maySearch xh xp nh nd nb na kh kd kb ka th td tb ta gl ga gw ltr lrd srs bks img pag n_cnt n_wet n_stg n_dys n_dep n_knd n_siz n_plc n_onn n_axs k_cnt k_wet k_stg k_dys k_dep k_knd k_siz k_plc k_onn k_axs t_cnt t_wet t_stg t_dys t_dep t_knd t_siz t_plc t_onn t_axs l_gsz l_gsd l_gfw a_gfw a_gtg w_gwy w_grl w_gsz a1 hq_11) rfl hd_X7_maySearch t_400 t_402 ts_3 t_1 t_403 ⟨(Nat.le_of_ble_eq_true rfl), (Nat.le_of_ble_eq_true rfl)⟩ ⟨rfl, rfl⟩ ⟨Nat.zero_le _, Nat.zero_le _⟩ (rv_o K 0 rfl rfl) [0, 1, 2, 3, 4, 5, 6, 7, 8, 9, 10, 11, 12, 13, 14, 15, 16, 17, 18, 19, 20, 21, 22, 23, 24, 25, 26, 27, 28] [] [0, 1, 2, 3, 4, 5, 6, 7, 8, 9, 10, 11, 12, 13, 14, 15, 16, 17, 18, 19, 20, 21, 22, 23, 24, 25, 26, 27, 28] rfl rfl rfl rfl (by decide) rfl rfl rfl rfl (Nat.le_of_ble_eq_true rfl) dX7_largest_35 ?_
        refine s_if_ne (tgt := 44) K dX7_largest_38 (by decide) (fun c_12 => ?_) (fun c_12 => ?_)
        · refine s_bipush K dX7_largest_41 kib_m103 ?_
          exact s_iret K hret hlk rfl rfl dX7_largest_43
        · refine s_aload_n K dX7_largest_44 rfl 0 rfl ?_
          refine s_dup K dX7_largest_45 rfl ?_
          refine s_get K 0 rfl rfl inT7 9 (Nat.le_of_ble_eq_true rfl) t_153 rfl rfl dX7_largest_46 ?_
          refine s_iconst K dX7_largest_49 kic_1 ?_
          refine s_iadd K dX7_largest_50 ?_
          refine s_put (w' := (wX cI cC cB cQ kc xh xp nh nd nb na kh kd kb ka th td tb ta gl ga gw ltr lrd (srs + 1) bks img pag n_cnt n_wet n_stg n_dys n_dep n_knd n_siz n_plc n_onn n_axs k_cnt k_wet k_stg k_dys k_dep k_knd k_siz k_plc k_onn k_axs t_cnt t_wet t_stg t_dys t_dep t_knd t_siz t_plc t_onn t_axs l_gsz l_gsd l_gfw a_gfw a_gtg w_gwy w_grl w_gsz)) K 0 rfl rfl inT7 tyX7_ok nmX7 9 (Nat.le_of_ble_eq_true rfl) t_153 rfl rfl rfl rfl (Nat.le_of_ble_eq_true rfl) rfl dX7_largest_51 ?_
          refine s_aload_n K dX7_largest_54 rfl 0 rfl ?_
          refine s_get K 0 rfl rfl inT7 4 (Nat.le_of_ble_eq_true rfl) t_148 rfl rfl dX7_largest_55 ?_
          refine s_bind (fun q hq_16 => ?_)
          obtain ⟨l_gsz_13, l_gsd_14, l_gfw_15⟩ := q
          refine s_callV (w' := (wX cI cC cB cQ kc xh xp nh nd nb na kh kd kb ka th td tb ta gl ga gw ltr lrd (srs + 1) bks img pag n_cnt n_wet n_stg n_dys n_dep n_knd n_siz n_plc n_onn n_axs k_cnt k_wet k_stg k_dys k_dep k_knd k_siz k_plc k_onn k_axs t_cnt t_wet t_stg t_dys t_dep t_knd t_siz t_plc t_onn t_axs l_gsz_13 l_gsd_14 l_gfw_15 a_gfw a_gtg w_gwy w_grl w_gsz)) (rest := []) (st1 := []) K (c_X3_begin gl l_gsz l_gsd l_gfw hq_16) rfl hd_X3_begin t_405 t_406 t_407 t_7 t_408 ⟨(Nat.le_of_ble_eq_true rfl), (Nat.le_of_ble_eq_true rfl)⟩ ⟨rfl, rfl⟩ ⟨Nat.zero_le _, Nat.zero_le _⟩ (rv_o K 26 rfl rfl) [26] [0, 1, 2, 3, 4, 5, 6, 7, 8, 9, 10, 11, 12, 13, 14, 15, 16, 17, 18, 19, 20, 21, 22, 23, 24, 25, 27, 28] [0, 1, 2, 3, 4, 5, 6, 7, 8, 9, 10, 11, 12, 13, 14, 15, 16, 17, 18, 19, 20, 21, 22, 23, 24, 25, 28, 26, 27] rfl rfl rfl rfl (by decide) rfl rfl rfl rfl (Nat.le_of_ble_eq_true rfl) dX7_largest_58 ?_
          refine s_aload_n K dX7_largest_61 rfl 0 rfl ?_
          refine s_get K 0 rfl rfl inT7 3 (Nat.le_of_ble_eq_true rfl) t_147 rfl rfl dX7_largest_62 ?_
          refine s_aload_n K dX7_largest_65 rfl 0 rfl ?_
          refine s_get K 0 rfl rfl inT7 1 (Nat.le_of_ble_eq_true rfl) t_145 rfl rfl dX7_largest_66 ?_
          refine s_bind (fun q hq_27 => ?_)
          obtain ⟨t_cnt_17, t_wet_18, t_stg_19, t_dys_20, t_dep_21, t_knd_22, t_siz_23, t_plc_24, t_onn_25, t_axs_26⟩ := q
          refine s_callV (w' := (wX cI cC cB cQ kc xh xp nh nd nb na kh kd kb ka th td tb ta gl ga gw ltr lrd (srs + 1) bks img pag n_cnt n_wet n_stg n_dys n_dep n_knd n_siz n_plc n_onn n_axs k_cnt k_wet k_stg k_dys k_dep k_knd k_siz k_plc k_onn k_axs t_cnt_17 t_wet_18 t_stg_19 t_dys_20 t_dep_21 t_knd_22 t_siz_23 t_plc_24 t_onn_25 t_axs_26 l_gsz_13 l_gsd_14 l_gfw_15 a_gfw a_gtg w_gwy w_grl w_gsz)) (rest := []) (st1 := []) K (c_X4_copyFrom th td tb ta nh nd nb na t_cnt t_wet t_stg t_dys t_dep t_knd t_siz t_plc t_onn t_axs n_cnt n_wet n_stg n_dys n_dep n_knd n_siz n_plc n_onn n_axs hq_27) rfl hd_X4_copyFrom t_409 t_410 t_411 t_2 t_412 ⟨(Nat.le_of_ble_eq_true rfl), (Nat.le_of_ble_eq_true rfl)⟩ ⟨rfl, rfl⟩ ⟨Nat.zero_le _, Nat.zero_le _⟩ (rv_o K 18 rfl rfl) [18, 19, 20, 21, 22, 23, 24, 25, 2, 3, 4, 5, 6, 7, 8, 9] [0, 1, 10, 11, 12, 13, 14, 15, 16, 17, 26, 27, 28] [0, 1, 21, 22, 23, 24, 25, 26, 27, 28, 2, 3, 4, 5, 6, 7, 8, 9, 13, 14, 15, 16, 17, 18, 19, 20, 10, 11, 12] rfl rfl rfl rfl (by decide) rfl rfl rfl rfl (Nat.le_of_ble_eq_true rfl) dX7_largest_69 ?_
          refine s_aload_n K dX7_largest_72 rfl 0 rfl ?_
          refine s_get K 0 rfl rfl inT7 3 (Nat.le_of_ble_eq_true rfl) t_147 rfl rfl dX7_largest_73 ?_
          refine s_iload_n K dX7_largest_76 rfl 1 rfl ?_
          refine s_aload_n K dX7_largest_77 rfl 0 rfl ?_
          refine s_get K 0 rfl rfl inT7 4 (Nat.le_of_ble_eq_true rfl) t_148 rfl rfl dX7_largest_78 ?_
          refine s_iload_n K dX7_largest_81 rfl 2 rfl ?_
          refine s_iconst K dX7_largest_82 kic_0 ?_
          refine s_iconst K dX7_largest_83 kic_m1 ?_
          refine s_bind (fun q hq_36 => ?_)
          obtain ⟨t_dep_28, t_siz_29, t_plc_30, t_onn_31, t_axs_32, l_gsz_33, l_gsd_34, l_gfw_35⟩ := q
          refine s_callS (w' := (wX cI cC cB cQ kc xh xp nh nd nb na kh kd kb ka th td tb ta gl ga gw ltr lrd (srs + 1) bks img pag n_cnt n_wet n_stg n_dys n_dep n_knd n_siz n_plc n_onn n_axs k_cnt k_wet k_stg k_dys k_dep k_knd k_siz k_plc k_onn k_axs t_cnt_17 t_wet_18 t_stg_19 t_dys_20 t_dep_28 t_knd_22 t_siz_29 t_plc_30 t_onn_31 t_axs_32 l_gsz_33 l_gsd_34 l_gfw_35 a_gfw a_gtg w_gwy w_grl w_gsz)) (rest := []) (st1 := []) K (c_X7_explore_L th td tb ta gl t_cnt_17 t_wet_18 t_stg_19 t_dys_20 t_dep_21 t_knd_22 t_siz_23 t_plc_24 t_onn_25 t_axs_26 l_gsz_13 l_gsd_14 l_gfw_15 a1 a2 0 (-1) hq_36) hd_X7_explore t_417 t_418 t_1 t_419 ⟨(Nat.le_of_ble_eq_true rfl), (Nat.le_of_ble_eq_true rfl)⟩ ⟨rfl, rfl⟩ ⟨Nat.zero_le _, Nat.zero_le _⟩ [18, 19, 20, 21, 22, 23, 24, 25, 26] [0, 1, 2, 3, 4, 5, 6, 7, 8, 9, 10, 11, 12, 13, 14, 15, 16, 17, 27, 28] [0, 1, 2, 3, 4, 5, 6, 7, 8, 9, 10, 11, 12, 13, 14, 15, 16, 17, 20, 21, 22, 23, 24, 25, 26, 27, 28, 18, 19] rfl rfl rfl rfl (by decide) rfl rfl rfl rfl (Nat.le_of_ble_eq_true rfl) dX7_largest_84 ?_
          refine s_iload_n K dX7_largest_87 rfl 3 rfl ?_
          refine s_if_ne (tgt := 101) K dX7_largest_88 (by decide) (fun c_37 => ?_) (fun c_37 => ?_)
          · refine s_aload_n K dX7_largest_91 rfl 0 rfl ?_
            refine s_get K 0 rfl rfl inT7 4 (Nat.le_of_ble_eq_true rfl) t_148 rfl rfl dX7_largest_92 ?_
            refine s_get K 26 rfl rfl inT3 0 (Nat.le_of_ble_eq_true rfl) t_102 rfl rfl dX7_largest_95 ?_
            refine s_goto (tgt := 108) K dX7_largest_98 (by decide) ?_
            exact s_iret K hret hlk rfl rfl dX7_largest_108
          · refine s_aload_n K dX7_largest_101 rfl 0 rfl ?_
            refine s_get K 0 rfl rfl inT7 4 (Nat.le_of_ble_eq_true rfl) t_148 rfl rfl dX7_largest_102 ?_
            refine s_get K 26 rfl rfl inT3 1 (Nat.le_of_ble_eq_true rfl) t_104 rfl rfl dX7_largest_105 ?_
            exact s_iret K hret hlk rfl rfl dX7_largest_108
      · refine s_bipush K dX7_largest_30 kib_m102 ?_
        exact s_iret K hret hlk rfl rfl dX7_largest_32
    · refine s_bipush K dX7_largest_30 kib_m102 ?_
      exact s_iret K hret hlk rfl rfl dX7_largest_32
set_option maxHeartbeats 4000000 in
set_option maxRecDepth 100000 in
theorem c_X7_comes {l : Launch} {D : va_G} {cI cC cB cQ : ClassId} {kc : Nat → Nat} {kt : Nat} (xh xp nh nd nb : Nat) (na : Nat → Nat) (kh kd kb : Nat) (ka : Nat → Nat) (th td tb : Nat) (ta : Nat → Nat) (gl ga gw : Nat) (ltr lrd srs bks img : Int32) (pag : Nat → Int32) (n_cnt n_wet n_stg n_dys : Int32) (n_dep : Nat → Int32) (n_knd : Nat → Nat) (n_siz n_plc n_onn n_axs : Nat → Int32) (k_cnt k_wet k_stg k_dys : Int32) (k_dep : Nat → Int32) (k_knd : Nat → Nat) (k_siz k_plc k_onn k_axs : Nat → Int32) (t_cnt t_wet t_stg t_dys : Int32) (t_dep : Nat → Int32) (t_knd : Nat → Nat) (t_siz t_plc t_onn t_axs : Nat → Int32) (l_gsz l_gsd l_gfw a_gfw a_gtg w_gwy w_grl w_gsz : Int32) (a1 a2 : Int32) {r : Int32 × Int32 × Int32 × Int32 × Int32 × Int32 × (Nat → Int32) × (Nat → Nat) × (Nat → Int32) × (Nat → Int32) × (Nat → Int32) × (Nat → Int32) × Int32 × Int32} (hF : f_X7_comes srs n_cnt n_wet n_stg n_dys n_dep n_knd n_siz n_plc n_onn n_axs t_cnt t_wet t_stg t_dys t_dep t_knd t_siz t_plc t_onn t_axs a_gfw a_gtg a1 a2 = some r) : CT l D (tysOf cI cC cB cQ) kc kt yX7_comes cX7_comes 3 (some .int) ({ frames := 28, cells := 0, slots := 0, locals := 2272 } : Room) [.ref xh, .int a1, .int a2] (wX cI cC cB cQ kc xh xp nh nd nb na kh kd kb ka th td tb ta gl ga gw ltr lrd srs bks img pag n_cnt n_wet n_stg n_dys n_dep n_knd n_siz n_plc n_onn n_axs k_cnt k_wet k_stg k_dys k_dep k_knd k_siz k_plc k_onn k_axs t_cnt t_wet t_stg t_dys t_dep t_knd t_siz t_plc t_onn t_axs l_gsz l_gsd l_gfw a_gfw a_gtg w_gwy w_grl w_gsz) ((fun (r : Int32 × Int32 × Int32 × Int32 × Int32 × Int32 × (Nat → Int32) × (Nat → Nat) × (Nat → Int32) × (Nat → Int32) × (Nat → Int32) × (Nat → Int32) × Int32 × Int32) => (wX cI cC cB cQ kc xh xp nh nd nb na kh kd kb ka th td tb ta gl ga gw ltr lrd (r.2.1) bks img pag n_cnt n_wet n_stg n_dys n_dep n_knd n_siz n_plc n_onn n_axs k_cnt k_wet k_stg k_dys k_dep k_knd k_siz k_plc k_onn k_axs (r.2.2.1) (r.2.2.2.1) (r.2.2.2.2.1) (r.2.2.2.2.2.1) (r.2.2.2.2.2.2.1) (r.2.2.2.2.2.2.2.1) (r.2.2.2.2.2.2.2.2.1) (r.2.2.2.2.2.2.2.2.2.1) (r.2.2.2.2.2.2.2.2.2.2.1) (r.2.2.2.2.2.2.2.2.2.2.2.1) l_gsz l_gsd l_gfw (r.2.2.2.2.2.2.2.2.2.2.2.2.1) (r.2.2.2.2.2.2.2.2.2.2.2.2.2) w_gwy w_grl w_gsz)) r) ((fun (r : Int32 × Int32 × Int32 × Int32 × Int32 × Int32 × (Nat → Int32) × (Nat → Nat) × (Nat → Int32) × (Nat → Int32) × (Nat → Int32) × (Nat → Int32) × Int32 × Int32) => some (.int (r.1))) r) := by
  refine CT.of (ww := (fun (r : Int32 × Int32 × Int32 × Int32 × Int32 × Int32 × (Nat → Int32) × (Nat → Nat) × (Nat → Int32) × (Nat → Int32) × (Nat → Int32) × (Nat → Int32) × Int32 × Int32) => (wX cI cC cB cQ kc xh xp nh nd nb na kh kd kb ka th td tb ta gl ga gw ltr lrd (r.2.1) bks img pag n_cnt n_wet n_stg n_dys n_dep n_knd n_siz n_plc n_onn n_axs k_cnt k_wet k_stg k_dys k_dep k_knd k_siz k_plc k_onn k_axs (r.2.2.1) (r.2.2.2.1) (r.2.2.2.2.1) (r.2.2.2.2.2.1) (r.2.2.2.2.2.2.1) (r.2.2.2.2.2.2.2.1) (r.2.2.2.2.2.2.2.2.1) (r.2.2.2.2.2.2.2.2.2.1) (r.2.2.2.2.2.2.2.2.2.2.1) (r.2.2.2.2.2.2.2.2.2.2.2.1) l_gsz l_gsd l_gfw (r.2.2.2.2.2.2.2.2.2.2.2.2.1) (r.2.2.2.2.2.2.2.2.2.2.2.2.2) w_gwy w_grl w_gsz))) (oo := (fun (r : Int32 × Int32 × Int32 × Int32 × Int32 × Int32 × (Nat → Int32) × (Nat → Nat) × (Nat → Int32) × (Nat → Int32) × (Nat → Int32) × (Nat → Int32) × Int32 × Int32) => some (.int (r.1)))) hF RX7 rfl rfl (Nat.le_of_ble_eq_true rfl) ?_
  intro p e s m args below meth c A K hret hlk
  rewrite [f_X7_comes]
  refine s_aload_n K dX7_comes_0 rfl 0 rfl ?_
  refine s_iload_n K dX7_comes_1 rfl 1 rfl ?_
  refine s_bind (fun q hq_2 => ?_)
  obtain ⟨r_1, rfl⟩ : ∃ z, z = q := ⟨_, rfl⟩
  refine s_callV (w' := (wX cI cC cB cQ kc xh xp nh nd nb na kh kd kb ka th td tb ta gl ga gw ltr lrd srs bks img pag n_cnt n_wet n_stg n_dys n_dep n_knd n_siz n_plc n_onn n_axs k_cnt k_wet k_stg k_dys k_dep k_knd k_siz k_plc k_onn k_axs t_cnt t_wet t_stg t_dys t_dep t_knd t_siz t_plc t_onn t_axs l_gsz l_gsd l_gfw a_gfw a_gtg w_gwy w_grl w_gsz)) (rest := []) (st1 := [.int r_1]) K (c_X7_isBall xh xp nh nd nb na kh kd kb ka th td tb ta gl ga gw ltr lrd srs bks img pag n_cnt n_wet n_stg n_dys n_dep n_knd n_siz n_plc n_onn n_axs k_cnt k_wet k_stg k_dys k_dep k_knd k_siz k_plc k_onn k_axs t_cnt t_wet t_stg t_dys t_dep t_knd t_siz t_plc t_onn t_axs l_gsz l_gsd l_gfw a_gfw a_gtg w_gwy w_grl w_gsz a1 hq_2) rfl hd_X7_isBall t_266 t_268 ts_1 t_1 t_269 ⟨(Nat.le_of_ble_eq_true rfl), (Nat.le_of_ble_eq_true rfl)⟩ ⟨rfl, rfl⟩ ⟨Nat.zero_le _, Nat.zero_le _⟩ (rv_o K 0 rfl rfl) [0, 1, 2, 3, 4, 5, 6, 7, 8, 9, 10, 11, 12, 13, 14, 15, 16, 17, 18, 19, 20, 21, 22, 23, 24, 25, 26, 27, 28] [] [0, 1, 2, 3, 4, 5, 6, 7, 8, 9, 10, 11, 12, 13, 14, 15, 16, 17, 18, 19, 20, 21, 22, 23, 24, 25, 26, 27, 28] rfl rfl rfl rfl (by decide) rfl rfl rfl rfl (Nat.le_of_ble_eq_true rfl) dX7_comes_2 ?_
  refine s_if_eq (tgt := 15) K dX7_comes_5 (by decide) (fun c_3 => ?_) (fun c_3 => ?_)
  · refine s_bipush K dX7_comes_15 kib_m101 ?_
    exact s_iret K hret hlk rfl rfl dX7_comes_17
  · refine s_iload_n K dX7_comes_8 rfl 2 rfl ?_
    refine s_bind (fun q hq_5 => ?_)
    obtain ⟨r_4, rfl⟩ : ∃ z, z = q := ⟨_, rfl⟩
    refine s_callS0 (rest := []) (st1 := [.int r_4]) K (c_X7_isPlace a2 hq_5) hd_X7_isPlace t_219 t_220 t_1 t_221 ⟨(Nat.le_of_ble_eq_true rfl), (Nat.le_of_ble_eq_true rfl)⟩ ⟨rfl, rfl⟩ ⟨Nat.zero_le _, Nat.zero_le _⟩ rfl rfl (Nat.le_of_ble_eq_true rfl) dX7_comes_9 ?_
    refine s_if_ne (tgt := 18) K dX7_comes_12 (by decide) (fun c_6 => ?_) (fun c_6 => ?_)
    · refine s_bipush K dX7_comes_15 kib_m101 ?_
      exact s_iret K hret hlk rfl rfl dX7_comes_17
    · refine s_aload_n K dX7_comes_18 rfl 0 rfl ?_
      refine s_iload_n K dX7_comes_19 rfl 1 rfl ?_
      refine s_bind (fun q hq_8 => ?_)
      obtain ⟨r_7, rfl⟩ : ∃ z, z = q := ⟨_, rfl⟩
      refine s_callV (w' := (wX cI cC cB cQ kc xh xp nh nd nb na kh kd kb ka th td tb ta gl ga gw ltr lrd srs bks img pag n_cnt n_wet n_stg n_dys n_dep n_knd n_siz n_plc n_onn n_axs k_cnt k_wet k_stg k_dys k_dep k_knd k_siz k_plc k_onn k_axs t_cnt t_wet t_stg t_dys t_dep t_knd t_siz t_plc t_onn t_axs l_gsz l_gsd l_gfw a_gfw a_gtg w_gwy w_grl w_gsz)) (rest := []) (st1 := [.int r_7]) K (c_X7_maySearch xh xp nh nd nb na kh kd kb ka th td tb ta gl ga gw ltr lrd srs bks img pag n_cnt n_wet n_stg n_dys n_dep n_knd n_siz n_plc n_onn n_axs k_cnt k_wet k_stg k_dys k_dep k_knd k_siz k_plc k_onn k_axs t_cnt t_wet t_stg t_dys t_dep t_knd t_siz t_plc t_onn t_axs l_gsz l_gsd l_gfw a_gfw a_gtg w_gwy w_grl w_gsz a1 hq_8) rfl hd_X7_maySearch t_400 t_402 ts_3 t_1 t_403 ⟨(Nat.le_of_ble_eq_true rfl), (Nat.le_of_ble_eq_true rfl)⟩ ⟨rfl, rfl⟩ ⟨Nat.zero_le _, Nat.zero_le _⟩ (rv_o K 0 rfl rfl) [0, 1, 2, 3, 4, 5, 6, 7, 8, 9, 10, 11, 12, 13, 14, 15, 16, 17, 18, 19, 20, 21, 22, 23, 24, 25, 26, 27, 28] [] [0, 1, 2, 3, 4, 5, 6, 7, 8, 9, 10, 11, 12, 13, 14, 15, 16, 17, 18, 19, 20, 21, 22, 23, 24, 25, 26, 27, 28] rfl rfl rfl rfl (by decide) rfl rfl rfl rfl (Nat.le_of_ble_eq_true rfl) dX7_comes_20 ?_
      refine s_if_ne (tgt := 29) K dX7_comes_23 (by decide) (fun c_9 => ?_) (fun c_9 => ?_)
      · refine s_bipush K dX7_comes_26 kib_m103 ?_
        exact s_iret K hret hlk rfl rfl dX7_comes_28
      · refine s_aload_n K dX7_comes_29 rfl 0 rfl ?_
        refine s_dup K dX7_comes_30 rfl ?_
        refine s_get K 0 rfl rfl inT7 9 (Nat.le_of_ble_eq_true rfl) t_153 rfl rfl dX7_comes_31 ?_
        refine s_iconst K dX7_comes_34 kic_1 ?_
        refine s_iadd K dX7_comes_35 ?_
        refine s_put (w' := (wX cI cC cB cQ kc xh xp nh nd nb na kh kd kb ka th td tb ta gl ga gw ltr lrd (srs + 1) bks img pag n_cnt n_wet n_stg n_dys n_dep n_knd n_siz n_plc n_onn n_axs k_cnt k_wet k_stg k_dys k_dep k_knd k_siz k_plc k_onn k_axs t_cnt t_wet t_stg t_dys t_dep t_knd t_siz t_plc t_onn t_axs l_gsz l_gsd l_gfw a_gfw a_gtg w_gwy w_grl w_gsz)) K 0 rfl rfl inT7 tyX7_ok nmX7 9 (Nat.le_of_ble_eq_true rfl) t_153 rfl rfl rfl rfl (Nat.le_of_ble_eq_true rfl) rfl dX7_comes_36 ?_
        refine s_aload_n K dX7_comes_39 rfl 0 rfl ?_
        refine s_get K 0 rfl rfl inT7 5 (Nat.le_of_ble_eq_true rfl) t_149 rfl rfl dX7_comes_40 ?_
        refine s_iload_n K dX7_comes_43 rfl 2 rfl ?_
        refine s_bind (fun q hq_12 => ?_)
        obtain ⟨a_gfw_10, a_gtg_11⟩ := q
        refine s_callV (w' := (wX cI cC cB cQ kc xh xp nh nd nb na kh kd kb ka th td tb ta gl ga gw ltr lrd (srs + 1) bks img pag n_cnt n_wet n_stg n_dys n_dep n_knd n_siz n_plc n_onn n_axs k_cnt k_wet k_stg k_dys k_dep k_knd k_siz k_plc k_onn k_axs t_cnt t_wet t_stg t_dys t_dep t_knd t_siz t_plc t_onn t_axs l_gsz l_gsd l_gfw a_gfw_10 a_gtg_11 w_gwy w_grl w_gsz)) (rest := []) (st1 := []) K (c_X0_begin ga a_gfw a_gtg a2 hq_12) rfl hd_X0_begin t_436 t_437 t_438 t_8 t_439 ⟨(Nat.le_of_ble_eq_true rfl), (Nat.le_of_ble_eq_true rfl)⟩ ⟨rfl, rfl⟩ ⟨Nat.zero_le _, Nat.zero_le _⟩ (rv_o K 27 rfl rfl) [27] [0, 1, 2, 3, 4, 5, 6, 7, 8, 9, 10, 11, 12, 13, 14, 15, 16, 17, 18, 19, 20, 21, 22, 23, 24, 25, 26, 28] [0, 1, 2, 3, 4, 5, 6, 7, 8, 9, 10, 11, 12, 13, 14, 15, 16, 17, 18, 19, 20, 21, 22, 23, 24, 25, 26, 28, 27] rfl rfl rfl rfl (by decide) rfl rfl rfl rfl (Nat.le_of_ble_eq_true rfl) dX7_comes_44 ?_
        refine s_aload_n K dX7_comes_47 rfl 0 rfl ?_
        refine s_get K 0 rfl rfl inT7 3 (Nat.le_of_ble_eq_true rfl) t_147 rfl rfl dX7_comes_48 ?_
        refine s_aload_n K dX7_comes_51 rfl 0 rfl ?_
        refine s_get K 0 rfl rfl inT7 1 (Nat.le_of_ble_eq_true rfl) t_145 rfl rfl dX7_comes_52 ?_
        refine s_bind (fun q hq_23 => ?_)
        obtain ⟨t_cnt_13, t_wet_14, t_stg_15, t_dys_16, t_dep_17, t_knd_18, t_siz_19, t_plc_20, t_onn_21, t_axs_22⟩ := q
        refine s_callV (w' := (wX cI cC cB cQ kc xh xp nh nd nb na kh kd kb ka th td tb ta gl ga gw ltr lrd (srs + 1) bks img pag n_cnt n_wet n_stg n_dys n_dep n_knd n_siz n_plc n_onn n_axs k_cnt k_wet k_stg k_dys k_dep k_knd k_siz k_plc k_onn k_axs t_cnt_13 t_wet_14 t_stg_15 t_dys_16 t_dep_17 t_knd_18 t_siz_19 t_plc_20 t_onn_21 t_axs_22 l_gsz l_gsd l_gfw a_gfw_10 a_gtg_11 w_gwy w_grl w_gsz)) (rest := []) (st1 := []) K (c_X4_copyFrom th td tb ta nh nd nb na t_cnt t_wet t_stg t_dys t_dep t_knd t_siz t_plc t_onn t_axs n_cnt n_wet n_stg n_dys n_dep n_knd n_siz n_plc n_onn n_axs hq_23) rfl hd_X4_copyFrom t_409 t_410 t_411 t_2 t_412 ⟨(Nat.le_of_ble_eq_true rfl), (Nat.le_of_ble_eq_true rfl)⟩ ⟨rfl, rfl⟩ ⟨Nat.zero_le _, Nat.zero_le _⟩ (rv_o K 18 rfl rfl) [18, 19, 20, 21, 22, 23, 24, 25, 2, 3, 4, 5, 6, 7, 8, 9] [0, 1, 10, 11, 12, 13, 14, 15, 16, 17, 26, 27, 28] [0, 1, 21, 22, 23, 24, 25, 26, 27, 28, 2, 3, 4, 5, 6, 7, 8, 9, 13, 14, 15, 16, 17, 18, 19, 20, 10, 11, 12] rfl rfl rfl rfl (by decide) rfl rfl rfl rfl (Nat.le_of_ble_eq_true rfl) dX7_comes_55 ?_
        refine s_aload_n K dX7_comes_58 rfl 0 rfl ?_
        refine s_get K 0 rfl rfl inT7 3 (Nat.le_of_ble_eq_true rfl) t_147 rfl rfl dX7_comes_59 ?_
        refine s_iload_n K dX7_comes_62 rfl 1 rfl ?_
        refine s_aload_n K dX7_comes_63 rfl 0 rfl ?_
        refine s_get K 0 rfl rfl inT7 5 (Nat.le_of_ble_eq_true rfl) t_149 rfl rfl dX7_comes_64 ?_
        refine s_bipush K dX7_comes_67 kib_6 ?_
        refine s_iconst K dX7_comes_69 kic_0 ?_
        refine s_iconst K dX7_comes_70 kic_m1 ?_
        refine s_bind (fun q hq_30 => ?_)
        obtain ⟨t_dep_24, t_siz_25, t_plc_26, t_onn_27, t_axs_28, a_gfw_29⟩ := q
        refine s_callS (w' := (wX cI cC cB cQ kc xh xp nh nd nb na kh kd kb ka th td tb ta gl ga gw ltr lrd (srs + 1) bks img pag n_cnt n_wet n_stg n_dys n_dep n_knd n_siz n_plc n_onn n_axs k_cnt k_wet k_stg k_dys k_dep k_knd k_siz k_plc k_onn k_axs t_cnt_13 t_wet_14 t_stg_15 t_dys_16 t_dep_24 t_knd_18 t_siz_25 t_plc_26 t_onn_27 t_axs_28 l_gsz l_gsd l_gfw a_gfw_29 a_gtg_11 w_gwy w_grl w_gsz)) (rest := []) (st1 := []) K (c_X7_explore_A th td tb ta ga t_cnt_13 t_wet_14 t_stg_15 t_dys_16 t_dep_17 t_knd_18 t_siz_19 t_plc_20 t_onn_21 t_axs_22 a_gfw_10 a_gtg_11 a1 6 0 (-1) hq_30) hd_X7_explore t_417 t_418 t_1 t_419 ⟨(Nat.le_of_ble_eq_true rfl), (Nat.le_of_ble_eq_true rfl)⟩ ⟨rfl, rfl⟩ ⟨Nat.zero_le _, Nat.zero_le _⟩ [18, 19, 20, 21, 22, 23, 24, 25, 27] [0, 1, 2, 3, 4, 5, 6, 7, 8, 9, 10, 11, 12, 13, 14, 15, 16, 17, 26, 28] [0, 1, 2, 3, 4, 5, 6, 7, 8, 9, 10, 11, 12, 13, 14, 15, 16, 17, 20, 21, 22, 23, 24, 25, 26, 27, 18, 28, 19] rfl rfl rfl rfl (by decide) rfl rfl rfl rfl (Nat.le_of_ble_eq_true rfl) dX7_comes_71 ?_
        refine s_aload_n K dX7_comes_74 rfl 0 rfl ?_
        refine s_get K 0 rfl rfl inT7 5 (Nat.le_of_ble_eq_true rfl) t_149 rfl rfl dX7_comes_75 ?_
        refine s_get K 27 rfl rfl inT0 0 (Nat.le_of_ble_eq_true rfl) t_120 rfl rfl dX7_comes_78 ?_
        exact s_iret K hret hlk rfl rfl dX7_comes_81
set_option maxHeartbeats 4000000 in
set_option maxRecDepth 100000 in
theorem c_X7_highest {l : Launch} {D : va_G} {cI cC cB cQ : ClassId} {kc : Nat → Nat} {kt : Nat} (xh xp nh nd nb : Nat) (na : Nat → Nat) (kh kd kb : Nat) (ka : Nat → Nat) (th td tb : Nat) (ta : Nat → Nat) (gl ga gw : Nat) (ltr lrd srs bks img : Int32) (pag : Nat → Int32) (n_cnt n_wet n_stg n_dys : Int32) (n_dep : Nat → Int32) (n_knd : Nat → Nat) (n_siz n_plc n_onn n_axs : Nat → Int32) (k_cnt k_wet k_stg k_dys : Int32) (k_dep : Nat → Int32) (k_knd : Nat → Nat) (k_siz k_plc k_onn k_axs : Nat → Int32) (t_cnt t_wet t_stg t_dys : Int32) (t_dep : Nat → Int32) (t_knd : Nat → Nat) (t_siz t_plc t_onn t_axs : Nat → Int32) (l_gsz l_gsd l_gfw a_gfw a_gtg w_gwy w_grl w_gsz : Int32) (a1 : Int32) {r : Int32} (hF : f_X7_highest n_cnt n_stg n_knd n_siz a1 = some r) : CT l D (tysOf cI cC cB cQ) kc kt yX7_highest cX7_highest 3 (some .int) ({ frames := 6, cells := 0, slots := 0, locals := 351 } : Room) [.ref xh, .int a1] (wX cI cC cB cQ kc xh xp nh nd nb na kh kd kb ka th td tb ta gl ga gw ltr lrd srs bks img pag n_cnt n_wet n_stg n_dys n_dep n_knd n_siz n_plc n_onn n_axs k_cnt k_wet k_stg k_dys k_dep k_knd k_siz k_plc k_onn k_axs t_cnt t_wet t_stg t_dys t_dep t_knd t_siz t_plc t_onn t_axs l_gsz l_gsd l_gfw a_gfw a_gtg w_gwy w_grl w_gsz) ((fun (r : Int32) => (wX cI cC cB cQ kc xh xp nh nd nb na kh kd kb ka th td tb ta gl ga gw ltr lrd srs bks img pag n_cnt n_wet n_stg n_dys n_dep n_knd n_siz n_plc n_onn n_axs k_cnt k_wet k_stg k_dys k_dep k_knd k_siz k_plc k_onn k_axs t_cnt t_wet t_stg t_dys t_dep t_knd t_siz t_plc t_onn t_axs l_gsz l_gsd l_gfw a_gfw a_gtg w_gwy w_grl w_gsz)) r) ((fun (r : Int32) => some (.int r)) r) := by
  refine CT.of (ww := (fun (r : Int32) => (wX cI cC cB cQ kc xh xp nh nd nb na kh kd kb ka th td tb ta gl ga gw ltr lrd srs bks img pag n_cnt n_wet n_stg n_dys n_dep n_knd n_siz n_plc n_onn n_axs k_cnt k_wet k_stg k_dys k_dep k_knd k_siz k_plc k_onn k_axs t_cnt t_wet t_stg t_dys t_dep t_knd t_siz t_plc t_onn t_axs l_gsz l_gsd l_gfw a_gfw a_gtg w_gwy w_grl w_gsz))) (oo := (fun (r : Int32) => some (.int r))) hF RX7 rfl rfl (Nat.le_of_ble_eq_true rfl) ?_
  intro p e s m args below meth c A K hret hlk
  rewrite [f_X7_highest]
  refine s_iload_n K dX7_highest_0 rfl 1 rfl ?_
  refine s_iconst K dX7_highest_1 kic_0 ?_
  refine s_iconst K dX7_highest_2 kic_1 ?_
  refine s_bind (fun q hq_2 => ?_)
  obtain ⟨r_1, rfl⟩ : ∃ z, z = q := ⟨_, rfl⟩
  refine s_callS0 (rest := []) (st1 := [.int r_1]) K (c_X7_isOutside a1 0 1 hq_2) hd_X7_isOutside t_185 t_186 t_1 t_187 ⟨(Nat.le_of_ble_eq_true rfl), (Nat.le_of_ble_eq_true rfl)⟩ ⟨rfl, rfl⟩ ⟨Nat.zero_le _, Nat.zero_le _⟩ rfl rfl (Nat.le_of_ble_eq_true rfl) dX7_highest_3 ?_
  refine s_if_eq (tgt := 12) K dX7_highest_6 (by decide) (fun c_3 => ?_) (fun c_3 => ?_)
  · refine s_aload_n K dX7_highest_12 rfl 0 rfl ?_
    refine s_get K 0 rfl rfl inT7 1 (Nat.le_of_ble_eq_true rfl) t_145 rfl rfl dX7_highest_13 ?_
    refine s_bind (fun q hq_5 => ?_)
    obtain ⟨r_4, rfl⟩ : ∃ z, z = q := ⟨_, rfl⟩
    refine s_callV (w' := (wX cI cC cB cQ kc xh xp nh nd nb na kh kd kb ka th td tb ta gl ga gw ltr lrd srs bks img pag n_cnt n_wet n_stg n_dys n_dep n_knd n_siz n_plc n_onn n_axs k_cnt k_wet k_stg k_dys k_dep k_knd k_siz k_plc k_onn k_axs t_cnt t_wet t_stg t_dys t_dep t_knd t_siz t_plc t_onn t_axs l_gsz l_gsd l_gfw a_gfw a_gtg w_gwy w_grl w_gsz)) (rest := []) (st1 := [.int r_4]) K (c_X4_highestThree nh nd nb na n_cnt n_wet n_stg n_dys n_dep n_knd n_siz n_plc n_onn n_axs hq_5) rfl hd_X4_highestThree t_444 t_445 t_446 t_2 t_447 ⟨(Nat.le_of_ble_eq_true rfl), (Nat.le_of_ble_eq_true rfl)⟩ ⟨rfl, rfl⟩ ⟨Nat.zero_le _, Nat.zero_le _⟩ (rv_o K 2 rfl rfl) [2, 3, 4, 5, 6, 7, 8, 9] [0, 1, 10, 11, 12, 13, 14, 15, 16, 17, 18, 19, 20, 21, 22, 23, 24, 25, 26, 27, 28] [0, 1, 21, 22, 23, 24, 25, 26, 27, 28, 2, 3, 4, 5, 6, 7, 8, 9, 10, 11, 12, 13, 14, 15, 16, 17, 18, 19, 20] rfl rfl rfl rfl (by decide) rfl rfl rfl rfl (Nat.le_of_ble_eq_true rfl) dX7_highest_16 ?_
    refine s_istore_n (lv' := [(2, .int r_4), (0, .ref xh), (1, .int a1)]) K dX7_highest_19 rfl (Nat.le_of_ble_eq_true rfl) rfl ?_
    refine s_iload_n K dX7_highest_20 rfl 2 rfl ?_
    refine s_iconst K dX7_highest_21 kic_1 ?_
    refine s_icmp_eq (tgt := 30) K dX7_highest_22 (by decide) (fun c_6 => ?_) (fun c_6 => ?_)
    · refine s_iload_n K dX7_highest_30 rfl 0 rfl ?_
      refine s_goto (tgt := 42) K dX7_highest_31 (by decide) ?_
      exact s_iret K hret hlk rfl rfl dX7_highest_42
    · refine s_iload_n K dX7_highest_25 rfl 0 rfl ?_
      refine s_iconst K dX7_highest_26 kic_m1 ?_
      refine s_icmp_ne (tgt := 34) K dX7_highest_27 (by decide) (fun c_7 => ?_) (fun c_7 => ?_)
      · refine s_iload_n K dX7_highest_30 rfl 0 rfl ?_
        refine s_goto (tgt := 42) K dX7_highest_31 (by decide) ?_
        exact s_iret K hret hlk rfl rfl dX7_highest_42
      · refine s_aload_n K dX7_highest_34 rfl 1 rfl ?_
        refine s_get K 0 rfl rfl inT7 1 (Nat.le_of_ble_eq_true rfl) t_145 rfl rfl dX7_highest_35 ?_
        refine s_iload_n K dX7_highest_38 rfl 0 rfl ?_
        refine s_bind (fun q hq_9 => ?_)
        obtain ⟨r_8, rfl⟩ : ∃ z, z = q := ⟨_, rfl⟩
        refine s_callV (w' := (wX cI cC cB cQ kc xh xp nh nd nb na kh kd kb ka th td tb ta gl ga gw ltr lrd srs bks img pag n_cnt n_wet n_stg n_dys n_dep n_knd n_siz n_plc n_onn n_axs k_cnt k_wet k_stg k_dys k_dep k_knd k_siz k_plc k_onn k_axs t_cnt t_wet t_stg t_dys t_dep t_knd t_siz t_plc t_onn t_axs l_gsz l_gsd l_gfw a_gfw a_gtg w_gwy w_grl w_gsz)) (rest := []) (st1 := [.int r_8]) K (c_X4_heightOfAll nh nd nb na n_cnt n_wet n_stg n_dys n_dep n_knd n_siz n_plc n_onn n_axs r_4 hq_9) rfl hd_X4_heightOfAll t_469 t_466 t_467 t_2 t_468 ⟨(Nat.le_of_ble_eq_true rfl), (Nat.le_of_ble_eq_true rfl)⟩ ⟨rfl, rfl⟩ ⟨Nat.zero_le _, Nat.zero_le _⟩ (rv_o K 2 rfl rfl) [2, 3, 4, 5, 6, 7, 8, 9] [0, 1, 10, 11, 12, 13, 14, 15, 16, 17, 18, 19, 20, 21, 22, 23, 24, 25, 26, 27, 28] [0, 1, 21, 22, 23, 24, 25, 26, 27, 28, 2, 3, 4, 5, 6, 7, 8, 9, 10, 11, 12, 13, 14, 15, 16, 17, 18, 19, 20] rfl rfl rfl rfl (by decide) rfl rfl rfl rfl (Nat.le_of_ble_eq_true rfl) dX7_highest_39 ?_
        exact s_iret K hret hlk rfl rfl dX7_highest_42
  · refine s_bipush K dX7_highest_9 kib_m102 ?_
    exact s_iret K hret hlk rfl rfl dX7_highest_11
set_option maxHeartbeats 4000000 in
set_option maxRecDepth 100000 in
theorem c_X7_lasts {l : Launch} {D : va_G} {cI cC cB cQ : ClassId} {kc : Nat → Nat} {kt : Nat} (xh xp nh nd nb : Nat) (na : Nat → Nat) (kh kd kb : Nat) (ka : Nat → Nat) (th td tb : Nat) (ta : Nat → Nat) (gl ga gw : Nat) (ltr lrd srs bks img : Int32) (pag : Nat → Int32) (n_cnt n_wet n_stg n_dys : Int32) (n_dep : Nat → Int32) (n_knd : Nat → Nat) (n_siz n_plc n_onn n_axs : Nat → Int32) (k_cnt k_wet k_stg k_dys : Int32) (k_dep : Nat → Int32) (k_knd : Nat → Nat) (k_siz k_plc k_onn k_axs : Nat → Int32) (t_cnt t_wet t_stg t_dys : Int32) (t_dep : Nat → Int32) (t_knd : Nat → Nat) (t_siz t_plc t_onn t_axs : Nat → Int32) (l_gsz l_gsd l_gfw a_gfw a_gtg w_gwy w_grl w_gsz : Int32) (a1 : Int32) {r : Int32} (hF : f_X7_lasts n_cnt n_knd n_siz a1 = some r) : CT l D (tysOf cI cC cB cQ) kc kt yX7_lasts cX7_lasts 2 (some .int) ({ frames := 3, cells := 0, slots := 0, locals := 167 } : Room) [.ref xh, .int a1] (wX cI cC cB cQ kc xh xp nh nd nb na kh kd kb ka th td tb ta gl ga gw ltr lrd srs bks img pag n_cnt n_wet n_stg n_dys n_dep n_knd n_siz n_plc n_onn n_axs k_cnt k_wet k_stg k_dys k_dep k_knd k_siz k_plc k_onn k_axs t_cnt t_wet t_stg t_dys t_dep t_knd t_siz t_plc t_onn t_axs l_gsz l_gsd l_gfw a_gfw a_gtg w_gwy w_grl w_gsz) ((fun (r : Int32) => (wX cI cC cB cQ kc xh xp nh nd nb na kh kd kb ka th td tb ta gl ga gw ltr lrd srs bks img pag n_cnt n_wet n_stg n_dys n_dep n_knd n_siz n_plc n_onn n_axs k_cnt k_wet k_stg k_dys k_dep k_knd k_siz k_plc k_onn k_axs t_cnt t_wet t_stg t_dys t_dep t_knd t_siz t_plc t_onn t_axs l_gsz l_gsd l_gfw a_gfw a_gtg w_gwy w_grl w_gsz)) r) ((fun (r : Int32) => some (.int r)) r) := by
  refine CT.of (ww := (fun (r : Int32) => (wX cI cC cB cQ kc xh xp nh nd nb na kh kd kb ka th td tb ta gl ga gw ltr lrd srs bks img pag n_cnt n_wet n_stg n_dys n_dep n_knd n_siz n_plc n_onn n_axs k_cnt k_wet k_stg k_dys k_dep k_knd k_siz k_plc k_onn k_axs t_cnt t_wet t_stg t_dys t_dep t_knd t_siz t_plc t_onn t_axs l_gsz l_gsd l_gfw a_gfw a_gtg w_gwy w_grl w_gsz))) (oo := (fun (r : Int32) => some (.int r))) hF RX7 rfl rfl (Nat.le_of_ble_eq_true rfl) ?_
  intro p e s m args below meth c A K hret hlk
  rewrite [f_X7_lasts]
  refine s_iload_n K dX7_lasts_0 rfl 1 rfl ?_
  refine s_iconst K dX7_lasts_1 kic_1 ?_
  refine s_bipush K dX7_lasts_2 kib_9 ?_
  refine s_bind (fun q hq_2 => ?_)
  obtain ⟨r_1, rfl⟩ : ∃ z, z = q := ⟨_, rfl⟩
  refine s_callS0 (rest := []) (st1 := [.int r_1]) K (c_X7_isOutside a1 1 9 hq_2) hd_X7_isOutside t_185 t_186 t_1 t_187 ⟨(Nat.le_of_ble_eq_true rfl), (Nat.le_of_ble_eq_true rfl)⟩ ⟨rfl, rfl⟩ ⟨Nat.zero_le _, Nat.zero_le _⟩ rfl rfl (Nat.le_of_ble_eq_true rfl) dX7_lasts_4 ?_
  refine s_if_eq (tgt := 13) K dX7_lasts_7 (by decide) (fun c_3 => ?_) (fun c_3 => ?_)
  · refine s_aload_n K dX7_lasts_13 rfl 0 rfl ?_
    refine s_get K 0 rfl rfl inT7 1 (Nat.le_of_ble_eq_true rfl) t_145 rfl rfl dX7_lasts_14 ?_
    refine s_iload_n K dX7_lasts_17 rfl 1 rfl ?_
    refine s_bind (fun q hq_5 => ?_)
    obtain ⟨r_4, rfl⟩ : ∃ z, z = q := ⟨_, rfl⟩
    refine s_callV (w' := (wX cI cC cB cQ kc xh xp nh nd nb na kh kd kb ka th td tb ta gl ga gw ltr lrd srs bks img pag n_cnt n_wet n_stg n_dys n_dep n_knd n_siz n_plc n_onn n_axs k_cnt k_wet k_stg k_dys k_dep k_knd k_siz k_plc k_onn k_axs t_cnt t_wet t_stg t_dys t_dep t_knd t_siz t_plc t_onn t_axs l_gsz l_gsd l_gfw a_gfw a_gtg w_gwy w_grl w_gsz)) (rest := []) (st1 := [.int r_4]) K (c_X4_daysToFirstGone nh nd nb na n_cnt n_wet n_stg n_dys n_dep n_knd n_siz n_plc n_onn n_axs a1 hq_5) rfl hd_X4_daysToFirstGone t_474 t_475 t_476 t_2 t_477 ⟨(Nat.le_of_ble_eq_true rfl), (Nat.le_of_ble_eq_true rfl)⟩ ⟨rfl, rfl⟩ ⟨Nat.zero_le _, Nat.zero_le _⟩ (rv_o K 2 rfl rfl) [2, 3, 4, 5, 6, 7, 8, 9] [0, 1, 10, 11, 12, 13, 14, 15, 16, 17, 18, 19, 20, 21, 22, 23, 24, 25, 26, 27, 28] [0, 1, 21, 22, 23, 24, 25, 26, 27, 28, 2, 3, 4, 5, 6, 7, 8, 9, 10, 11, 12, 13, 14, 15, 16, 17, 18, 19, 20] rfl rfl rfl rfl (by decide) rfl rfl rfl rfl (Nat.le_of_ble_eq_true rfl) dX7_lasts_18 ?_
    exact s_iret K hret hlk rfl rfl dX7_lasts_21
  · refine s_bipush K dX7_lasts_10 kib_m102 ?_
    exact s_iret K hret hlk rfl rfl dX7_lasts_12
set_option maxHeartbeats 4000000 in
set_option maxRecDepth 100000 in
theorem c_X7_book {l : Launch} {D : va_G} {cI cC cB cQ : ClassId} {kc : Nat → Nat} {kt : Nat} (xh xp nh nd nb : Nat) (na : Nat → Nat) (kh kd kb : Nat) (ka : Nat → Nat) (th td tb : Nat) (ta : Nat → Nat) (gl ga gw : Nat) (ltr lrd srs bks img : Int32) (pag : Nat → Int32) (n_cnt n_wet n_stg n_dys : Int32) (n_dep : Nat → Int32) (n_knd : Nat → Nat) (n_siz n_plc n_onn n_axs : Nat → Int32) (k_cnt k_wet k_stg k_dys : Int32) (k_dep : Nat → Int32) (k_knd : Nat → Nat) (k_siz k_plc k_onn k_axs : Nat → Int32) (t_cnt t_wet t_stg t_dys : Int32) (t_dep : Nat → Int32) (t_knd : Nat → Nat) (t_siz t_plc t_onn t_axs : Nat → Int32) (l_gsz l_gsd l_gfw a_gfw a_gtg w_gwy w_grl w_gsz : Int32) (a1 a2 a3 a4 : Int32) {r : Int32 × Int32 × Int32 × Int32 × Int32 × Int32 × (Nat → Int32) × (Nat → Nat) × (Nat → Int32) × (Nat → Int32) × (Nat → Int32) × (Nat → Int32) × Int32 × Int32 × Int32} (hF : f_X7_book lrd bks n_cnt n_wet n_stg n_dys n_dep n_knd n_siz n_plc n_onn n_axs t_cnt t_wet t_stg t_dys t_dep t_knd t_siz t_plc t_onn t_axs w_gwy w_grl w_gsz a1 a2 a3 a4 = some r) : CT l D (tysOf cI cC cB cQ) kc kt yX7_book cX7_book 5 (some .int) ({ frames := 28, cells := 0, slots := 0, locals := 2272 } : Room) [.ref xh, .int a1, .int a2, .int a3, .int a4] (wX cI cC cB cQ kc xh xp nh nd nb na kh kd kb ka th td tb ta gl ga gw ltr lrd srs bks img pag n_cnt n_wet n_stg n_dys n_dep n_knd n_siz n_plc n_onn n_axs k_cnt k_wet k_stg k_dys k_dep k_knd k_siz k_plc k_onn k_axs t_cnt t_wet t_stg t_dys t_dep t_knd t_siz t_plc t_onn t_axs l_gsz l_gsd l_gfw a_gfw a_gtg w_gwy w_grl w_gsz) ((fun (r : Int32 × Int32 × Int32 × Int32 × Int32 × Int32 × (Nat → Int32) × (Nat → Nat) × (Nat → Int32) × (Nat → Int32) × (Nat → Int32) × (Nat → Int32) × Int32 × Int32 × Int32) => (wX cI cC cB cQ kc xh xp nh nd nb na kh kd kb ka th td tb ta gl ga gw ltr lrd srs (r.2.1) img pag n_cnt n_wet n_stg n_dys n_dep n_knd n_siz n_plc n_onn n_axs k_cnt k_wet k_stg k_dys k_dep k_knd k_siz k_plc k_onn k_axs (r.2.2.1) (r.2.2.2.1) (r.2.2.2.2.1) (r.2.2.2.2.2.1) (r.2.2.2.2.2.2.1) (r.2.2.2.2.2.2.2.1) (r.2.2.2.2.2.2.2.2.1) (r.2.2.2.2.2.2.2.2.2.1) (r.2.2.2.2.2.2.2.2.2.2.1) (r.2.2.2.2.2.2.2.2.2.2.2.1) l_gsz l_gsd l_gfw a_gfw a_gtg (r.2.2.2.2.2.2.2.2.2.2.2.2.1) (r.2.2.2.2.2.2.2.2.2.2.2.2.2.1) (r.2.2.2.2.2.2.2.2.2.2.2.2.2.2))) r) ((fun (r : Int32 × Int32 × Int32 × Int32 × Int32 × Int32 × (Nat → Int32) × (Nat → Nat) × (Nat → Int32) × (Nat → Int32) × (Nat → Int32) × (Nat → Int32) × Int32 × Int32 × Int32) => some (.int (r.1))) r) := by
  refine CT.of (ww := (fun (r : Int32 × Int32 × Int32 × Int32 × Int32 × Int32 × (Nat → Int32) × (Nat → Nat) × (Nat → Int32) × (Nat → Int32) × (Nat → Int32) × (Nat → Int32) × Int32 × Int32 × Int32) => (wX cI cC cB cQ kc xh xp nh nd nb na kh kd kb ka th td tb ta gl ga gw ltr lrd srs (r.2.1) img pag n_cnt n_wet n_stg n_dys n_dep n_knd n_siz n_plc n_onn n_axs k_cnt k_wet k_stg k_dys k_dep k_knd k_siz k_plc k_onn k_axs (r.2.2.1) (r.2.2.2.1) (r.2.2.2.2.1) (r.2.2.2.2.2.1) (r.2.2.2.2.2.2.1) (r.2.2.2.2.2.2.2.1) (r.2.2.2.2.2.2.2.2.1) (r.2.2.2.2.2.2.2.2.2.1) (r.2.2.2.2.2.2.2.2.2.2.1) (r.2.2.2.2.2.2.2.2.2.2.2.1) l_gsz l_gsd l_gfw a_gfw a_gtg (r.2.2.2.2.2.2.2.2.2.2.2.2.1) (r.2.2.2.2.2.2.2.2.2.2.2.2.2.1) (r.2.2.2.2.2.2.2.2.2.2.2.2.2.2)))) (oo := (fun (r : Int32 × Int32 × Int32 × Int32 × Int32 × Int32 × (Nat → Int32) × (Nat → Nat) × (Nat → Int32) × (Nat → Int32) × (Nat → Int32) × (Nat → Int32) × Int32 × Int32 × Int32) => some (.int (r.1)))) hF RX7 rfl rfl (Nat.le_of_ble_eq_true rfl) ?_
  intro p e s m args below meth c A K hret hlk
  rewrite [f_X7_book]
  refine s_iload_n K dX7_book_0 rfl 1 rfl ?_
  refine s_bind (fun q hq_2 => ?_)
  obtain ⟨r_1, rfl⟩ : ∃ z, z = q := ⟨_, rfl⟩
  refine s_callS0 (rest := []) (st1 := [.int r_1]) K (c_X7_isKind a1 hq_2) hd_X7_isKind t_245 t_246 t_1 t_247 ⟨(Nat.le_of_ble_eq_true rfl), (Nat.le_of_ble_eq_true rfl)⟩ ⟨rfl, rfl⟩ ⟨Nat.zero_le _, Nat.zero_le _⟩ rfl rfl (Nat.le_of_ble_eq_true rfl) dX7_book_1 ?_
  refine s_if_ne (tgt := 10) K dX7_book_4 (by decide) (fun c_3 => ?_) (fun c_3 => ?_)
  · refine s_bipush K dX7_book_7 kib_m102 ?_
    exact s_iret K hret hlk rfl rfl dX7_book_9
  · refine s_iload_n K dX7_book_10 rfl 2 rfl ?_
    refine s_bind (fun q hq_5 => ?_)
    obtain ⟨r_4, rfl⟩ : ∃ z, z = q := ⟨_, rfl⟩
    refine s_callS0 (rest := []) (st1 := [.int r_4]) K (c_X7_isPlace a2 hq_5) hd_X7_isPlace t_219 t_220 t_1 t_221 ⟨(Nat.le_of_ble_eq_true rfl), (Nat.le_of_ble_eq_true rfl)⟩ ⟨rfl, rfl⟩ ⟨Nat.zero_le _, Nat.zero_le _⟩ rfl rfl (Nat.le_of_ble_eq_true rfl) dX7_book_11 ?_
    refine s_if_ne (tgt := 20) K dX7_book_14 (by decide) (fun c_6 => ?_) (fun c_6 => ?_)
    · refine s_bipush K dX7_book_17 kib_m101 ?_
      exact s_iret K hret hlk rfl rfl dX7_book_19
    · refine s_iload_n K dX7_book_20 rfl 3 rfl ?_
      refine s_iconst K dX7_book_21 kic_0 ?_
      refine s_iconst K dX7_book_22 kic_5 ?_
      refine s_bind (fun q hq_8 => ?_)
      obtain ⟨r_7, rfl⟩ : ∃ z, z = q := ⟨_, rfl⟩
      refine s_callS0 (rest := []) (st1 := [.int r_7]) K (c_X7_isOutside a3 0 5 hq_8) hd_X7_isOutside t_185 t_186 t_1 t_187 ⟨(Nat.le_of_ble_eq_true rfl), (Nat.le_of_ble_eq_true rfl)⟩ ⟨rfl, rfl⟩ ⟨Nat.zero_le _, Nat.zero_le _⟩ rfl rfl (Nat.le_of_ble_eq_true rfl) dX7_book_23 ?_
      refine s_if_ne (tgt := 40) K dX7_book_26 (by decide) (fun c_9 => ?_) (fun c_9 => ?_)
      · refine s_iload K dX7_book_29 4 rfl ?_
        refine s_iconst K dX7_book_31 kic_0 ?_
        refine s_bipush K dX7_book_32 kib_99 ?_
        refine s_bind (fun q hq_11 => ?_)
        obtain ⟨r_10, rfl⟩ : ∃ z, z = q := ⟨_, rfl⟩
        refine s_callS0 (rest := []) (st1 := [.int r_10]) K (c_X7_isOutside a4 0 99 hq_11) hd_X7_isOutside t_185 t_186 t_1 t_187 ⟨(Nat.le_of_ble_eq_true rfl), (Nat.le_of_ble_eq_true rfl)⟩ ⟨rfl, rfl⟩ ⟨Nat.zero_le _, Nat.zero_le _⟩ rfl rfl (Nat.le_of_ble_eq_true rfl) dX7_book_34 ?_
        refine s_if_eq (tgt := 43) K dX7_book_37 (by decide) (fun c_12 => ?_) (fun c_12 => ?_)
        · refine s_aload_n K dX7_book_43 rfl 0 rfl ?_
          refine s_bind (fun q hq_14 => ?_)
          obtain ⟨r_13, rfl⟩ : ∃ z, z = q := ⟨_, rfl⟩
          refine s_callV (w' := (wX cI cC cB cQ kc xh xp nh nd nb na kh kd kb ka th td tb ta gl ga gw ltr lrd srs bks img pag n_cnt n_wet n_stg n_dys n_dep n_knd n_siz n_plc n_onn n_axs k_cnt k_wet k_stg k_dys k_dep k_knd k_siz k_plc k_onn k_axs t_cnt t_wet t_stg t_dys t_dep t_knd t_siz t_plc t_onn t_axs l_gsz l_gsd l_gfw a_gfw a_gtg w_gwy w_grl w_gsz)) (rest := []) (st1 := [.int r_13]) K (c_X7_hasLawn xh xp nh nd nb na kh kd kb ka th td tb ta gl ga gw ltr lrd srs bks img pag n_cnt n_wet n_stg n_dys n_dep n_knd n_siz n_plc n_onn n_axs k_cnt k_wet k_stg k_dys k_dep k_knd k_siz k_plc k_onn k_axs t_cnt t_wet t_stg t_dys t_dep t_knd t_siz t_plc t_onn t_axs l_gsz l_gsd l_gfw a_gfw a_gtg w_gwy w_grl w_gsz hq_14) rfl hd_X7_hasLawn t_222 t_224 ts_0 t_1 t_225 ⟨(Nat.le_of_ble_eq_true rfl), (Nat.le_of_ble_eq_true rfl)⟩ ⟨rfl, rfl⟩ ⟨Nat.zero_le _, Nat.zero_le _⟩ (rv_o K 0 rfl rfl) [0, 1, 2, 3, 4, 5, 6, 7, 8, 9, 10, 11, 12, 13, 14, 15, 16, 17, 18, 19, 20, 21, 22, 23, 24, 25, 26, 27, 28] [] [0, 1, 2, 3, 4, 5, 6, 7, 8, 9, 10, 11, 12, 13, 14, 15, 16, 17, 18, 19, 20, 21, 22, 23, 24, 25, 26, 27, 28] rfl rfl rfl rfl (by decide) rfl rfl rfl rfl (Nat.le_of_ble_eq_true rfl) dX7_book_44 ?_
          refine s_if_eq (tgt := 59) K dX7_book_47 (by decide) (fun c_15 => ?_) (fun c_15 => ?_)
          · refine s_bipush K dX7_book_59 kib_m103 ?_
            exact s_iret K hret hlk rfl rfl dX7_book_61
          · refine s_aload_n K dX7_book_50 rfl 0 rfl ?_
            refine s_get K 0 rfl rfl inT7 10 (Nat.le_of_ble_eq_true rfl) t_154 rfl rfl dX7_book_51 ?_
            refine s_bipush K dX7_book_54 kib_60 ?_
            refine s_icmp_lt (tgt := 62) K dX7_book_56 (by decide) (fun c_16 => ?_) (fun c_16 => ?_)
            · refine s_aload_n K dX7_book_62 rfl 0 rfl ?_
              refine s_dup K dX7_book_63 rfl ?_
              refine s_get K 0 rfl rfl inT7 10 (Nat.le_of_ble_eq_true rfl) t_154 rfl rfl dX7_book_64 ?_
              refine s_iconst K dX7_book_67 kic_1 ?_
              refine s_iadd K dX7_book_68 ?_
              refine s_put (w' := (wX cI cC cB cQ kc xh xp nh nd nb na kh kd kb ka th td tb ta gl ga gw ltr lrd srs (bks + 1) img pag n_cnt n_wet n_stg n_dys n_dep n_knd n_siz n_plc n_onn n_axs k_cnt k_wet k_stg k_dys k_dep k_knd k_siz k_plc k_onn k_axs t_cnt t_wet t_stg t_dys t_dep t_knd t_siz t_plc t_onn t_axs l_gsz l_gsd l_gfw a_gfw a_gtg w_gwy w_grl w_gsz)) K 0 rfl rfl inT7 tyX7_ok nmX7 10 (Nat.le_of_ble_eq_true rfl) t_154 rfl rfl rfl rfl (Nat.le_of_ble_eq_true rfl) rfl dX7_book_69 ?_
              refine s_aload_n K dX7_book_72 rfl 0 rfl ?_
              refine s_get K 0 rfl rfl inT7 6 (Nat.le_of_ble_eq_true rfl) t_150 rfl rfl dX7_book_73 ?_
              refine s_iload_n K dX7_book_76 rfl 3 rfl ?_
              refine s_iload K dX7_book_77 4 rfl ?_
              refine s_bind (fun q hq_20 => ?_)
              obtain ⟨w_gwy_17, w_grl_18, w_gsz_19⟩ := q
              refine s_callV (w' := (wX cI cC cB cQ kc xh xp nh nd nb na kh kd kb ka th td tb ta gl ga gw ltr lrd srs (bks + 1) img pag n_cnt n_wet n_stg n_dys n_dep n_knd n_siz n_plc n_onn n_axs k_cnt k_wet k_stg k_dys k_dep k_knd k_siz k_plc k_onn k_axs t_cnt t_wet t_stg t_dys t_dep t_knd t_siz t_plc t_onn t_axs l_gsz l_gsd l_gfw a_gfw a_gtg w_gwy_17 w_grl_18 w_gsz_19)) (rest := []) (st1 := []) K (c_X6_begin gw w_gwy w_grl w_gsz a3 a4 hq_20) rfl hd_X6_begin t_482 t_483 t_484 t_9 t_485 ⟨(Nat.le_of_ble_eq_true rfl), (Nat.le_of_ble_eq_true rfl)⟩ ⟨rfl, rfl⟩ ⟨Nat.zero_le _, Nat.zero_le _⟩ (rv_o K 28 rfl rfl) [28] [0, 1, 2, 3, 4, 5, 6, 7, 8, 9, 10, 11, 12, 13, 14, 15, 16, 17, 18, 19, 20, 21, 22, 23, 24, 25, 26, 27] [0, 1, 2, 3, 4, 5, 6, 7, 8, 9, 10, 11, 12, 13, 14, 15, 16, 17, 18, 19, 20, 21, 22, 23, 24, 25, 26, 27, 28] rfl rfl rfl rfl (by decide) rfl rfl rfl rfl (Nat.le_of_ble_eq_true rfl) dX7_book_79 ?_
              refine s_aload_n K dX7_book_82 rfl 0 rfl ?_
              refine s_get K 0 rfl rfl inT7 3 (Nat.le_of_ble_eq_true rfl) t_147 rfl rfl dX7_book_83 ?_
              refine s_aload_n K dX7_book_86 rfl 0 rfl ?_
              refine s_get K 0 rfl rfl inT7 1 (Nat.le_of_ble_eq_true rfl) t_145 rfl rfl dX7_book_87 ?_
              refine s_bind (fun q hq_31 => ?_)
              obtain ⟨t_cnt_21, t_wet_22, t_stg_23, t_dys_24, t_dep_25, t_knd_26, t_siz_27, t_plc_28, t_onn_29, t_axs_30⟩ := q
              refine s_callV (w' := (wX cI cC cB cQ kc xh xp nh nd nb na kh kd kb ka th td tb ta gl ga gw ltr lrd srs (bks + 1) img pag n_cnt n_wet n_stg n_dys n_dep n_knd n_siz n_plc n_onn n_axs k_cnt k_wet k_stg k_dys k_dep k_knd k_siz k_plc k_onn k_axs t_cnt_21 t_wet_22 t_stg_23 t_dys_24 t_dep_25 t_knd_26 t_siz_27 t_plc_28 t_onn_29 t_axs_30 l_gsz l_gsd l_gfw a_gfw a_gtg w_gwy_17 w_grl_18 w_gsz_19)) (rest := []) (st1 := []) K (c_X4_copyFrom th td tb ta nh nd nb na t_cnt t_wet t_stg t_dys t_dep t_knd t_siz t_plc t_onn t_axs n_cnt n_wet n_stg n_dys n_dep n_knd n_siz n_plc n_onn n_axs hq_31) rfl hd_X4_copyFrom t_409 t_410 t_411 t_2 t_412 ⟨(Nat.le_of_ble_eq_true rfl), (Nat.le_of_ble_eq_true rfl)⟩ ⟨rfl, rfl⟩ ⟨Nat.zero_le _, Nat.zero_le _⟩ (rv_o K 18 rfl rfl) [18, 19, 20, 21, 22, 23, 24, 25, 2, 3, 4, 5, 6, 7, 8, 9] [0, 1, 10, 11, 12, 13, 14, 15, 16, 17, 26, 27, 28] [0, 1, 21, 22, 23, 24, 25, 26, 27, 28, 2, 3, 4, 5, 6, 7, 8, 9, 13, 14, 15, 16, 17, 18, 19, 20, 10, 11, 12] rfl rfl rfl rfl (by decide) rfl rfl rfl rfl (Nat.le_of_ble_eq_true rfl) dX7_book_90 ?_
              refine s_aload_n K dX7_book_93 rfl 0 rfl ?_
              refine s_get K 0 rfl rfl inT7 3 (Nat.le_of_ble_eq_true rfl) t_147 rfl rfl dX7_book_94 ?_
              refine s_get K 18 rfl rfl inT4 1 (Nat.le_of_ble_eq_true rfl) t_70 rfl rfl dX7_book_97 ?_
              refine s_iconst K dX7_book_100 kic_4 ?_
              refine s_aldb K 20 3 rfl rfl kin_4_5 kcl_4 dX7_book_101 ?_
              refine s_getsT K t_248 dX7_book_102 ?_
              refine s_iload_n K dX7_book_105 rfl 1 rfl ?_
              refine s_ck (fun ho_32 => ?_)
              refine s_aldT K (ok_in ho_32) dX7_book_106 ?_
              refine s_iload_n K dX7_book_107 rfl 2 rfl ?_
              refine s_bind (fun q hq_38 => ?_)
              obtain ⟨t_knd_33, t_siz_34, t_plc_35, t_onn_36, t_axs_37⟩ := q
              refine s_callV (w' := (wX cI cC cB cQ kc xh xp nh nd nb na kh kd kb ka th td tb ta gl ga gw ltr lrd srs (bks + 1) img pag n_cnt n_wet n_stg n_dys n_dep n_knd n_siz n_plc n_onn n_axs k_cnt k_wet k_stg k_dys k_dep k_knd k_siz k_plc k_onn k_axs t_cnt_21 t_wet_22 t_stg_23 t_dys_24 t_dep_25 t_knd_33 t_siz_34 t_plc_35 t_onn_36 t_axs_37 l_gsz l_gsd l_gfw a_gfw a_gtg w_gwy_17 w_grl_18 w_gsz_19)) (rest := []) (st1 := []) K (c_X1_begin ta t_knd_26 t_siz_27 t_plc_28 t_onn_29 t_axs_30 a2 4 (Int32.toNatClampNeg a1) (by decide) (vp_lt (ok_in ho_32)) hq_38) rfl hd_X1_begin t_258 t_259 t_260 t_3 t_261 ⟨(Nat.le_of_ble_eq_true rfl), (Nat.le_of_ble_eq_true rfl)⟩ ⟨rfl, rfl⟩ ⟨Nat.zero_le _, Nat.zero_le _⟩ (rv_o K (21 + 4) (gX_13 (by decide)) rfl) [21, 22, 23, 24, 25] [0, 1, 2, 3, 4, 5, 6, 7, 8, 9, 10, 11, 12, 13, 14, 15, 16, 17, 18, 19, 20, 26, 27, 28] [0, 1, 2, 3, 4, 5, 6, 7, 8, 9, 10, 11, 12, 13, 14, 15, 16, 17, 18, 19, 20, 24, 25, 26, 27, 28, 21, 22, 23] rfl rfl rfl rfl (by decide) rfl rfl rfl rfl (Nat.le_of_ble_eq_true rfl) dX7_book_108 ?_
              refine s_aload_n K dX7_book_111 rfl 0 rfl ?_
              refine s_get K 0 rfl rfl inT7 3 (Nat.le_of_ble_eq_true rfl) t_147 rfl rfl dX7_book_112 ?_
              refine s_iconst K dX7_book_115 kic_4 ?_
              refine s_aload_n K dX7_book_116 rfl 0 rfl ?_
              refine s_get K 0 rfl rfl inT7 6 (Nat.le_of_ble_eq_true rfl) t_150 rfl rfl dX7_book_117 ?_
              refine s_iload_n K dX7_book_120 rfl 3 rfl ?_
              refine s_iconst K dX7_book_121 kic_0 ?_
              refine s_iconst K dX7_book_122 kic_m1 ?_
              refine s_bind (fun q hq_45 => ?_)
              obtain ⟨t_dep_39, t_siz_40, t_plc_41, t_onn_42, t_axs_43, w_gwy_44⟩ := q
              refine s_callS (w' := (wX cI cC cB cQ kc xh xp nh nd nb na kh kd kb ka th td tb ta gl ga gw ltr lrd srs (bks + 1) img pag n_cnt n_wet n_stg n_dys n_dep n_knd n_siz n_plc n_onn n_axs k_cnt k_wet k_stg k_dys k_dep k_knd k_siz k_plc k_onn k_axs t_cnt_21 t_wet_22 t_stg_23 t_dys_24 t_dep_39 t_knd_33 t_siz_40 t_plc_41 t_onn_42 t_axs_43 l_gsz l_gsd l_gfw a_gfw a_gtg w_gwy_44 w_grl_18 w_gsz_19)) (rest := []) (st1 := []) K (c_X7_explore_G th td tb ta gw t_cnt_21 t_wet_22 t_stg_23 t_dys_24 t_dep_25 t_knd_33 t_siz_34 t_plc_35 t_onn_36 t_axs_37 w_gwy_17 w_grl_18 w_gsz_19 4 a3 0 (-1) hq_45) hd_X7_explore t_417 t_418 t_1 t_419 ⟨(Nat.le_of_ble_eq_true rfl), (Nat.le_of_ble_eq_true rfl)⟩ ⟨rfl, rfl⟩ ⟨Nat.zero_le _, Nat.zero_le _⟩ [18, 19, 20, 21, 22, 23, 24, 25, 28] [0, 1, 2, 3, 4, 5, 6, 7, 8, 9, 10, 11, 12, 13, 14, 15, 16, 17, 26, 27] [0, 1, 2, 3, 4, 5, 6, 7, 8, 9, 10, 11, 12, 13, 14, 15, 16, 17, 20, 21, 22, 23, 24, 25, 26, 27, 18, 19, 28] rfl rfl rfl rfl (by decide) rfl rfl rfl rfl (Nat.le_of_ble_eq_true rfl) dX7_book_123 ?_
              refine s_aload_n K dX7_book_126 rfl 0 rfl ?_
              refine s_get K 0 rfl rfl inT7 6 (Nat.le_of_ble_eq_true rfl) t_150 rfl rfl dX7_book_127 ?_
              refine s_get K 28 rfl rfl inT6 0 (Nat.le_of_ble_eq_true rfl) t_134 rfl rfl dX7_book_130 ?_
              exact s_iret K hret hlk rfl rfl dX7_book_133
            · refine s_bipush K dX7_book_59 kib_m103 ?_
              exact s_iret K hret hlk rfl rfl dX7_book_61
        · refine s_bipush K dX7_book_40 kib_m102 ?_
          exact s_iret K hret hlk rfl rfl dX7_book_42
      · refine s_bipush K dX7_book_40 kib_m102 ?_
        exact s_iret K hret hlk rfl rfl dX7_book_42
set_option maxHeartbeats 4000000 in
set_option maxRecDepth 100000 in
theorem c_X7_games {l : Launch} {D : va_G} {cI cC cB cQ : ClassId} {kc : Nat → Nat} {kt : Nat} (xh xp nh nd nb : Nat) (na : Nat → Nat) (kh kd kb : Nat) (ka : Nat → Nat) (th td tb : Nat) (ta : Nat → Nat) (gl ga gw : Nat) (ltr lrd srs bks img : Int32) (pag : Nat → Int32) (n_cnt n_wet n_stg n_dys : Int32) (n_dep : Nat → Int32) (n_knd : Nat → Nat) (n_siz n_plc n_onn n_axs : Nat → Int32) (k_cnt k_wet k_stg k_dys : Int32) (k_dep : Nat → Int32) (k_knd : Nat → Nat) (k_siz k_plc k_onn k_axs : Nat → Int32) (t_cnt t_wet t_stg t_dys : Int32) (t_dep : Nat → Int32) (t_knd : Nat → Nat) (t_siz t_plc t_onn t_axs : Nat → Int32) (l_gsz l_gsd l_gfw a_gfw a_gtg w_gwy w_grl w_gsz : Int32) (a1 a2 a3 : Int32) {r : Int32 × Int32 × Int32 × Int32 × Int32 × (Nat → Int32) × (Nat → Nat) × (Nat → Int32) × (Nat → Int32) × (Nat → Int32) × (Nat → Int32)} (hF : f_X7_games lrd n_cnt n_wet n_stg n_dys n_dep n_knd n_siz n_plc n_onn n_axs t_cnt t_wet t_stg t_dys t_dep t_knd t_siz t_plc t_onn t_axs a1 a2 a3 = some r) : CT l D (tysOf cI cC cB cQ) kc kt yX7_games cX7_games 10 (some .int) ({ frames := 5, cells := 0, slots := 0, locals := 289 } : Room) [.ref xh, .int a1, .int a2, .int a3] (wX cI cC cB cQ kc xh xp nh nd nb na kh kd kb ka th td tb ta gl ga gw ltr lrd srs bks img pag n_cnt n_wet n_stg n_dys n_dep n_knd n_siz n_plc n_onn n_axs k_cnt k_wet k_stg k_dys k_dep k_knd k_siz k_plc k_onn k_axs t_cnt t_wet t_stg t_dys t_dep t_knd t_siz t_plc t_onn t_axs l_gsz l_gsd l_gfw a_gfw a_gtg w_gwy w_grl w_gsz) ((fun (r : Int32 × Int32 × Int32 × Int32 × Int32 × (Nat → Int32) × (Nat → Nat) × (Nat → Int32) × (Nat → Int32) × (Nat → Int32) × (Nat → Int32)) => (wX cI cC cB cQ kc xh xp nh nd nb na kh kd kb ka th td tb ta gl ga gw ltr lrd srs bks img pag n_cnt n_wet n_stg n_dys n_dep n_knd n_siz n_plc n_onn n_axs k_cnt k_wet k_stg k_dys k_dep k_knd k_siz k_plc k_onn k_axs (r.2.1) (r.2.2.1) (r.2.2.2.1) (r.2.2.2.2.1) (r.2.2.2.2.2.1) (r.2.2.2.2.2.2.1) (r.2.2.2.2.2.2.2.1) (r.2.2.2.2.2.2.2.2.1) (r.2.2.2.2.2.2.2.2.2.1) (r.2.2.2.2.2.2.2.2.2.2) l_gsz l_gsd l_gfw a_gfw a_gtg w_gwy w_grl w_gsz)) r) ((fun (r : Int32 × Int32 × Int32 × Int32 × Int32 × (Nat → Int32) × (Nat → Nat) × (Nat → Int32) × (Nat → Int32) × (Nat → Int32) × (Nat → Int32)) => some (.int (r.1))) r) := by
  refine CT.of (ww := (fun (r : Int32 × Int32 × Int32 × Int32 × Int32 × (Nat → Int32) × (Nat → Nat) × (Nat → Int32) × (Nat → Int32) × (Nat → Int32) × (Nat → Int32)) => (wX cI cC cB cQ kc xh xp nh nd nb na kh kd kb ka th td tb ta gl ga gw ltr lrd srs bks img pag n_cnt n_wet n_stg n_dys n_dep n_knd n_siz n_plc n_onn n_axs k_cnt k_wet k_stg k_dys k_dep k_knd k_siz k_plc k_onn k_axs (r.2.1) (r.2.2.1) (r.2.2.2.1) (r.2.2.2.2.1) (r.2.2.2.2.2.1) (r.2.2.2.2.2.2.1) (r.2.2.2.2.2.2.2.1) (r.2.2.2.2.2.2.2.2.1) (r.2.2.2.2.2.2.2.2.2.1) (r.2.2.2.2.2.2.2.2.2.2) l_gsz l_gsd l_gfw a_gfw a_gtg w_gwy w_grl w_gsz))) (oo := (fun (r : Int32 × Int32 × Int32 × Int32 × Int32 × (Nat → Int32) × (Nat → Nat) × (Nat → Int32) × (Nat → Int32) × (Nat → Int32) × (Nat → Int32)) => some (.int (r.1)))) hF RX7 rfl rfl (Nat.le_of_ble_eq_true rfl) ?_
  intro p e s m args below meth c A K hret hlk
  have L67 : ∀ (fu : Nat) (t_cnt t_wet t_stg t_dys : Int32) (t_dep : Nat → Int32) (t_knd : Nat → Nat) (t_siz t_plc t_onn t_axs : Nat → Int32) (x4 : Int64) (x6 x7 : Int32), Sw (ρ := Int32 × Int32 × Int32 × Int32 × Int32 × (Nat → Int32) × (Nat → Nat) × (Nat → Int32) × (Nat → Int32) × (Nat → Int32) × (Nat → Int32)) p l e ({ frames := 5, cells := 0, slots := 0, locals := 289 } : Room) s m args below meth c 0 0 D A 10 (fun r => MQ below (CQ D ((fun (r : Int32 × Int32 × Int32 × Int32 × Int32 × (Nat → Int32) × (Nat → Nat) × (Nat → Int32) × (Nat → Int32) × (Nat → Int32) × (Nat → Int32)) => (wX cI cC cB cQ kc xh xp nh nd nb na kh kd kb ka th td tb ta gl ga gw ltr lrd srs bks img pag n_cnt n_wet n_stg n_dys n_dep n_knd n_siz n_plc n_onn n_axs k_cnt k_wet k_stg k_dys k_dep k_knd k_siz k_plc k_onn k_axs (r.2.1) (r.2.2.1) (r.2.2.2.1) (r.2.2.2.2.1) (r.2.2.2.2.2.1) (r.2.2.2.2.2.2.1) (r.2.2.2.2.2.2.2.1) (r.2.2.2.2.2.2.2.2.1) (r.2.2.2.2.2.2.2.2.2.1) (r.2.2.2.2.2.2.2.2.2.2) l_gsz l_gsd l_gfw a_gfw a_gtg w_gwy w_grl w_gsz)) r) ((fun (r : Int32 × Int32 × Int32 × Int32 × Int32 × (Nat → Int32) × (Nat → Nat) × (Nat → Int32) × (Nat → Int32) × (Nat → Int32) × (Nat → Int32)) => some (.int (r.1))) r) A) args s 0 0 A) (f_X7_games_h67 a1 a3 fu t_cnt t_wet t_stg t_dys t_dep t_knd t_siz t_plc t_onn t_axs x4 x6 x7) (wX cI cC cB cQ kc xh xp nh nd nb na kh kd kb ka th td tb ta gl ga gw ltr lrd srs bks img pag n_cnt n_wet n_stg n_dys n_dep n_knd n_siz n_plc n_onn n_axs k_cnt k_wet k_stg k_dys k_dep k_knd k_siz k_plc k_onn k_axs t_cnt t_wet t_stg t_dys t_dep t_knd t_siz t_plc t_onn t_axs l_gsz l_gsd l_gfw a_gfw a_gtg w_gwy w_grl w_gsz) [(0, .ref xh), (1, .int a1), (3, .int a3), (4, .long x4), (6, .int x6), (7, .int x7)] 67 [] := by
    intro  fu
    induction fu with
    | zero =>
      intro t_cnt t_wet t_stg t_dys t_dep t_knd t_siz t_plc t_onn t_axs x4 x6 x7
      rewrite [f_X7_games_h67]
      exact s_none
    | succ fu ih =>
      intro t_cnt t_wet t_stg t_dys t_dep t_knd t_siz t_plc t_onn t_axs x4 x6 x7
      rewrite [f_X7_games_h67]
      refine s_iload K dX7_games_67 5 rfl ?_
      refine s_iload_n K dX7_games_69 rfl 1 rfl ?_
      refine s_icmp_ge (tgt := 144) K dX7_games_70 (by decide) (fun c_23 => ?_) (fun c_23 => ?_)
      · refine s_iload_n K dX7_games_144 rfl 2 rfl ?_
        refine s_ite (fun c_24 => ?_) (fun c_24 => ?_)
        · refine s_swIn K (0) 172 dX7_games_145 ⟨by decide, by decide⟩ rfl (by decide) c_24 ?_
          refine s_aload_n K dX7_games_172 rfl 0 rfl ?_
          refine s_get K 0 rfl rfl inT7 3 (Nat.le_of_ble_eq_true rfl) t_147 rfl rfl dX7_games_173 ?_
          refine s_bind (fun q hq_26 => ?_)
          obtain ⟨r_25, rfl⟩ : ∃ z, z = q := ⟨_, rfl⟩
          refine s_callV (w' := (wX cI cC cB cQ kc xh xp nh nd nb na kh kd kb ka th td tb ta gl ga gw ltr lrd srs bks img pag n_cnt n_wet n_stg n_dys n_dep n_knd n_siz n_plc n_onn n_axs k_cnt k_wet k_stg k_dys k_dep k_knd k_siz k_plc k_onn k_axs t_cnt t_wet t_stg t_dys t_dep t_knd t_siz t_plc t_onn t_axs l_gsz l_gsd l_gfw a_gfw a_gtg w_gwy w_grl w_gsz)) (rest := []) (st1 := [.int r_25]) K (c_X4_allSizes th td tb ta t_cnt t_wet t_stg t_dys t_dep t_knd t_siz t_plc t_onn t_axs hq_26) rfl hd_X4_allSizes t_500 t_501 t_502 t_2 t_503 ⟨(Nat.le_of_ble_eq_true rfl), (Nat.le_of_ble_eq_true rfl)⟩ ⟨rfl, rfl⟩ ⟨Nat.zero_le _, Nat.zero_le _⟩ (rv_o K 18 rfl rfl) [18, 19, 20, 21, 22, 23, 24, 25] [0, 1, 2, 3, 4, 5, 6, 7, 8, 9, 10, 11, 12, 13, 14, 15, 16, 17, 26, 27, 28] [0, 1, 2, 3, 4, 5, 6, 7, 8, 9, 10, 11, 12, 13, 14, 15, 16, 17, 21, 22, 23, 24, 25, 26, 27, 28, 18, 19, 20] rfl rfl rfl rfl (by decide) rfl rfl rfl rfl (Nat.le_of_ble_eq_true rfl) dX7_games_176 ?_
          exact s_iret K hret hlk rfl rfl dX7_games_179
        · refine s_ite (fun c_27 => ?_) (fun c_27 => ?_)
          · refine s_swIn K (1) 180 dX7_games_145 ⟨by decide, by decide⟩ rfl (by decide) c_27 ?_
            refine s_iload K dX7_games_180 4 rfl ?_
            exact s_iret K hret hlk rfl rfl dX7_games_182
          · refine s_ite (fun c_28 => ?_) (fun c_28 => ?_)
            · refine s_swIn K (2) 183 dX7_games_145 ⟨by decide, by decide⟩ rfl (by decide) c_28 ?_
              refine s_aload_n K dX7_games_183 rfl 0 rfl ?_
              refine s_get K 0 rfl rfl inT7 3 (Nat.le_of_ble_eq_true rfl) t_147 rfl rfl dX7_games_184 ?_
              refine s_bind (fun q hq_30 => ?_)
              obtain ⟨r_29, rfl⟩ : ∃ z, z = q := ⟨_, rfl⟩
              refine s_callV (w' := (wX cI cC cB cQ kc xh xp nh nd nb na kh kd kb ka th td tb ta gl ga gw ltr lrd srs bks img pag n_cnt n_wet n_stg n_dys n_dep n_knd n_siz n_plc n_onn n_axs k_cnt k_wet k_stg k_dys k_dep k_knd k_siz k_plc k_onn k_axs t_cnt t_wet t_stg t_dys t_dep t_knd t_siz t_plc t_onn t_axs l_gsz l_gsd l_gfw a_gfw a_gtg w_gwy w_grl w_gsz)) (rest := []) (st1 := [.int r_29]) K (c_X4_allDepths th td tb ta t_cnt t_wet t_stg t_dys t_dep t_knd t_siz t_plc t_onn t_axs hq_30) rfl hd_X4_allDepths t_211 t_212 t_213 t_2 t_214 ⟨(Nat.le_of_ble_eq_true rfl), (Nat.le_of_ble_eq_true rfl)⟩ ⟨rfl, rfl⟩ ⟨Nat.zero_le _, Nat.zero_le _⟩ (rv_o K 18 rfl rfl) [18, 19, 20, 21, 22, 23, 24, 25] [0, 1, 2, 3, 4, 5, 6, 7, 8, 9, 10, 11, 12, 13, 14, 15, 16, 17, 26, 27, 28] [0, 1, 2, 3, 4, 5, 6, 7, 8, 9, 10, 11, 12, 13, 14, 15, 16, 17, 21, 22, 23, 24, 25, 26, 27, 28, 18, 19, 20] rfl rfl rfl rfl (by decide) rfl rfl rfl rfl (Nat.le_of_ble_eq_true rfl) dX7_games_187 ?_
              exact s_iret K hret hlk rfl rfl dX7_games_190
            · refine s_swOut (tgt := 191) K dX7_games_145 (sw_out (n := 2) (by decide) (fun j hj => match j, hj with | 0, _ => c_24 | 1, _ => c_27 | 2, _ => c_28 | j + 3, h => absurd h (by omega))) (by decide) ?_
              refine s_lload K dX7_games_191 3 rfl ?_
              refine s_l2i K dX7_games_193 ?_
              exact s_iret K hret hlk rfl rfl dX7_games_194
      · refine s_lload K dX7_games_73 3 rfl ?_
        refine s_bind (fun q hq_32 => ?_)
        obtain ⟨r_31, rfl⟩ : ∃ z, z = q := ⟨_, rfl⟩
        refine s_callS0 (rest := []) (st1 := [.long r_31]) K (c_X7_nextSeed x4 hq_32) hd_X7_nextSeed t_490 t_491 t_1 t_492 ⟨(Nat.le_of_ble_eq_true rfl), (Nat.le_of_ble_eq_true rfl)⟩ ⟨rfl, rfl⟩ ⟨Nat.zero_le _, Nat.zero_le _⟩ rfl rfl (Nat.le_of_ble_eq_true rfl) dX7_games_75 ?_
        refine s_lstore (lv' := [(4, .long r_31), (0, .ref xh), (1, .int a1), (3, .int a3), (6, .int x6), (7, .int x7)]) K dX7_games_78 (Nat.le_of_ble_eq_true rfl) rfl ?_
        refine s_lload K dX7_games_80 0 rfl ?_
        refine s_aload_n K dX7_games_82 rfl 1 rfl ?_
        refine s_get K 0 rfl rfl inT7 3 (Nat.le_of_ble_eq_true rfl) t_147 rfl rfl dX7_games_83 ?_
        refine s_get K 18 rfl rfl inT4 2 (Nat.le_of_ble_eq_true rfl) t_72 rfl rfl dX7_games_86 ?_
        refine s_bind (fun q hq_34 => ?_)
        obtain ⟨r_33, rfl⟩ : ∃ z, z = q := ⟨_, rfl⟩
        refine s_callS0 (rest := []) (st1 := [.int r_33]) K (c_X7_drawOf r_31 t_cnt hq_34) hd_X7_drawOf t_496 t_497 t_1 t_498 ⟨(Nat.le_of_ble_eq_true rfl), (Nat.le_of_ble_eq_true rfl)⟩ ⟨rfl, rfl⟩ ⟨Nat.zero_le _, Nat.zero_le _⟩ rfl rfl (Nat.le_of_ble_eq_true rfl) dX7_games_89 ?_
        refine s_istore (lv' := [(8, .int r_33), (4, .long r_31), (0, .ref xh), (1, .int a1), (3, .int a3), (6, .int x6), (7, .int x7)]) K dX7_games_92 (Nat.le_of_ble_eq_true rfl) rfl ?_
        refine s_lload K dX7_games_94 1 rfl ?_
        refine s_bind (fun q hq_36 => ?_)
        obtain ⟨r_35, rfl⟩ : ∃ z, z = q := ⟨_, rfl⟩
        refine s_callS0 (rest := []) (st1 := [.long r_35]) K (c_X7_nextSeed r_31 hq_36) hd_X7_nextSeed t_490 t_491 t_1 t_492 ⟨(Nat.le_of_ble_eq_true rfl), (Nat.le_of_ble_eq_true rfl)⟩ ⟨rfl, rfl⟩ ⟨Nat.zero_le _, Nat.zero_le _⟩ rfl rfl (Nat.le_of_ble_eq_true rfl) dX7_games_96 ?_
        refine s_lstore (lv' := [(4, .long r_35), (8, .int r_33), (0, .ref xh), (1, .int a1), (3, .int a3), (6, .int x6), (7, .int x7)]) K dX7_games_99 (Nat.le_of_ble_eq_true rfl) rfl ?_
        refine s_lload K dX7_games_101 0 rfl ?_
        refine s_iconst K dX7_games_103 kic_4 ?_
        refine s_bind (fun q hq_38 => ?_)
        obtain ⟨r_37, rfl⟩ : ∃ z, z = q := ⟨_, rfl⟩
        refine s_callS0 (rest := []) (st1 := [.int r_37]) K (c_X7_drawOf r_35 4 hq_38) hd_X7_drawOf t_496 t_497 t_1 t_498 ⟨(Nat.le_of_ble_eq_true rfl), (Nat.le_of_ble_eq_true rfl)⟩ ⟨rfl, rfl⟩ ⟨Nat.zero_le _, Nat.zero_le _⟩ rfl rfl (Nat.le_of_ble_eq_true rfl) dX7_games_104 ?_
        refine s_istore (lv' := [(9, .int r_37), (4, .long r_35), (8, .int r_33), (0, .ref xh), (1, .int a1), (3, .int a3), (6, .int x6), (7, .int x7)]) K dX7_games_107 (Nat.le_of_ble_eq_true rfl) rfl ?_
        refine s_aload_n K dX7_games_109 rfl 3 rfl ?_
        refine s_get K 0 rfl rfl inT7 3 (Nat.le_of_ble_eq_true rfl) t_147 rfl rfl dX7_games_110 ?_
        refine s_iload K dX7_games_113 2 rfl ?_
        refine s_iload K dX7_games_115 0 rfl ?_
        refine s_bind (fun q hq_40 => ?_)
        obtain ⟨r_39, rfl⟩ : ∃ z, z = q := ⟨_, rfl⟩
        refine s_callV (w' := (wX cI cC cB cQ kc xh xp nh nd nb na kh kd kb ka th td tb ta gl ga gw ltr lrd srs bks img pag n_cnt n_wet n_stg n_dys n_dep n_knd n_siz n_plc n_onn n_axs k_cnt k_wet k_stg k_dys k_dep k_knd k_siz k_plc k_onn k_axs t_cnt t_wet t_stg t_dys t_dep t_knd t_siz t_plc t_onn t_axs l_gsz l_gsd l_gfw a_gfw a_gtg w_gwy w_grl w_gsz)) (rest := []) (st1 := [.int r_39]) K (c_X4_canRoll th td tb ta t_cnt t_wet t_stg t_dys t_dep t_knd t_siz t_plc t_onn t_axs r_33 r_37 hq_40) rfl hd_X4_canRoll t_302 t_303 t_304 t_2 t_305 ⟨(Nat.le_of_ble_eq_true rfl), (Nat.le_of_ble_eq_true rfl)⟩ ⟨rfl, rfl⟩ ⟨Nat.zero_le _, Nat.zero_le _⟩ (rv_o K 18 rfl rfl) [18, 19, 20, 21, 22, 23, 24, 25] [0, 1, 2, 3, 4, 5, 6, 7, 8, 9, 10, 11, 12, 13, 14, 15, 16, 17, 26, 27, 28] [0, 1, 2, 3, 4, 5, 6, 7, 8, 9, 10, 11, 12, 13, 14, 15, 16, 17, 21, 22, 23, 24, 25, 26, 27, 28, 18, 19, 20] rfl rfl rfl rfl (by decide) rfl rfl rfl rfl (Nat.le_of_ble_eq_true rfl) dX7_games_117 ?_
        refine s_if_eq (tgt := 138) K dX7_games_120 (by decide) (fun c_41 => ?_) (fun c_41 => ?_)
        · refine s_iinc (lv' := [(7, .int (x7 + 1)), (9, .int r_37), (4, .long r_35), (8, .int r_33), (0, .ref xh), (1, .int a1), (3, .int a3), (6, .int x6)]) K dX7_games_138 7 rfl (kii_1 _) (Nat.le_of_ble_eq_true rfl) rfl ?_
          refine s_goto (tgt := 67) K dX7_games_141 (by decide) ?_
          refine s_lv (lv' := [(0, .ref xh), (1, .int a1), (3, .int a3), (4, .long r_35), (6, .int x6), (7, .int (x7 + 1))]) [4, 5, 6, 2, 7, 0] rfl ?_
          exact ih t_cnt t_wet t_stg t_dys t_dep t_knd t_siz t_plc t_onn t_axs r_35 x6 (x7 + 1)
        · refine s_aload_n K dX7_games_123 rfl 3 rfl ?_
          refine s_get K 0 rfl rfl inT7 3 (Nat.le_of_ble_eq_true rfl) t_147 rfl rfl dX7_games_124 ?_
          refine s_iload K dX7_games_127 2 rfl ?_
          refine s_iload K dX7_games_129 0 rfl ?_
          refine s_bind (fun q hq_48 => ?_)
          obtain ⟨r_42, t_dep_43, t_siz_44, t_plc_45, t_onn_46, t_axs_47⟩ := q
          refine s_callV (w' := (wX cI cC cB cQ kc xh xp nh nd nb na kh kd kb ka th td tb ta gl ga gw ltr lrd srs bks img pag n_cnt n_wet n_stg n_dys n_dep n_knd n_siz n_plc n_onn n_axs k_cnt k_wet k_stg k_dys k_dep k_knd k_siz k_plc k_onn k_axs t_cnt t_wet t_stg t_dys t_dep_43 t_knd t_siz_44 t_plc_45 t_onn_46 t_axs_47 l_gsz l_gsd l_gfw a_gfw a_gtg w_gwy w_grl w_gsz)) (rest := []) (st1 := [.int r_42]) K (c_X4_push th td tb ta t_cnt t_wet t_stg t_dys t_dep t_knd t_siz t_plc t_onn t_axs r_33 r_37 hq_48) rfl hd_X4_push t_334 t_335 t_336 t_2 t_337 ⟨(Nat.le_of_ble_eq_true rfl), (Nat.le_of_ble_eq_true rfl)⟩ ⟨rfl, rfl⟩ ⟨Nat.zero_le _, Nat.zero_le _⟩ (rv_o K 18 rfl rfl) [18, 19, 20, 21, 22, 23, 24, 25] [0, 1, 2, 3, 4, 5, 6, 7, 8, 9, 10, 11, 12, 13, 14, 15, 16, 17, 26, 27, 28] [0, 1, 2, 3, 4, 5, 6, 7, 8, 9, 10, 11, 12, 13, 14, 15, 16, 17, 21, 22, 23, 24, 25, 26, 27, 28, 18, 19, 20] rfl rfl rfl rfl (by decide) rfl rfl rfl rfl (Nat.le_of_ble_eq_true rfl) dX7_games_131 ?_
          refine s_pop K dX7_games_134 rfl ?_
          refine s_iinc (lv' := [(6, .int (x6 + 1)), (9, .int r_37), (4, .long r_35), (8, .int r_33), (0, .ref xh), (1, .int a1), (3, .int a3), (7, .int x7)]) K dX7_games_135 6 rfl (kii_1 _) (Nat.le_of_ble_eq_true rfl) rfl ?_
          refine s_iinc (lv' := [(7, .int (x7 + 1)), (6, .int (x6 + 1)), (9, .int r_37), (4, .long r_35), (8, .int r_33), (0, .ref xh), (1, .int a1), (3, .int a3)]) K dX7_games_138 7 rfl (kii_1 _) (Nat.le_of_ble_eq_true rfl) rfl ?_
          refine s_goto (tgt := 67) K dX7_games_141 (by decide) ?_
          refine s_lv (lv' := [(0, .ref xh), (1, .int a1), (3, .int a3), (4, .long r_35), (6, .int (x6 + 1)), (7, .int (x7 + 1))]) [5, 6, 7, 3, 1, 0] rfl ?_
          exact ih t_cnt t_wet t_stg t_dys t_dep_43 t_knd t_siz_44 t_plc_45 t_onn_46 t_axs_47 r_35 (x6 + 1) (x7 + 1)
  rewrite [f_X7_games]
  refine s_iload_n K dX7_games_0 rfl 1 rfl ?_
  refine s_iconst K dX7_games_1 kic_1 ?_
  refine s_bipush K dX7_games_2 kib_60 ?_
  refine s_bind (fun q hq_2 => ?_)
  obtain ⟨r_1, rfl⟩ : ∃ z, z = q := ⟨_, rfl⟩
  refine s_callS0 (rest := []) (st1 := [.int r_1]) K (c_X7_isOutside a1 1 60 hq_2) hd_X7_isOutside t_185 t_186 t_1 t_187 ⟨(Nat.le_of_ble_eq_true rfl), (Nat.le_of_ble_eq_true rfl)⟩ ⟨rfl, rfl⟩ ⟨Nat.zero_le _, Nat.zero_le _⟩ rfl rfl (Nat.le_of_ble_eq_true rfl) dX7_games_4 ?_
  refine s_if_ne (tgt := 23) K dX7_games_7 (by decide) (fun c_3 => ?_) (fun c_3 => ?_)
  · refine s_iload_n K dX7_games_10 rfl 2 rfl ?_
    refine s_if_lt (tgt := 23) K dX7_games_11 (by decide) (fun c_4 => ?_) (fun c_4 => ?_)
    · refine s_bipush K dX7_games_23 kib_m102 ?_
      exact s_iret K hret hlk rfl rfl dX7_games_25
    · refine s_iload_n K dX7_games_14 rfl 3 rfl ?_
      refine s_iconst K dX7_games_15 kic_0 ?_
      refine s_iconst K dX7_games_16 kic_3 ?_
      refine s_bind (fun q hq_6 => ?_)
      obtain ⟨r_5, rfl⟩ : ∃ z, z = q := ⟨_, rfl⟩
      refine s_callS0 (rest := []) (st1 := [.int r_5]) K (c_X7_isOutside a3 0 3 hq_6) hd_X7_isOutside t_185 t_186 t_1 t_187 ⟨(Nat.le_of_ble_eq_true rfl), (Nat.le_of_ble_eq_true rfl)⟩ ⟨rfl, rfl⟩ ⟨Nat.zero_le _, Nat.zero_le _⟩ rfl rfl (Nat.le_of_ble_eq_true rfl) dX7_games_17 ?_
      refine s_if_eq (tgt := 26) K dX7_games_20 (by decide) (fun c_7 => ?_) (fun c_7 => ?_)
      · refine s_aload_n K dX7_games_26 rfl 0 rfl ?_
        refine s_bind (fun q hq_9 => ?_)
        obtain ⟨r_8, rfl⟩ : ∃ z, z = q := ⟨_, rfl⟩
        refine s_callV (w' := (wX cI cC cB cQ kc xh xp nh nd nb na kh kd kb ka th td tb ta gl ga gw ltr lrd srs bks img pag n_cnt n_wet n_stg n_dys n_dep n_knd n_siz n_plc n_onn n_axs k_cnt k_wet k_stg k_dys k_dep k_knd k_siz k_plc k_onn k_axs t_cnt t_wet t_stg t_dys t_dep t_knd t_siz t_plc t_onn t_axs l_gsz l_gsd l_gfw a_gfw a_gtg w_gwy w_grl w_gsz)) (rest := []) (st1 := [.int r_8]) K (c_X7_hasLawn xh xp nh nd nb na kh kd kb ka th td tb ta gl ga gw ltr lrd srs bks img pag n_cnt n_wet n_stg n_dys n_dep n_knd n_siz n_plc n_onn n_axs k_cnt k_wet k_stg k_dys k_dep k_knd k_siz k_plc k_onn k_axs t_cnt t_wet t_stg t_dys t_dep t_knd t_siz t_plc t_onn t_axs l_gsz l_gsd l_gfw a_gfw a_gtg w_gwy w_grl w_gsz hq_9) rfl hd_X7_hasLawn t_222 t_224 ts_0 t_1 t_225 ⟨(Nat.le_of_ble_eq_true rfl), (Nat.le_of_ble_eq_true rfl)⟩ ⟨rfl, rfl⟩ ⟨Nat.zero_le _, Nat.zero_le _⟩ (rv_o K 0 rfl rfl) [0, 1, 2, 3, 4, 5, 6, 7, 8, 9, 10, 11, 12, 13, 14, 15, 16, 17, 18, 19, 20, 21, 22, 23, 24, 25, 26, 27, 28] [] [0, 1, 2, 3, 4, 5, 6, 7, 8, 9, 10, 11, 12, 13, 14, 15, 16, 17, 18, 19, 20, 21, 22, 23, 24, 25, 26, 27, 28] rfl rfl rfl rfl (by decide) rfl rfl rfl rfl (Nat.le_of_ble_eq_true rfl) dX7_games_27 ?_
        refine s_if_eq (tgt := 43) K dX7_games_30 (by decide) (fun c_10 => ?_) (fun c_10 => ?_)
        · refine s_bipush K dX7_games_43 kib_m103 ?_
          exact s_iret K hret hlk rfl rfl dX7_games_45
        · refine s_aload_n K dX7_games_33 rfl 0 rfl ?_
          refine s_get K 0 rfl rfl inT7 1 (Nat.le_of_ble_eq_true rfl) t_145 rfl rfl dX7_games_34 ?_
          refine s_get K 2 rfl rfl inT4 2 (Nat.le_of_ble_eq_true rfl) t_72 rfl rfl dX7_games_37 ?_
          refine s_if_ne (tgt := 46) K dX7_games_40 (by decide) (fun c_11 => ?_) (fun c_11 => ?_)
          · refine s_bipush K dX7_games_43 kib_m103 ?_
            exact s_iret K hret hlk rfl rfl dX7_games_45
          · refine s_aload_n K dX7_games_46 rfl 0 rfl ?_
            refine s_get K 0 rfl rfl inT7 3 (Nat.le_of_ble_eq_true rfl) t_147 rfl rfl dX7_games_47 ?_
            refine s_aload_n K dX7_games_50 rfl 0 rfl ?_
            refine s_get K 0 rfl rfl inT7 1 (Nat.le_of_ble_eq_true rfl) t_145 rfl rfl dX7_games_51 ?_
            refine s_bind (fun q hq_22 => ?_)
            obtain ⟨t_cnt_12, t_wet_13, t_stg_14, t_dys_15, t_dep_16, t_knd_17, t_siz_18, t_plc_19, t_onn_20, t_axs_21⟩ := q
            refine s_callV (w' := (wX cI cC cB cQ kc xh xp nh nd nb na kh kd kb ka th td tb ta gl ga gw ltr lrd srs bks img pag n_cnt n_wet n_stg n_dys n_dep n_knd n_siz n_plc n_onn n_axs k_cnt k_wet k_stg k_dys k_dep k_knd k_siz k_plc k_onn k_axs t_cnt_12 t_wet_13 t_stg_14 t_dys_15 t_dep_16 t_knd_17 t_siz_18 t_plc_19 t_onn_20 t_axs_21 l_gsz l_gsd l_gfw a_gfw a_gtg w_gwy w_grl w_gsz)) (rest := []) (st1 := []) K (c_X4_copyFrom th td tb ta nh nd nb na t_cnt t_wet t_stg t_dys t_dep t_knd t_siz t_plc t_onn t_axs n_cnt n_wet n_stg n_dys n_dep n_knd n_siz n_plc n_onn n_axs hq_22) rfl hd_X4_copyFrom t_409 t_410 t_411 t_2 t_412 ⟨(Nat.le_of_ble_eq_true rfl), (Nat.le_of_ble_eq_true rfl)⟩ ⟨rfl, rfl⟩ ⟨Nat.zero_le _, Nat.zero_le _⟩ (rv_o K 18 rfl rfl) [18, 19, 20, 21, 22, 23, 24, 25, 2, 3, 4, 5, 6, 7, 8, 9] [0, 1, 10, 11, 12, 13, 14, 15, 16, 17, 26, 27, 28] [0, 1, 21, 22, 23, 24, 25, 26, 27, 28, 2, 3, 4, 5, 6, 7, 8, 9, 13, 14, 15, 16, 17, 18, 19, 20, 10, 11, 12] rfl rfl rfl rfl (by decide) rfl rfl rfl rfl (Nat.le_of_ble_eq_true rfl) dX7_games_54 ?_
            refine s_iload_n K dX7_games_57 rfl 2 rfl ?_
            refine s_i2l K dX7_games_58 ?_
            refine s_lstore (lv' := [(4, .long (Int32.toInt64 a2)), (0, .ref xh), (1, .int a1), (2, .int a2), (3, .int a3)]) K dX7_games_59 (Nat.le_of_ble_eq_true rfl) rfl ?_
            refine s_iconst K dX7_games_61 kic_0 ?_
            refine s_istore (lv' := [(6, .int 0), (4, .long (Int32.toInt64 a2)), (0, .ref xh), (1, .int a1), (2, .int a2), (3, .int a3)]) K dX7_games_62 (Nat.le_of_ble_eq_true rfl) rfl ?_
            refine s_iconst K dX7_games_64 kic_0 ?_
            refine s_istore (lv' := [(7, .int 0), (6, .int 0), (4, .long (Int32.toInt64 a2)), (0, .ref xh), (1, .int a1), (2, .int a2), (3, .int a3)]) K dX7_games_65 (Nat.le_of_ble_eq_true rfl) rfl ?_
            refine s_lv (lv' := [(0, .ref xh), (1, .int a1), (3, .int a3), (4, .long (Int32.toInt64 a2)), (6, .int 0), (7, .int 0)]) [3, 4, 6, 2, 1, 0] rfl ?_
            exact L67 70 t_cnt_12 t_wet_13 t_stg_14 t_dys_15 t_dep_16 t_knd_17 t_siz_18 t_plc_19 t_onn_20 t_axs_21 (Int32.toInt64 a2) 0 0
      · refine s_bipush K dX7_games_23 kib_m102 ?_
        exact s_iret K hret hlk rfl rfl dX7_games_25
  · refine s_bipush K dX7_games_23 kib_m102 ?_
    exact s_iret K hret hlk rfl rfl dX7_games_25
set_option maxHeartbeats 4000000 in
set_option maxRecDepth 100000 in
theorem c_X7_image {l : Launch} {D : va_G} {cI cC cB cQ : ClassId} {kc : Nat → Nat} {kt : Nat} (xh xp nh nd nb : Nat) (na : Nat → Nat) (kh kd kb : Nat) (ka : Nat → Nat) (th td tb : Nat) (ta : Nat → Nat) (gl ga gw : Nat) (ltr lrd srs bks img : Int32) (pag : Nat → Int32) (n_cnt n_wet n_stg n_dys : Int32) (n_dep : Nat → Int32) (n_knd : Nat → Nat) (n_siz n_plc n_onn n_axs : Nat → Int32) (k_cnt k_wet k_stg k_dys : Int32) (k_dep : Nat → Int32) (k_knd : Nat → Nat) (k_siz k_plc k_onn k_axs : Nat → Int32) (t_cnt t_wet t_stg t_dys : Int32) (t_dep : Nat → Int32) (t_knd : Nat → Nat) (t_siz t_plc t_onn t_axs : Nat → Int32) (l_gsz l_gsd l_gfw a_gfw a_gtg w_gwy w_grl w_gsz : Int32) {r : Int32 × Int32 × Int32 × Int32 × Int32 × Int32 × (Nat → Int32) × (Nat → Nat) × (Nat → Int32) × (Nat → Int32) × (Nat → Int32) × (Nat → Int32)} (hF : f_X7_image lrd img n_cnt n_wet n_stg n_dys n_dep n_knd n_siz n_plc n_onn n_axs k_cnt k_wet k_stg k_dys k_dep k_knd k_siz k_plc k_onn k_axs = some r) : CT l D (tysOf cI cC cB cQ) kc kt yX7_image cX7_image 1 (some .int) ({ frames := 3, cells := 0, slots := 0, locals := 163 } : Room) [.ref xh] (wX cI cC cB cQ kc xh xp nh nd nb na kh kd kb ka th td tb ta gl ga gw ltr lrd srs bks img pag n_cnt n_wet n_stg n_dys n_dep n_knd n_siz n_plc n_onn n_axs k_cnt k_wet k_stg k_dys k_dep k_knd k_siz k_plc k_onn k_axs t_cnt t_wet t_stg t_dys t_dep t_knd t_siz t_plc t_onn t_axs l_gsz l_gsd l_gfw a_gfw a_gtg w_gwy w_grl w_gsz) ((fun (r : Int32 × Int32 × Int32 × Int32 × Int32 × Int32 × (Nat → Int32) × (Nat → Nat) × (Nat → Int32) × (Nat → Int32) × (Nat → Int32) × (Nat → Int32)) => (wX cI cC cB cQ kc xh xp nh nd nb na kh kd kb ka th td tb ta gl ga gw ltr lrd srs bks (r.2.1) pag n_cnt n_wet n_stg n_dys n_dep n_knd n_siz n_plc n_onn n_axs (r.2.2.1) (r.2.2.2.1) (r.2.2.2.2.1) (r.2.2.2.2.2.1) (r.2.2.2.2.2.2.1) (r.2.2.2.2.2.2.2.1) (r.2.2.2.2.2.2.2.2.1) (r.2.2.2.2.2.2.2.2.2.1) (r.2.2.2.2.2.2.2.2.2.2.1) (r.2.2.2.2.2.2.2.2.2.2.2) t_cnt t_wet t_stg t_dys t_dep t_knd t_siz t_plc t_onn t_axs l_gsz l_gsd l_gfw a_gfw a_gtg w_gwy w_grl w_gsz)) r) ((fun (r : Int32 × Int32 × Int32 × Int32 × Int32 × Int32 × (Nat → Int32) × (Nat → Nat) × (Nat → Int32) × (Nat → Int32) × (Nat → Int32) × (Nat → Int32)) => some (.int (r.1))) r) := by
  refine CT.of (ww := (fun (r : Int32 × Int32 × Int32 × Int32 × Int32 × Int32 × (Nat → Int32) × (Nat → Nat) × (Nat → Int32) × (Nat → Int32) × (Nat → Int32) × (Nat → Int32)) => (wX cI cC cB cQ kc xh xp nh nd nb na kh kd kb ka th td tb ta gl ga gw ltr lrd srs bks (r.2.1) pag n_cnt n_wet n_stg n_dys n_dep n_knd n_siz n_plc n_onn n_axs (r.2.2.1) (r.2.2.2.1) (r.2.2.2.2.1) (r.2.2.2.2.2.1) (r.2.2.2.2.2.2.1) (r.2.2.2.2.2.2.2.1) (r.2.2.2.2.2.2.2.2.1) (r.2.2.2.2.2.2.2.2.2.1) (r.2.2.2.2.2.2.2.2.2.2.1) (r.2.2.2.2.2.2.2.2.2.2.2) t_cnt t_wet t_stg t_dys t_dep t_knd t_siz t_plc t_onn t_axs l_gsz l_gsd l_gfw a_gfw a_gtg w_gwy w_grl w_gsz))) (oo := (fun (r : Int32 × Int32 × Int32 × Int32 × Int32 × Int32 × (Nat → Int32) × (Nat → Nat) × (Nat → Int32) × (Nat → Int32) × (Nat → Int32) × (Nat → Int32)) => some (.int (r.1)))) hF RX7 rfl rfl (Nat.le_of_ble_eq_true rfl) ?_
  intro p e s m args below meth c A K hret hlk
  rewrite [f_X7_image]
  refine s_aload_n K dX7_image_0 rfl 0 rfl ?_
  refine s_bind (fun q hq_2 => ?_)
  obtain ⟨r_1, rfl⟩ : ∃ z, z = q := ⟨_, rfl⟩
  refine s_callV (w' := (wX cI cC cB cQ kc xh xp nh nd nb na kh kd kb ka th td tb ta gl ga gw ltr lrd srs bks img pag n_cnt n_wet n_stg n_dys n_dep n_knd n_siz n_plc n_onn n_axs k_cnt k_wet k_stg k_dys k_dep k_knd k_siz k_plc k_onn k_axs t_cnt t_wet t_stg t_dys t_dep t_knd t_siz t_plc t_onn t_axs l_gsz l_gsd l_gfw a_gfw a_gtg w_gwy w_grl w_gsz)) (rest := []) (st1 := [.int r_1]) K (c_X7_hasLawn xh xp nh nd nb na kh kd kb ka th td tb ta gl ga gw ltr lrd srs bks img pag n_cnt n_wet n_stg n_dys n_dep n_knd n_siz n_plc n_onn n_axs k_cnt k_wet k_stg k_dys k_dep k_knd k_siz k_plc k_onn k_axs t_cnt t_wet t_stg t_dys t_dep t_knd t_siz t_plc t_onn t_axs l_gsz l_gsd l_gfw a_gfw a_gtg w_gwy w_grl w_gsz hq_2) rfl hd_X7_hasLawn t_222 t_224 ts_0 t_1 t_225 ⟨(Nat.le_of_ble_eq_true rfl), (Nat.le_of_ble_eq_true rfl)⟩ ⟨rfl, rfl⟩ ⟨Nat.zero_le _, Nat.zero_le _⟩ (rv_o K 0 rfl rfl) [0, 1, 2, 3, 4, 5, 6, 7, 8, 9, 10, 11, 12, 13, 14, 15, 16, 17, 18, 19, 20, 21, 22, 23, 24, 25, 26, 27, 28] [] [0, 1, 2, 3, 4, 5, 6, 7, 8, 9, 10, 11, 12, 13, 14, 15, 16, 17, 18, 19, 20, 21, 22, 23, 24, 25, 26, 27, 28] rfl rfl rfl rfl (by decide) rfl rfl rfl rfl (Nat.le_of_ble_eq_true rfl) dX7_image_1 ?_
  refine s_if_ne (tgt := 10) K dX7_image_4 (by decide) (fun c_3 => ?_) (fun c_3 => ?_)
  · refine s_bipush K dX7_image_7 kib_m103 ?_
    exact s_iret K hret hlk rfl rfl dX7_image_9
  · refine s_aload_n K dX7_image_10 rfl 0 rfl ?_
    refine s_get K 0 rfl rfl inT7 2 (Nat.le_of_ble_eq_true rfl) t_146 rfl rfl dX7_image_11 ?_
    refine s_aload_n K dX7_image_14 rfl 0 rfl ?_
    refine s_get K 0 rfl rfl inT7 1 (Nat.le_of_ble_eq_true rfl) t_145 rfl rfl dX7_image_15 ?_
    refine s_bind (fun q hq_14 => ?_)
    obtain ⟨k_cnt_4, k_wet_5, k_stg_6, k_dys_7, k_dep_8, k_knd_9, k_siz_10, k_plc_11, k_onn_12, k_axs_13⟩ := q
    refine s_callV (w' := (wX cI cC cB cQ kc xh xp nh nd nb na kh kd kb ka th td tb ta gl ga gw ltr lrd srs bks img pag n_cnt n_wet n_stg n_dys n_dep n_knd n_siz n_plc n_onn n_axs k_cnt_4 k_wet_5 k_stg_6 k_dys_7 k_dep_8 k_knd_9 k_siz_10 k_plc_11 k_onn_12 k_axs_13 t_cnt t_wet t_stg t_dys t_dep t_knd t_siz t_plc t_onn t_axs l_gsz l_gsd l_gfw a_gfw a_gtg w_gwy w_grl w_gsz)) (rest := []) (st1 := []) K (c_X4_copyFrom kh kd kb ka nh nd nb na k_cnt k_wet k_stg k_dys k_dep k_knd k_siz k_plc k_onn k_axs n_cnt n_wet n_stg n_dys n_dep n_knd n_siz n_plc n_onn n_axs hq_14) rfl hd_X4_copyFrom t_409 t_410 t_411 t_2 t_412 ⟨(Nat.le_of_ble_eq_true rfl), (Nat.le_of_ble_eq_true rfl)⟩ ⟨rfl, rfl⟩ ⟨Nat.zero_le _, Nat.zero_le _⟩ (rv_o K 10 rfl rfl) [10, 11, 12, 13, 14, 15, 16, 17, 2, 3, 4, 5, 6, 7, 8, 9] [0, 1, 18, 19, 20, 21, 22, 23, 24, 25, 26, 27, 28] [0, 1, 21, 22, 23, 24, 25, 26, 27, 28, 13, 14, 15, 16, 17, 18, 19, 20, 2, 3, 4, 5, 6, 7, 8, 9, 10, 11, 12] rfl rfl rfl rfl (by decide) rfl rfl rfl rfl (Nat.le_of_ble_eq_true rfl) dX7_image_18 ?_
    refine s_aload_n K dX7_image_21 rfl 0 rfl ?_
    refine s_iconst K dX7_image_22 kic_1 ?_
    refine s_put (w' := (wX cI cC cB cQ kc xh xp nh nd nb na kh kd kb ka th td tb ta gl ga gw ltr lrd srs bks 1 pag n_cnt n_wet n_stg n_dys n_dep n_knd n_siz n_plc n_onn n_axs k_cnt_4 k_wet_5 k_stg_6 k_dys_7 k_dep_8 k_knd_9 k_siz_10 k_plc_11 k_onn_12 k_axs_13 t_cnt t_wet t_stg t_dys t_dep t_knd t_siz t_plc t_onn t_axs l_gsz l_gsd l_gfw a_gfw a_gtg w_gwy w_grl w_gsz)) K 0 rfl rfl inT7 tyX7_ok nmX7 11 (Nat.le_of_ble_eq_true rfl) t_155 rfl rfl rfl rfl (Nat.le_of_ble_eq_true rfl) rfl dX7_image_23 ?_
    refine s_aload_n K dX7_image_26 rfl 0 rfl ?_
    refine s_get K 0 rfl rfl inT7 2 (Nat.le_of_ble_eq_true rfl) t_146 rfl rfl dX7_image_27 ?_
    refine s_get K 10 rfl rfl inT4 2 (Nat.le_of_ble_eq_true rfl) t_72 rfl rfl dX7_image_30 ?_
    exact s_iret K hret hlk rfl rfl dX7_image_33
set_option maxHeartbeats 4000000 in
set_option maxRecDepth 100000 in
theorem c_X7_restore {l : Launch} {D : va_G} {cI cC cB cQ : ClassId} {kc : Nat → Nat} {kt : Nat} (xh xp nh nd nb : Nat) (na : Nat → Nat) (kh kd kb : Nat) (ka : Nat → Nat) (th td tb : Nat) (ta : Nat → Nat) (gl ga gw : Nat) (ltr lrd srs bks img : Int32) (pag : Nat → Int32) (n_cnt n_wet n_stg n_dys : Int32) (n_dep : Nat → Int32) (n_knd : Nat → Nat) (n_siz n_plc n_onn n_axs : Nat → Int32) (k_cnt k_wet k_stg k_dys : Int32) (k_dep : Nat → Int32) (k_knd : Nat → Nat) (k_siz k_plc k_onn k_axs : Nat → Int32) (t_cnt t_wet t_stg t_dys : Int32) (t_dep : Nat → Int32) (t_knd : Nat → Nat) (t_siz t_plc t_onn t_axs : Nat → Int32) (l_gsz l_gsd l_gfw a_gfw a_gtg w_gwy w_grl w_gsz : Int32) {r : Int32 × Int32 × Int32 × Int32 × Int32 × (Nat → Int32) × (Nat → Nat) × (Nat → Int32) × (Nat → Int32) × (Nat → Int32) × (Nat → Int32)} (hF : f_X7_restore img n_cnt n_wet n_stg n_dys n_dep n_knd n_siz n_plc n_onn n_axs k_cnt k_wet k_stg k_dys k_dep k_knd k_siz k_plc k_onn k_axs = some r) : CT l D (tysOf cI cC cB cQ) kc kt yX7_restore cX7_restore 1 (some .int) ({ frames := 3, cells := 0, slots := 0, locals := 163 } : Room) [.ref xh] (wX cI cC cB cQ kc xh xp nh nd nb na kh kd kb ka th td tb ta gl ga gw ltr lrd srs bks img pag n_cnt n_wet n_stg n_dys n_dep n_knd n_siz n_plc n_onn n_axs k_cnt k_wet k_stg k_dys k_dep k_knd k_siz k_plc k_onn k_axs t_cnt t_wet t_stg t_dys t_dep t_knd t_siz t_plc t_onn t_axs l_gsz l_gsd l_gfw a_gfw a_gtg w_gwy w_grl w_gsz) ((fun (r : Int32 × Int32 × Int32 × Int32 × Int32 × (Nat → Int32) × (Nat → Nat) × (Nat → Int32) × (Nat → Int32) × (Nat → Int32) × (Nat → Int32)) => (wX cI cC cB cQ kc xh xp nh nd nb na kh kd kb ka th td tb ta gl ga gw ltr lrd srs bks img pag (r.2.1) (r.2.2.1) (r.2.2.2.1) (r.2.2.2.2.1) (r.2.2.2.2.2.1) (r.2.2.2.2.2.2.1) (r.2.2.2.2.2.2.2.1) (r.2.2.2.2.2.2.2.2.1) (r.2.2.2.2.2.2.2.2.2.1) (r.2.2.2.2.2.2.2.2.2.2) k_cnt k_wet k_stg k_dys k_dep k_knd k_siz k_plc k_onn k_axs t_cnt t_wet t_stg t_dys t_dep t_knd t_siz t_plc t_onn t_axs l_gsz l_gsd l_gfw a_gfw a_gtg w_gwy w_grl w_gsz)) r) ((fun (r : Int32 × Int32 × Int32 × Int32 × Int32 × (Nat → Int32) × (Nat → Nat) × (Nat → Int32) × (Nat → Int32) × (Nat → Int32) × (Nat → Int32)) => some (.int (r.1))) r) := by
  refine CT.of (ww := (fun (r : Int32 × Int32 × Int32 × Int32 × Int32 × (Nat → Int32) × (Nat → Nat) × (Nat → Int32) × (Nat → Int32) × (Nat → Int32) × (Nat → Int32)) => (wX cI cC cB cQ kc xh xp nh nd nb na kh kd kb ka th td tb ta gl ga gw ltr lrd srs bks img pag (r.2.1) (r.2.2.1) (r.2.2.2.1) (r.2.2.2.2.1) (r.2.2.2.2.2.1) (r.2.2.2.2.2.2.1) (r.2.2.2.2.2.2.2.1) (r.2.2.2.2.2.2.2.2.1) (r.2.2.2.2.2.2.2.2.2.1) (r.2.2.2.2.2.2.2.2.2.2) k_cnt k_wet k_stg k_dys k_dep k_knd k_siz k_plc k_onn k_axs t_cnt t_wet t_stg t_dys t_dep t_knd t_siz t_plc t_onn t_axs l_gsz l_gsd l_gfw a_gfw a_gtg w_gwy w_grl w_gsz))) (oo := (fun (r : Int32 × Int32 × Int32 × Int32 × Int32 × (Nat → Int32) × (Nat → Nat) × (Nat → Int32) × (Nat → Int32) × (Nat → Int32) × (Nat → Int32)) => some (.int (r.1)))) hF RX7 rfl rfl (Nat.le_of_ble_eq_true rfl) ?_
  intro p e s m args below meth c A K hret hlk
  rewrite [f_X7_restore]
  refine s_aload_n K dX7_restore_0 rfl 0 rfl ?_
  refine s_get K 0 rfl rfl inT7 11 (Nat.le_of_ble_eq_true rfl) t_155 rfl rfl dX7_restore_1 ?_
  refine s_if_ne (tgt := 10) K dX7_restore_4 (by decide) (fun c_1 => ?_) (fun c_1 => ?_)
  · refine s_bipush K dX7_restore_7 kib_m103 ?_
    exact s_iret K hret hlk rfl rfl dX7_restore_9
  · refine s_aload_n K dX7_restore_10 rfl 0 rfl ?_
    refine s_get K 0 rfl rfl inT7 1 (Nat.le_of_ble_eq_true rfl) t_145 rfl rfl dX7_restore_11 ?_
    refine s_aload_n K dX7_restore_14 rfl 0 rfl ?_
    refine s_get K 0 rfl rfl inT7 2 (Nat.le_of_ble_eq_true rfl) t_146 rfl rfl dX7_restore_15 ?_
    refine s_bind (fun q hq_12 => ?_)
    obtain ⟨n_cnt_2, n_wet_3, n_stg_4, n_dys_5, n_dep_6, n_knd_7, n_siz_8, n_plc_9, n_onn_10, n_axs_11⟩ := q
    refine s_callV (w' := (wX cI cC cB cQ kc xh xp nh nd nb na kh kd kb ka th td tb ta gl ga gw ltr lrd srs bks img pag n_cnt_2 n_wet_3 n_stg_4 n_dys_5 n_dep_6 n_knd_7 n_siz_8 n_plc_9 n_onn_10 n_axs_11 k_cnt k_wet k_stg k_dys k_dep k_knd k_siz k_plc k_onn k_axs t_cnt t_wet t_stg t_dys t_dep t_knd t_siz t_plc t_onn t_axs l_gsz l_gsd l_gfw a_gfw a_gtg w_gwy w_grl w_gsz)) (rest := []) (st1 := []) K (c_X4_copyFrom nh nd nb na kh kd kb ka n_cnt n_wet n_stg n_dys n_dep n_knd n_siz n_plc n_onn n_axs k_cnt k_wet k_stg k_dys k_dep k_knd k_siz k_plc k_onn k_axs hq_12) rfl hd_X4_copyFrom t_409 t_410 t_411 t_2 t_412 ⟨(Nat.le_of_ble_eq_true rfl), (Nat.le_of_ble_eq_true rfl)⟩ ⟨rfl, rfl⟩ ⟨Nat.zero_le _, Nat.zero_le _⟩ (rv_o K 2 rfl rfl) [2, 3, 4, 5, 6, 7, 8, 9, 10, 11, 12, 13, 14, 15, 16, 17] [0, 1, 18, 19, 20, 21, 22, 23, 24, 25, 26, 27, 28] [0, 1, 13, 14, 15, 16, 17, 18, 19, 20, 21, 22, 23, 24, 25, 26, 27, 28, 2, 3, 4, 5, 6, 7, 8, 9, 10, 11, 12] rfl rfl rfl rfl (by decide) rfl rfl rfl rfl (Nat.le_of_ble_eq_true rfl) dX7_restore_18 ?_
    refine s_aload_n K dX7_restore_21 rfl 0 rfl ?_
    refine s_get K 0 rfl rfl inT7 1 (Nat.le_of_ble_eq_true rfl) t_145 rfl rfl dX7_restore_22 ?_
    refine s_get K 2 rfl rfl inT4 2 (Nat.le_of_ble_eq_true rfl) t_72 rfl rfl dX7_restore_25 ?_
    exact s_iret K hret hlk rfl rfl dX7_restore_28
set_option maxHeartbeats 4000000 in
set_option maxRecDepth 100000 in
theorem c_X7_count {l : Launch} {D : va_G} {cI cC cB cQ : ClassId} {kc : Nat → Nat} {kt : Nat} (xh xp nh nd nb : Nat) (na : Nat → Nat) (kh kd kb : Nat) (ka : Nat → Nat) (th td tb : Nat) (ta : Nat → Nat) (gl ga gw : Nat) (ltr lrd srs bks img : Int32) (pag : Nat → Int32) (n_cnt n_wet n_stg n_dys : Int32) (n_dep : Nat → Int32) (n_knd : Nat → Nat) (n_siz n_plc n_onn n_axs : Nat → Int32) (k_cnt k_wet k_stg k_dys : Int32) (k_dep : Nat → Int32) (k_knd : Nat → Nat) (k_siz k_plc k_onn k_axs : Nat → Int32) (t_cnt t_wet t_stg t_dys : Int32) (t_dep : Nat → Int32) (t_knd : Nat → Nat) (t_siz t_plc t_onn t_axs : Nat → Int32) (l_gsz l_gsd l_gfw a_gfw a_gtg w_gwy w_grl w_gsz : Int32) (a1 : Int32) {r : Int32} (hF : f_X7_count ltr lrd srs bks n_cnt n_wet n_stg n_dys n_dep n_siz a1 = some r) : CT l D (tysOf cI cC cB cQ) kc kt yX7_count cX7_count 2 (some .int) ({ frames := 3, cells := 0, slots := 0, locals := 162 } : Room) [.ref xh, .int a1] (wX cI cC cB cQ kc xh xp nh nd nb na kh kd kb ka th td tb ta gl ga gw ltr lrd srs bks img pag n_cnt n_wet n_stg n_dys n_dep n_knd n_siz n_plc n_onn n_axs k_cnt k_wet k_stg k_dys k_dep k_knd k_siz k_plc k_onn k_axs t_cnt t_wet t_stg t_dys t_dep t_knd t_siz t_plc t_onn t_axs l_gsz l_gsd l_gfw a_gfw a_gtg w_gwy w_grl w_gsz) ((fun (r : Int32) => (wX cI cC cB cQ kc xh xp nh nd nb na kh kd kb ka th td tb ta gl ga gw ltr lrd srs bks img pag n_cnt n_wet n_stg n_dys n_dep n_knd n_siz n_plc n_onn n_axs k_cnt k_wet k_stg k_dys k_dep k_knd k_siz k_plc k_onn k_axs t_cnt t_wet t_stg t_dys t_dep t_knd t_siz t_plc t_onn t_axs l_gsz l_gsd l_gfw a_gfw a_gtg w_gwy w_grl w_gsz)) r) ((fun (r : Int32) => some (.int r)) r) := by
  refine CT.of (ww := (fun (r : Int32) => (wX cI cC cB cQ kc xh xp nh nd nb na kh kd kb ka th td tb ta gl ga gw ltr lrd srs bks img pag n_cnt n_wet n_stg n_dys n_dep n_knd n_siz n_plc n_onn n_axs k_cnt k_wet k_stg k_dys k_dep k_knd k_siz k_plc k_onn k_axs t_cnt t_wet t_stg t_dys t_dep t_knd t_siz t_plc t_onn t_axs l_gsz l_gsd l_gfw a_gfw a_gtg w_gwy w_grl w_gsz))) (oo := (fun (r : Int32) => some (.int r))) hF RX7 rfl rfl (Nat.le_of_ble_eq_true rfl) ?_
  intro p e s m args below meth c A K hret hlk
  rewrite [f_X7_count]
  refine s_iload_n K dX7_count_0 rfl 1 rfl ?_
  refine s_ite (fun c_1 => ?_) (fun c_1 => ?_)
  · refine s_swIn K (0) 64 dX7_count_1 ⟨by decide, by decide⟩ rfl (by decide) c_1 ?_
    refine s_aload_n K dX7_count_64 rfl 0 rfl ?_
    refine s_get K 0 rfl rfl inT7 1 (Nat.le_of_ble_eq_true rfl) t_145 rfl rfl dX7_count_65 ?_
    refine s_bind (fun q hq_3 => ?_)
    obtain ⟨r_2, rfl⟩ : ∃ z, z = q := ⟨_, rfl⟩
    refine s_callV (w' := (wX cI cC cB cQ kc xh xp nh nd nb na kh kd kb ka th td tb ta gl ga gw ltr lrd srs bks img pag n_cnt n_wet n_stg n_dys n_dep n_knd n_siz n_plc n_onn n_axs k_cnt k_wet k_stg k_dys k_dep k_knd k_siz k_plc k_onn k_axs t_cnt t_wet t_stg t_dys t_dep t_knd t_siz t_plc t_onn t_axs l_gsz l_gsd l_gfw a_gfw a_gtg w_gwy w_grl w_gsz)) (rest := []) (st1 := [.int r_2]) K (c_X4_allDepths nh nd nb na n_cnt n_wet n_stg n_dys n_dep n_knd n_siz n_plc n_onn n_axs hq_3) rfl hd_X4_allDepths t_211 t_212 t_213 t_2 t_214 ⟨(Nat.le_of_ble_eq_true rfl), (Nat.le_of_ble_eq_true rfl)⟩ ⟨rfl, rfl⟩ ⟨Nat.zero_le _, Nat.zero_le _⟩ (rv_o K 2 rfl rfl) [2, 3, 4, 5, 6, 7, 8, 9] [0, 1, 10, 11, 12, 13, 14, 15, 16, 17, 18, 19, 20, 21, 22, 23, 24, 25, 26, 27, 28] [0, 1, 21, 22, 23, 24, 25, 26, 27, 28, 2, 3, 4, 5, 6, 7, 8, 9, 10, 11, 12, 13, 14, 15, 16, 17, 18, 19, 20] rfl rfl rfl rfl (by decide) rfl rfl rfl rfl (Nat.le_of_ble_eq_true rfl) dX7_count_68 ?_
    exact s_iret K hret hlk rfl rfl dX7_count_71
  · refine s_ite (fun c_4 => ?_) (fun c_4 => ?_)
    · refine s_swIn K (1) 72 dX7_count_1 ⟨by decide, by decide⟩ rfl (by decide) c_4 ?_
      refine s_aload_n K dX7_count_72 rfl 0 rfl ?_
      refine s_get K 0 rfl rfl inT7 1 (Nat.le_of_ble_eq_true rfl) t_145 rfl rfl dX7_count_73 ?_
      refine s_get K 2 rfl rfl inT4 2 (Nat.le_of_ble_eq_true rfl) t_72 rfl rfl dX7_count_76 ?_
      exact s_iret K hret hlk rfl rfl dX7_count_79
    · refine s_ite (fun c_5 => ?_) (fun c_5 => ?_)
      · refine s_swIn K (2) 80 dX7_count_1 ⟨by decide, by decide⟩ rfl (by decide) c_5 ?_
        refine s_aload_n K dX7_count_80 rfl 0 rfl ?_
        refine s_get K 0 rfl rfl inT7 1 (Nat.le_of_ble_eq_true rfl) t_145 rfl rfl dX7_count_81 ?_
        refine s_bind (fun q hq_7 => ?_)
        obtain ⟨r_6, rfl⟩ : ∃ z, z = q := ⟨_, rfl⟩
        refine s_callV (w' := (wX cI cC cB cQ kc xh xp nh nd nb na kh kd kb ka th td tb ta gl ga gw ltr lrd srs bks img pag n_cnt n_wet n_stg n_dys n_dep n_knd n_siz n_plc n_onn n_axs k_cnt k_wet k_stg k_dys k_dep k_knd k_siz k_plc k_onn k_axs t_cnt t_wet t_stg t_dys t_dep t_knd t_siz t_plc t_onn t_axs l_gsz l_gsd l_gfw a_gfw a_gtg w_gwy w_grl w_gsz)) (rest := []) (st1 := [.int r_6]) K (c_X4_goneBalls nh nd nb na n_cnt n_wet n_stg n_dys n_dep n_knd n_siz n_plc n_onn n_axs hq_7) rfl hd_X4_goneBalls t_516 t_517 t_518 t_2 t_519 ⟨(Nat.le_of_ble_eq_true rfl), (Nat.le_of_ble_eq_true rfl)⟩ ⟨rfl, rfl⟩ ⟨Nat.zero_le _, Nat.zero_le _⟩ (rv_o K 2 rfl rfl) [2, 3, 4, 5, 6, 7, 8, 9] [0, 1, 10, 11, 12, 13, 14, 15, 16, 17, 18, 19, 20, 21, 22, 23, 24, 25, 26, 27, 28] [0, 1, 21, 22, 23, 24, 25, 26, 27, 28, 2, 3, 4, 5, 6, 7, 8, 9, 10, 11, 12, 13, 14, 15, 16, 17, 18, 19, 20] rfl rfl rfl rfl (by decide) rfl rfl rfl rfl (Nat.le_of_ble_eq_true rfl) dX7_count_84 ?_
        exact s_iret K hret hlk rfl rfl dX7_count_87
      · refine s_ite (fun c_8 => ?_) (fun c_8 => ?_)
        · refine s_swIn K (3) 88 dX7_count_1 ⟨by decide, by decide⟩ rfl (by decide) c_8 ?_
          refine s_aload_n K dX7_count_88 rfl 0 rfl ?_
          refine s_bind (fun q hq_10 => ?_)
          obtain ⟨r_9, rfl⟩ : ∃ z, z = q := ⟨_, rfl⟩
          refine s_callV (w' := (wX cI cC cB cQ kc xh xp nh nd nb na kh kd kb ka th td tb ta gl ga gw ltr lrd srs bks img pag n_cnt n_wet n_stg n_dys n_dep n_knd n_siz n_plc n_onn n_axs k_cnt k_wet k_stg k_dys k_dep k_knd k_siz k_plc k_onn k_axs t_cnt t_wet t_stg t_dys t_dep t_knd t_siz t_plc t_onn t_axs l_gsz l_gsd l_gfw a_gfw a_gtg w_gwy w_grl w_gsz)) (rest := []) (st1 := [.int r_9]) K (c_X7_hasLawn xh xp nh nd nb na kh kd kb ka th td tb ta gl ga gw ltr lrd srs bks img pag n_cnt n_wet n_stg n_dys n_dep n_knd n_siz n_plc n_onn n_axs k_cnt k_wet k_stg k_dys k_dep k_knd k_siz k_plc k_onn k_axs t_cnt t_wet t_stg t_dys t_dep t_knd t_siz t_plc t_onn t_axs l_gsz l_gsd l_gfw a_gfw a_gtg w_gwy w_grl w_gsz hq_10) rfl hd_X7_hasLawn t_222 t_224 ts_0 t_1 t_225 ⟨(Nat.le_of_ble_eq_true rfl), (Nat.le_of_ble_eq_true rfl)⟩ ⟨rfl, rfl⟩ ⟨Nat.zero_le _, Nat.zero_le _⟩ (rv_o K 0 rfl rfl) [0, 1, 2, 3, 4, 5, 6, 7, 8, 9, 10, 11, 12, 13, 14, 15, 16, 17, 18, 19, 20, 21, 22, 23, 24, 25, 26, 27, 28] [] [0, 1, 2, 3, 4, 5, 6, 7, 8, 9, 10, 11, 12, 13, 14, 15, 16, 17, 18, 19, 20, 21, 22, 23, 24, 25, 26, 27, 28] rfl rfl rfl rfl (by decide) rfl rfl rfl rfl (Nat.le_of_ble_eq_true rfl) dX7_count_89 ?_
          refine s_if_eq (tgt := 105) K dX7_count_92 (by decide) (fun c_11 => ?_) (fun c_11 => ?_)
          · refine s_iconst K dX7_count_105 kic_0 ?_
            exact s_iret K hret hlk rfl rfl dX7_count_106
          · refine s_aload_n K dX7_count_95 rfl 0 rfl ?_
            refine s_get K 0 rfl rfl inT7 1 (Nat.le_of_ble_eq_true rfl) t_145 rfl rfl dX7_count_96 ?_
            refine s_bind (fun q hq_13 => ?_)
            obtain ⟨r_12, rfl⟩ : ∃ z, z = q := ⟨_, rfl⟩
            refine s_callV (w' := (wX cI cC cB cQ kc xh xp nh nd nb na kh kd kb ka th td tb ta gl ga gw ltr lrd srs bks img pag n_cnt n_wet n_stg n_dys n_dep n_knd n_siz n_plc n_onn n_axs k_cnt k_wet k_stg k_dys k_dep k_knd k_siz k_plc k_onn k_axs t_cnt t_wet t_stg t_dys t_dep t_knd t_siz t_plc t_onn t_axs l_gsz l_gsd l_gfw a_gfw a_gtg w_gwy w_grl w_gsz)) (rest := []) (st1 := [.int r_12]) K (c_X4_greenPlaces nh nd nb na n_cnt n_wet n_stg n_dys n_dep n_knd n_siz n_plc n_onn n_axs hq_13) rfl hd_X4_greenPlaces t_520 t_521 t_522 t_2 t_523 ⟨(Nat.le_of_ble_eq_true rfl), (Nat.le_of_ble_eq_true rfl)⟩ ⟨rfl, rfl⟩ ⟨Nat.zero_le _, Nat.zero_le _⟩ (rv_o K 2 rfl rfl) [2, 3, 4, 5, 6, 7, 8, 9] [0, 1, 10, 11, 12, 13, 14, 15, 16, 17, 18, 19, 20, 21, 22, 23, 24, 25, 26, 27, 28] [0, 1, 21, 22, 23, 24, 25, 26, 27, 28, 2, 3, 4, 5, 6, 7, 8, 9, 10, 11, 12, 13, 14, 15, 16, 17, 18, 19, 20] rfl rfl rfl rfl (by decide) rfl rfl rfl rfl (Nat.le_of_ble_eq_true rfl) dX7_count_99 ?_
            refine s_goto (tgt := 106) K dX7_count_102 (by decide) ?_
            exact s_iret K hret hlk rfl rfl dX7_count_106
        · refine s_ite (fun c_14 => ?_) (fun c_14 => ?_)
          · refine s_swIn K (4) 107 dX7_count_1 ⟨by decide, by decide⟩ rfl (by decide) c_14 ?_
            refine s_aload_n K dX7_count_107 rfl 0 rfl ?_
            refine s_get K 0 rfl rfl inT7 1 (Nat.le_of_ble_eq_true rfl) t_145 rfl rfl dX7_count_108 ?_
            refine s_get K 2 rfl rfl inT4 3 (Nat.le_of_ble_eq_true rfl) t_74 rfl rfl dX7_count_111 ?_
            exact s_iret K hret hlk rfl rfl dX7_count_114
          · refine s_ite (fun c_15 => ?_) (fun c_15 => ?_)
            · refine s_swIn K (5) 115 dX7_count_1 ⟨by decide, by decide⟩ rfl (by decide) c_15 ?_
              refine s_aload_n K dX7_count_115 rfl 0 rfl ?_
              refine s_get K 0 rfl rfl inT7 1 (Nat.le_of_ble_eq_true rfl) t_145 rfl rfl dX7_count_116 ?_
              refine s_get K 2 rfl rfl inT4 4 (Nat.le_of_ble_eq_true rfl) t_76 rfl rfl dX7_count_119 ?_
              exact s_iret K hret hlk rfl rfl dX7_count_122
            · refine s_ite (fun c_16 => ?_) (fun c_16 => ?_)
              · refine s_swIn K (6) 123 dX7_count_1 ⟨by decide, by decide⟩ rfl (by decide) c_16 ?_
                refine s_aload_n K dX7_count_123 rfl 0 rfl ?_
                refine s_get K 0 rfl rfl inT7 1 (Nat.le_of_ble_eq_true rfl) t_145 rfl rfl dX7_count_124 ?_
                refine s_get K 2 rfl rfl inT4 5 (Nat.le_of_ble_eq_true rfl) t_78 rfl rfl dX7_count_127 ?_
                exact s_iret K hret hlk rfl rfl dX7_count_130
              · refine s_ite (fun c_17 => ?_) (fun c_17 => ?_)
                · refine s_swIn K (7) 131 dX7_count_1 ⟨by decide, by decide⟩ rfl (by decide) c_17 ?_
                  refine s_aload_n K dX7_count_131 rfl 0 rfl ?_
                  refine s_get K 0 rfl rfl inT7 1 (Nat.le_of_ble_eq_true rfl) t_145 rfl rfl dX7_count_132 ?_
                  refine s_bind (fun q hq_19 => ?_)
                  obtain ⟨r_18, rfl⟩ : ∃ z, z = q := ⟨_, rfl⟩
                  refine s_callV (w' := (wX cI cC cB cQ kc xh xp nh nd nb na kh kd kb ka th td tb ta gl ga gw ltr lrd srs bks img pag n_cnt n_wet n_stg n_dys n_dep n_knd n_siz n_plc n_onn n_axs k_cnt k_wet k_stg k_dys k_dep k_knd k_siz k_plc k_onn k_axs t_cnt t_wet t_stg t_dys t_dep t_knd t_siz t_plc t_onn t_axs l_gsz l_gsd l_gfw a_gfw a_gtg w_gwy w_grl w_gsz)) (rest := []) (st1 := [.int r_18]) K (c_X4_allSizes nh nd nb na n_cnt n_wet n_stg n_dys n_dep n_knd n_siz n_plc n_onn n_axs hq_19) rfl hd_X4_allSizes t_500 t_501 t_502 t_2 t_503 ⟨(Nat.le_of_ble_eq_true rfl), (Nat.le_of_ble_eq_true rfl)⟩ ⟨rfl, rfl⟩ ⟨Nat.zero_le _, Nat.zero_le _⟩ (rv_o K 2 rfl rfl) [2, 3, 4, 5, 6, 7, 8, 9] [0, 1, 10, 11, 12, 13, 14, 15, 16, 17, 18, 19, 20, 21, 22, 23, 24, 25, 26, 27, 28] [0, 1, 21, 22, 23, 24, 25, 26, 27, 28, 2, 3, 4, 5, 6, 7, 8, 9, 10, 11, 12, 13, 14, 15, 16, 17, 18, 19, 20] rfl rfl rfl rfl (by decide) rfl rfl rfl rfl (Nat.le_of_ble_eq_true rfl) dX7_count_135 ?_
                  exact s_iret K hret hlk rfl rfl dX7_count_138
                · refine s_ite (fun c_20 => ?_) (fun c_20 => ?_)
                  · refine s_swIn K (8) 139 dX7_count_1 ⟨by decide, by decide⟩ rfl (by decide) c_20 ?_
                    refine s_aload_n K dX7_count_139 rfl 0 rfl ?_
                    refine s_get K 0 rfl rfl inT7 7 (Nat.le_of_ble_eq_true rfl) t_151 rfl rfl dX7_count_140 ?_
                    exact s_iret K hret hlk rfl rfl dX7_count_143
                  · refine s_ite (fun c_21 => ?_) (fun c_21 => ?_)
                    · refine s_swIn K (9) 144 dX7_count_1 ⟨by decide, by decide⟩ rfl (by decide) c_21 ?_
                      refine s_aload_n K dX7_count_144 rfl 0 rfl ?_
                      refine s_get K 0 rfl rfl inT7 8 (Nat.le_of_ble_eq_true rfl) t_152 rfl rfl dX7_count_145 ?_
                      exact s_iret K hret hlk rfl rfl dX7_count_148
                    · refine s_ite (fun c_22 => ?_) (fun c_22 => ?_)
                      · refine s_swIn K (10) 149 dX7_count_1 ⟨by decide, by decide⟩ rfl (by decide) c_22 ?_
                        refine s_aload_n K dX7_count_149 rfl 0 rfl ?_
                        refine s_get K 0 rfl rfl inT7 9 (Nat.le_of_ble_eq_true rfl) t_153 rfl rfl dX7_count_150 ?_
                        exact s_iret K hret hlk rfl rfl dX7_count_153
                      · refine s_ite (fun c_23 => ?_) (fun c_23 => ?_)
                        · refine s_swIn K (11) 154 dX7_count_1 ⟨by decide, by decide⟩ rfl (by decide) c_23 ?_
                          refine s_aload_n K dX7_count_154 rfl 0 rfl ?_
                          refine s_get K 0 rfl rfl inT7 10 (Nat.le_of_ble_eq_true rfl) t_154 rfl rfl dX7_count_155 ?_
                          exact s_iret K hret hlk rfl rfl dX7_count_158
                        · refine s_swOut (tgt := 159) K dX7_count_1 (sw_out (n := 11) (by decide) (fun j hj => match j, hj with | 0, _ => c_1 | 1, _ => c_4 | 2, _ => c_5 | 3, _ => c_8 | 4, _ => c_14 | 5, _ => c_15 | 6, _ => c_16 | 7, _ => c_17 | 8, _ => c_20 | 9, _ => c_21 | 10, _ => c_22 | 11, _ => c_23 | j + 12, h => absurd h (by omega))) (by decide) ?_
                          refine s_bipush K dX7_count_159 kib_m102 ?_
                          exact s_iret K hret hlk rfl rfl dX7_count_161
set_option maxHeartbeats 4000000 in
set_option maxRecDepth 100000 in
theorem c_X7_digestOfPlaces {l : Launch} {D : va_G} {cI cC cB cQ : ClassId} {kc : Nat → Nat} {kt : Nat} (xh xp nh nd nb : Nat) (na : Nat → Nat) (kh kd kb : Nat) (ka : Nat → Nat) (th td tb : Nat) (ta : Nat → Nat) (gl ga gw : Nat) (ltr lrd srs bks img : Int32) (pag : Nat → Int32) (n_cnt n_wet n_stg n_dys : Int32) (n_dep : Nat → Int32) (n_knd : Nat → Nat) (n_siz n_plc n_onn n_axs : Nat → Int32) (k_cnt k_wet k_stg k_dys : Int32) (k_dep : Nat → Int32) (k_knd : Nat → Nat) (k_siz k_plc k_onn k_axs : Nat → Int32) (t_cnt t_wet t_stg t_dys : Int32) (t_dep : Nat → Int32) (t_knd : Nat → Nat) (t_siz t_plc t_onn t_axs : Nat → Int32) (l_gsz l_gsd l_gfw a_gfw a_gtg w_gwy w_grl w_gsz : Int32) (a1 : Int64) {r : Int64} (hF : f_X7_digestOfPlaces lrd n_cnt n_dep n_siz n_plc n_onn a1 = some r) : CT l D (tysOf cI cC cB cQ) kc kt yX7_digestOfPlaces cX7_digestOfPlaces 7 (some .long) ({ frames := 4, cells := 0, slots := 0, locals := 227 } : Room) [.ref xh, .long a1] (wX cI cC cB cQ kc xh xp nh nd nb na kh kd kb ka th td tb ta gl ga gw ltr lrd srs bks img pag n_cnt n_wet n_stg n_dys n_dep n_knd n_siz n_plc n_onn n_axs k_cnt k_wet k_stg k_dys k_dep k_knd k_siz k_plc k_onn k_axs t_cnt t_wet t_stg t_dys t_dep t_knd t_siz t_plc t_onn t_axs l_gsz l_gsd l_gfw a_gfw a_gtg w_gwy w_grl w_gsz) ((fun (r : Int64) => (wX cI cC cB cQ kc xh xp nh nd nb na kh kd kb ka th td tb ta gl ga gw ltr lrd srs bks img pag n_cnt n_wet n_stg n_dys n_dep n_knd n_siz n_plc n_onn n_axs k_cnt k_wet k_stg k_dys k_dep k_knd k_siz k_plc k_onn k_axs t_cnt t_wet t_stg t_dys t_dep t_knd t_siz t_plc t_onn t_axs l_gsz l_gsd l_gfw a_gfw a_gtg w_gwy w_grl w_gsz)) r) ((fun (r : Int64) => some (.long r)) r) := by
  refine CT.of (ww := (fun (r : Int64) => (wX cI cC cB cQ kc xh xp nh nd nb na kh kd kb ka th td tb ta gl ga gw ltr lrd srs bks img pag n_cnt n_wet n_stg n_dys n_dep n_knd n_siz n_plc n_onn n_axs k_cnt k_wet k_stg k_dys k_dep k_knd k_siz k_plc k_onn k_axs t_cnt t_wet t_stg t_dys t_dep t_knd t_siz t_plc t_onn t_axs l_gsz l_gsd l_gfw a_gfw a_gtg w_gwy w_grl w_gsz))) (oo := (fun (r : Int64) => some (.long r))) hF RX7 rfl rfl (Nat.le_of_ble_eq_true rfl) ?_
  intro p e s m args below meth c A K hret hlk
  have L24 : ∀ (kk14 : Int64 → Int32 → Option (Int64)), (∀ (x3 : Int64) (x5 : Int32), Sw (ρ := Int64) p l e ({ frames := 4, cells := 0, slots := 0, locals := 227 } : Room) s m args below meth c 0 0 D A 7 (fun r => MQ below (CQ D ((fun (r : Int64) => (wX cI cC cB cQ kc xh xp nh nd nb na kh kd kb ka th td tb ta gl ga gw ltr lrd srs bks img pag n_cnt n_wet n_stg n_dys n_dep n_knd n_siz n_plc n_onn n_axs k_cnt k_wet k_stg k_dys k_dep k_knd k_siz k_plc k_onn k_axs t_cnt t_wet t_stg t_dys t_dep t_knd t_siz t_plc t_onn t_axs l_gsz l_gsd l_gfw a_gfw a_gtg w_gwy w_grl w_gsz)) r) ((fun (r : Int64) => some (.long r)) r) A) args s 0 0 A) (kk14 x3 x5) (wX cI cC cB cQ kc xh xp nh nd nb na kh kd kb ka th td tb ta gl ga gw ltr lrd srs bks img pag n_cnt n_wet n_stg n_dys n_dep n_knd n_siz n_plc n_onn n_axs k_cnt k_wet k_stg k_dys k_dep k_knd k_siz k_plc k_onn k_axs t_cnt t_wet t_stg t_dys t_dep t_knd t_siz t_plc t_onn t_axs l_gsz l_gsd l_gfw a_gfw a_gtg w_gwy w_grl w_gsz) [(0, .ref xh), (3, .long x3), (5, .int x5)] 14 []) → ∀ (fu : Nat) (x3 : Int64) (x5 x6 : Int32), Sw (ρ := Int64) p l e ({ frames := 4, cells := 0, slots := 0, locals := 227 } : Room) s m args below meth c 0 0 D A 7 (fun r => MQ below (CQ D ((fun (r : Int64) => (wX cI cC cB cQ kc xh xp nh nd nb na kh kd kb ka th td tb ta gl ga gw ltr lrd srs bks img pag n_cnt n_wet n_stg n_dys n_dep n_knd n_siz n_plc n_onn n_axs k_cnt k_wet k_stg k_dys k_dep k_knd k_siz k_plc k_onn k_axs t_cnt t_wet t_stg t_dys t_dep t_knd t_siz t_plc t_onn t_axs l_gsz l_gsd l_gfw a_gfw a_gtg w_gwy w_grl w_gsz)) r) ((fun (r : Int64) => some (.long r)) r) A) args s 0 0 A) (f_X7_digestOfPlaces_h24 kk14 lrd n_cnt n_dep n_siz n_plc n_onn fu x3 x5 x6) (wX cI cC cB cQ kc xh xp nh nd nb na kh kd kb ka th td tb ta gl ga gw ltr lrd srs bks img pag n_cnt n_wet n_stg n_dys n_dep n_knd n_siz n_plc n_onn n_axs k_cnt k_wet k_stg k_dys k_dep k_knd k_siz k_plc k_onn k_axs t_cnt t_wet t_stg t_dys t_dep t_knd t_siz t_plc t_onn t_axs l_gsz l_gsd l_gfw a_gfw a_gtg w_gwy w_grl w_gsz) [(0, .ref xh), (3, .long x3), (5, .int x5), (6, .int x6)] 24 [] := by
    intro kk14 hkk14 fu
    induction fu with
    | zero =>
      intro x3 x5 x6
      rewrite [f_X7_digestOfPlaces_h24]
      exact s_none
    | succ fu ih =>
      intro x3 x5 x6
      rewrite [f_X7_digestOfPlaces_h24]
      refine s_iload K dX7_digestOfPlaces_24 3 rfl ?_
      refine s_iconst K dX7_digestOfPlaces_26 kic_2 ?_
      refine s_icmp_gt (tgt := 50) K dX7_digestOfPlaces_27 (by decide) (fun c_5 => ?_) (fun c_5 => ?_)
      · refine s_iinc (lv' := [(5, .int (x5 + 1)), (0, .ref xh), (3, .long x3), (6, .int x6)]) K dX7_digestOfPlaces_50 2 rfl (kii_1 _) (Nat.le_of_ble_eq_true rfl) rfl ?_
        refine s_goto (tgt := 14) K dX7_digestOfPlaces_53 (by decide) ?_
        refine s_lv (lv' := [(0, .ref xh), (3, .long x3), (5, .int (x5 + 1))]) [1, 2, 0] rfl ?_
        exact hkk14 x3 (x5 + 1)
      · refine s_lload_n K dX7_digestOfPlaces_30 rfl 1 rfl ?_
        refine s_aload_n K dX7_digestOfPlaces_31 rfl 0 rfl ?_
        refine s_iload K dX7_digestOfPlaces_32 2 rfl ?_
        refine s_iload K dX7_digestOfPlaces_34 3 rfl ?_
        refine s_bind (fun q hq_7 => ?_)
        obtain ⟨r_6, rfl⟩ : ∃ z, z = q := ⟨_, rfl⟩
        refine s_callV (w' := (wX cI cC cB cQ kc xh xp nh nd nb na kh kd kb ka th td tb ta gl ga gw ltr lrd srs bks img pag n_cnt n_wet n_stg n_dys n_dep n_knd n_siz n_plc n_onn n_axs k_cnt k_wet k_stg k_dys k_dep k_knd k_siz k_plc k_onn k_axs t_cnt t_wet t_stg t_dys t_dep t_knd t_siz t_plc t_onn t_axs l_gsz l_gsd l_gfw a_gfw a_gtg w_gwy w_grl w_gsz)) (rest := [.long x3]) (st1 := [.int r_6, .long x3]) K (c_X7_place xh xp nh nd nb na kh kd kb ka th td tb ta gl ga gw ltr lrd srs bks img pag n_cnt n_wet n_stg n_dys n_dep n_knd n_siz n_plc n_onn n_axs k_cnt k_wet k_stg k_dys k_dep k_knd k_siz k_plc k_onn k_axs t_cnt t_wet t_stg t_dys t_dep t_knd t_siz t_plc t_onn t_axs l_gsz l_gsd l_gfw a_gfw a_gtg w_gwy w_grl w_gsz x5 x6 hq_7) rfl hd_X7_place t_533 t_216 t_217 t_1 t_218 ⟨(Nat.le_of_ble_eq_true rfl), (Nat.le_of_ble_eq_true rfl)⟩ ⟨rfl, rfl⟩ ⟨Nat.zero_le _, Nat.zero_le _⟩ (rv_o K 0 rfl rfl) [0, 1, 2, 3, 4, 5, 6, 7, 8, 9, 10, 11, 12, 13, 14, 15, 16, 17, 18, 19, 20, 21, 22, 23, 24, 25, 26, 27, 28] [] [0, 1, 2, 3, 4, 5, 6, 7, 8, 9, 10, 11, 12, 13, 14, 15, 16, 17, 18, 19, 20, 21, 22, 23, 24, 25, 26, 27, 28] rfl rfl rfl rfl (by decide) rfl rfl rfl rfl (Nat.le_of_ble_eq_true rfl) dX7_digestOfPlaces_36 ?_
        refine s_i2l K dX7_digestOfPlaces_39 ?_
        refine s_bind (fun q hq_9 => ?_)
        obtain ⟨r_8, rfl⟩ : ∃ z, z = q := ⟨_, rfl⟩
        refine s_callS0 (rest := []) (st1 := [.long r_8]) K (c_X7_mixed x3 (Int32.toInt64 r_6) hq_9) hd_X7_mixed t_534 t_535 t_1 t_536 ⟨(Nat.le_of_ble_eq_true rfl), (Nat.le_of_ble_eq_true rfl)⟩ ⟨rfl, rfl⟩ ⟨Nat.zero_le _, Nat.zero_le _⟩ rfl rfl (Nat.le_of_ble_eq_true rfl) dX7_digestOfPlaces_40 ?_
        refine s_lstore_n (lv' := [(3, .long r_8), (0, .ref xh), (5, .int x5), (6, .int x6)]) K dX7_digestOfPlaces_43 rfl (Nat.le_of_ble_eq_true rfl) rfl ?_
        refine s_iinc (lv' := [(6, .int (x6 + 1)), (3, .long r_8), (0, .ref xh), (5, .int x5)]) K dX7_digestOfPlaces_44 3 rfl (kii_1 _) (Nat.le_of_ble_eq_true rfl) rfl ?_
        refine s_goto (tgt := 24) K dX7_digestOfPlaces_47 (by decide) ?_
        refine s_lv (lv' := [(0, .ref xh), (3, .long r_8), (5, .int x5), (6, .int (x6 + 1))]) [2, 1, 3, 0] rfl ?_
        exact ih r_8 x5 (x6 + 1)
  have L14 : ∀ (fu : Nat) (x3 : Int64) (x5 : Int32), Sw (ρ := Int64) p l e ({ frames := 4, cells := 0, slots := 0, locals := 227 } : Room) s m args below meth c 0 0 D A 7 (fun r => MQ below (CQ D ((fun (r : Int64) => (wX cI cC cB cQ kc xh xp nh nd nb na kh kd kb ka th td tb ta gl ga gw ltr lrd srs bks img pag n_cnt n_wet n_stg n_dys n_dep n_knd n_siz n_plc n_onn n_axs k_cnt k_wet k_stg k_dys k_dep k_knd k_siz k_plc k_onn k_axs t_cnt t_wet t_stg t_dys t_dep t_knd t_siz t_plc t_onn t_axs l_gsz l_gsd l_gfw a_gfw a_gtg w_gwy w_grl w_gsz)) r) ((fun (r : Int64) => some (.long r)) r) A) args s 0 0 A) (f_X7_digestOfPlaces_h14 lrd n_cnt n_dep n_siz n_plc n_onn fu x3 x5) (wX cI cC cB cQ kc xh xp nh nd nb na kh kd kb ka th td tb ta gl ga gw ltr lrd srs bks img pag n_cnt n_wet n_stg n_dys n_dep n_knd n_siz n_plc n_onn n_axs k_cnt k_wet k_stg k_dys k_dep k_knd k_siz k_plc k_onn k_axs t_cnt t_wet t_stg t_dys t_dep t_knd t_siz t_plc t_onn t_axs l_gsz l_gsd l_gfw a_gfw a_gtg w_gwy w_grl w_gsz) [(0, .ref xh), (3, .long x3), (5, .int x5)] 14 [] := by
    intro  fu
    induction fu with
    | zero =>
      intro x3 x5
      rewrite [f_X7_digestOfPlaces_h14]
      exact s_none
    | succ fu ih =>
      intro x3 x5
      rewrite [f_X7_digestOfPlaces_h14]
      refine s_iload K dX7_digestOfPlaces_14 2 rfl ?_
      refine s_bipush K dX7_digestOfPlaces_16 kib_20 ?_
      refine s_icmp_ge (tgt := 56) K dX7_digestOfPlaces_18 (by decide) (fun c_4 => ?_) (fun c_4 => ?_)
      · refine s_lload_n K dX7_digestOfPlaces_56 rfl 1 rfl ?_
        exact s_lret K hret hlk rfl rfl dX7_digestOfPlaces_57
      · refine s_iconst K dX7_digestOfPlaces_21 kic_0 ?_
        refine s_istore (lv' := [(6, .int 0), (0, .ref xh), (3, .long x3), (5, .int x5)]) K dX7_digestOfPlaces_22 (Nat.le_of_ble_eq_true rfl) rfl ?_
        refine s_lv (lv' := [(0, .ref xh), (3, .long x3), (5, .int x5), (6, .int 0)]) [1, 2, 3, 0] rfl ?_
        exact L24 _ (fun x3 x5 => ih x3 x5) 70 x3 x5 0
  rewrite [f_X7_digestOfPlaces]
  refine s_lload_n K dX7_digestOfPlaces_0 rfl 1 rfl ?_
  refine s_lstore_n (lv' := [(3, .long a1), (0, .ref xh), (1, .long a1)]) K dX7_digestOfPlaces_1 rfl (Nat.le_of_ble_eq_true rfl) rfl ?_
  refine s_aload_n K dX7_digestOfPlaces_2 rfl 1 rfl ?_
  refine s_bind (fun q hq_2 => ?_)
  obtain ⟨r_1, rfl⟩ : ∃ z, z = q := ⟨_, rfl⟩
  refine s_callV (w' := (wX cI cC cB cQ kc xh xp nh nd nb na kh kd kb ka th td tb ta gl ga gw ltr lrd srs bks img pag n_cnt n_wet n_stg n_dys n_dep n_knd n_siz n_plc n_onn n_axs k_cnt k_wet k_stg k_dys k_dep k_knd k_siz k_plc k_onn k_axs t_cnt t_wet t_stg t_dys t_dep t_knd t_siz t_plc t_onn t_axs l_gsz l_gsd l_gfw a_gfw a_gtg w_gwy w_grl w_gsz)) (rest := []) (st1 := [.int r_1]) K (c_X7_hasLawn xh xp nh nd nb na kh kd kb ka th td tb ta gl ga gw ltr lrd srs bks img pag n_cnt n_wet n_stg n_dys n_dep n_knd n_siz n_plc n_onn n_axs k_cnt k_wet k_stg k_dys k_dep k_knd k_siz k_plc k_onn k_axs t_cnt t_wet t_stg t_dys t_dep t_knd t_siz t_plc t_onn t_axs l_gsz l_gsd l_gfw a_gfw a_gtg w_gwy w_grl w_gsz hq_2) rfl hd_X7_hasLawn t_222 t_224 ts_0 t_1 t_225 ⟨(Nat.le_of_ble_eq_true rfl), (Nat.le_of_ble_eq_true rfl)⟩ ⟨rfl, rfl⟩ ⟨Nat.zero_le _, Nat.zero_le _⟩ (rv_o K 0 rfl rfl) [0, 1, 2, 3, 4, 5, 6, 7, 8, 9, 10, 11, 12, 13, 14, 15, 16, 17, 18, 19, 20, 21, 22, 23, 24, 25, 26, 27, 28] [] [0, 1, 2, 3, 4, 5, 6, 7, 8, 9, 10, 11, 12, 13, 14, 15, 16, 17, 18, 19, 20, 21, 22, 23, 24, 25, 26, 27, 28] rfl rfl rfl rfl (by decide) rfl rfl rfl rfl (Nat.le_of_ble_eq_true rfl) dX7_digestOfPlaces_3 ?_
  refine s_if_ne (tgt := 11) K dX7_digestOfPlaces_6 (by decide) (fun c_3 => ?_) (fun c_3 => ?_)
  · refine s_lload_n K dX7_digestOfPlaces_9 rfl 0 rfl ?_
    exact s_lret K hret hlk rfl rfl dX7_digestOfPlaces_10
  · refine s_iconst K dX7_digestOfPlaces_11 kic_0 ?_
    refine s_istore (lv' := [(5, .int 0), (3, .long a1), (0, .ref xh), (1, .long a1)]) K dX7_digestOfPlaces_12 (Nat.le_of_ble_eq_true rfl) rfl ?_
    refine s_lv (lv' := [(0, .ref xh), (3, .long a1), (5, .int 0)]) [2, 1, 0] rfl ?_
    exact L14 70 a1 0
set_option maxHeartbeats 4000000 in
set_option maxRecDepth 100000 in
theorem c_X7_digestOfBalls {l : Launch} {D : va_G} {cI cC cB cQ : ClassId} {kc : Nat → Nat} {kt : Nat} (xh xp nh nd nb : Nat) (na : Nat → Nat) (kh kd kb : Nat) (ka : Nat → Nat) (th td tb : Nat) (ta : Nat → Nat) (gl ga gw : Nat) (ltr lrd srs bks img : Int32) (pag : Nat → Int32) (n_cnt n_wet n_stg n_dys : Int32) (n_dep : Nat → Int32) (n_knd : Nat → Nat) (n_siz n_plc n_onn n_axs : Nat → Int32) (k_cnt k_wet k_stg k_dys : Int32) (k_dep : Nat → Int32) (k_knd : Nat → Nat) (k_siz k_plc k_onn k_axs : Nat → Int32) (t_cnt t_wet t_stg t_dys : Int32) (t_dep : Nat → Int32) (t_knd : Nat → Nat) (t_siz t_plc t_onn t_axs : Nat → Int32) (l_gsz l_gsd l_gfw a_gfw a_gtg w_gwy w_grl w_gsz : Int32) (a1 : Int64) {r : Int64} (hF : f_X7_digestOfBalls n_cnt n_stg n_knd n_siz n_plc n_onn n_axs a1 = some r) : CT l D (tysOf cI cC cB cQ) kc kt yX7_digestOfBalls cX7_digestOfBalls 7 (some .long) ({ frames := 6, cells := 0, slots := 0, locals := 350 } : Room) [.ref xh, .long a1] (wX cI cC cB cQ kc xh xp nh nd nb na kh kd kb ka th td tb ta gl ga gw ltr lrd srs bks img pag n_cnt n_wet n_stg n_dys n_dep n_knd n_siz n_plc n_onn n_axs k_cnt k_wet k_stg k_dys k_dep k_knd k_siz k_plc k_onn k_axs t_cnt t_wet t_stg t_dys t_dep t_knd t_siz t_plc t_onn t_axs l_gsz l_gsd l_gfw a_gfw a_gtg w_gwy w_grl w_gsz) ((fun (r : Int64) => (wX cI cC cB cQ kc xh xp nh nd nb na kh kd kb ka th td tb ta gl ga gw ltr lrd srs bks img pag n_cnt n_wet n_stg n_dys n_dep n_knd n_siz n_plc n_onn n_axs k_cnt k_wet k_stg k_dys k_dep k_knd k_siz k_plc k_onn k_axs t_cnt t_wet t_stg t_dys t_dep t_knd t_siz t_plc t_onn t_axs l_gsz l_gsd l_gfw a_gfw a_gtg w_gwy w_grl w_gsz)) r) ((fun (r : Int64) => some (.long r)) r) := by
  refine CT.of (ww := (fun (r : Int64) => (wX cI cC cB cQ kc xh xp nh nd nb na kh kd kb ka th td tb ta gl ga gw ltr lrd srs bks img pag n_cnt n_wet n_stg n_dys n_dep n_knd n_siz n_plc n_onn n_axs k_cnt k_wet k_stg k_dys k_dep k_knd k_siz k_plc k_onn k_axs t_cnt t_wet t_stg t_dys t_dep t_knd t_siz t_plc t_onn t_axs l_gsz l_gsd l_gfw a_gfw a_gtg w_gwy w_grl w_gsz))) (oo := (fun (r : Int64) => some (.long r))) hF RX7 rfl rfl (Nat.le_of_ble_eq_true rfl) ?_
  intro p e s m args below meth c A K hret hlk
  have L50 : ∀ (kk5 : Int64 → Int32 → Option (Int64)), (∀ (x3 : Int64) (x5 : Int32), Sw (ρ := Int64) p l e ({ frames := 6, cells := 0, slots := 0, locals := 350 } : Room) s m args below meth c 0 0 D A 7 (fun r => MQ below (CQ D ((fun (r : Int64) => (wX cI cC cB cQ kc xh xp nh nd nb na kh kd kb ka th td tb ta gl ga gw ltr lrd srs bks img pag n_cnt n_wet n_stg n_dys n_dep n_knd n_siz n_plc n_onn n_axs k_cnt k_wet k_stg k_dys k_dep k_knd k_siz k_plc k_onn k_axs t_cnt t_wet t_stg t_dys t_dep t_knd t_siz t_plc t_onn t_axs l_gsz l_gsd l_gfw a_gfw a_gtg w_gwy w_grl w_gsz)) r) ((fun (r : Int64) => some (.long r)) r) A) args s 0 0 A) (kk5 x3 x5) (wX cI cC cB cQ kc xh xp nh nd nb na kh kd kb ka th td tb ta gl ga gw ltr lrd srs bks img pag n_cnt n_wet n_stg n_dys n_dep n_knd n_siz n_plc n_onn n_axs k_cnt k_wet k_stg k_dys k_dep k_knd k_siz k_plc k_onn k_axs t_cnt t_wet t_stg t_dys t_dep t_knd t_siz t_plc t_onn t_axs l_gsz l_gsd l_gfw a_gfw a_gtg w_gwy w_grl w_gsz) [(0, .ref xh), (3, .long x3), (5, .int x5)] 5 []) → ∀ (fu : Nat) (x3 : Int64) (x5 x6 : Int32), Sw (ρ := Int64) p l e ({ frames := 6, cells := 0, slots := 0, locals := 350 } : Room) s m args below meth c 0 0 D A 7 (fun r => MQ below (CQ D ((fun (r : Int64) => (wX cI cC cB cQ kc xh xp nh nd nb na kh kd kb ka th td tb ta gl ga gw ltr lrd srs bks img pag n_cnt n_wet n_stg n_dys n_dep n_knd n_siz n_plc n_onn n_axs k_cnt k_wet k_stg k_dys k_dep k_knd k_siz k_plc k_onn k_axs t_cnt t_wet t_stg t_dys t_dep t_knd t_siz t_plc t_onn t_axs l_gsz l_gsd l_gfw a_gfw a_gtg w_gwy w_grl w_gsz)) r) ((fun (r : Int64) => some (.long r)) r) A) args s 0 0 A) (f_X7_digestOfBalls_h50 kk5 n_cnt n_stg n_knd n_siz n_plc n_onn n_axs fu x3 x5 x6) (wX cI cC cB cQ kc xh xp nh nd nb na kh kd kb ka th td tb ta gl ga gw ltr lrd srs bks img pag n_cnt n_wet n_stg n_dys n_dep n_knd n_siz n_plc n_onn n_axs k_cnt k_wet k_stg k_dys k_dep k_knd k_siz k_plc k_onn k_axs t_cnt t_wet t_stg t_dys t_dep t_knd t_siz t_plc t_onn t_axs l_gsz l_gsd l_gfw a_gfw a_gtg w_gwy w_grl w_gsz) [(0, .ref xh), (3, .long x3), (5, .int x5), (6, .int x6)] 50 [] := by
    intro kk5 hkk5 fu
    induction fu with
    | zero =>
      intro x3 x5 x6
      rewrite [f_X7_digestOfBalls_h50]
      exact s_none
    | succ fu ih =>
      intro x3 x5 x6
      rewrite [f_X7_digestOfBalls_h50]
      refine s_iload K dX7_digestOfBalls_50 3 rfl ?_
      refine s_iconst K dX7_digestOfBalls_52 kic_4 ?_
      refine s_icmp_ge (tgt := 76) K dX7_digestOfBalls_53 (by decide) (fun c_7 => ?_) (fun c_7 => ?_)
      · refine s_iinc (lv' := [(5, .int (x5 + 1)), (0, .ref xh), (3, .long x3), (6, .int x6)]) K dX7_digestOfBalls_76 2 rfl (kii_1 _) (Nat.le_of_ble_eq_true rfl) rfl ?_
        refine s_goto (tgt := 5) K dX7_digestOfBalls_79 (by decide) ?_
        refine s_lv (lv' := [(0, .ref xh), (3, .long x3), (5, .int (x5 + 1))]) [1, 2, 0] rfl ?_
        exact hkk5 x3 (x5 + 1)
      · refine s_lload_n K dX7_digestOfBalls_56 rfl 1 rfl ?_
        refine s_aload_n K dX7_digestOfBalls_57 rfl 0 rfl ?_
        refine s_iload K dX7_digestOfBalls_58 2 rfl ?_
        refine s_iload K dX7_digestOfBalls_60 3 rfl ?_
        refine s_bind (fun q hq_9 => ?_)
        obtain ⟨r_8, rfl⟩ : ∃ z, z = q := ⟨_, rfl⟩
        refine s_callV (w' := (wX cI cC cB cQ kc xh xp nh nd nb na kh kd kb ka th td tb ta gl ga gw ltr lrd srs bks img pag n_cnt n_wet n_stg n_dys n_dep n_knd n_siz n_plc n_onn n_axs k_cnt k_wet k_stg k_dys k_dep k_knd k_siz k_plc k_onn k_axs t_cnt t_wet t_stg t_dys t_dep t_knd t_siz t_plc t_onn t_axs l_gsz l_gsd l_gfw a_gfw a_gtg w_gwy w_grl w_gsz)) (rest := [.long x3]) (st1 := [.int r_8, .long x3]) K (c_X7_may xh xp nh nd nb na kh kd kb ka th td tb ta gl ga gw ltr lrd srs bks img pag n_cnt n_wet n_stg n_dys n_dep n_knd n_siz n_plc n_onn n_axs k_cnt k_wet k_stg k_dys k_dep k_knd k_siz k_plc k_onn k_axs t_cnt t_wet t_stg t_dys t_dep t_knd t_siz t_plc t_onn t_axs l_gsz l_gsd l_gfw a_gfw a_gtg w_gwy w_grl w_gsz x5 x6 hq_9) rfl hd_X7_may t_543 t_296 t_297 t_1 t_298 ⟨(Nat.le_of_ble_eq_true rfl), (Nat.le_of_ble_eq_true rfl)⟩ ⟨rfl, rfl⟩ ⟨Nat.zero_le _, Nat.zero_le _⟩ (rv_o K 0 rfl rfl) [0, 1, 2, 3, 4, 5, 6, 7, 8, 9, 10, 11, 12, 13, 14, 15, 16, 17, 18, 19, 20, 21, 22, 23, 24, 25, 26, 27, 28] [] [0, 1, 2, 3, 4, 5, 6, 7, 8, 9, 10, 11, 12, 13, 14, 15, 16, 17, 18, 19, 20, 21, 22, 23, 24, 25, 26, 27, 28] rfl rfl rfl rfl (by decide) rfl rfl rfl rfl (Nat.le_of_ble_eq_true rfl) dX7_digestOfBalls_62 ?_
        refine s_i2l K dX7_digestOfBalls_65 ?_
        refine s_bind (fun q hq_11 => ?_)
        obtain ⟨r_10, rfl⟩ : ∃ z, z = q := ⟨_, rfl⟩
        refine s_callS0 (rest := []) (st1 := [.long r_10]) K (c_X7_mixed x3 (Int32.toInt64 r_8) hq_11) hd_X7_mixed t_534 t_535 t_1 t_536 ⟨(Nat.le_of_ble_eq_true rfl), (Nat.le_of_ble_eq_true rfl)⟩ ⟨rfl, rfl⟩ ⟨Nat.zero_le _, Nat.zero_le _⟩ rfl rfl (Nat.le_of_ble_eq_true rfl) dX7_digestOfBalls_66 ?_
        refine s_lstore_n (lv' := [(3, .long r_10), (0, .ref xh), (5, .int x5), (6, .int x6)]) K dX7_digestOfBalls_69 rfl (Nat.le_of_ble_eq_true rfl) rfl ?_
        refine s_iinc (lv' := [(6, .int (x6 + 1)), (3, .long r_10), (0, .ref xh), (5, .int x5)]) K dX7_digestOfBalls_70 3 rfl (kii_1 _) (Nat.le_of_ble_eq_true rfl) rfl ?_
        refine s_goto (tgt := 50) K dX7_digestOfBalls_73 (by decide) ?_
        refine s_lv (lv' := [(0, .ref xh), (3, .long r_10), (5, .int x5), (6, .int (x6 + 1))]) [2, 1, 3, 0] rfl ?_
        exact ih r_10 x5 (x6 + 1)
  have L20 : ∀ (kk5 : Int64 → Int32 → Option (Int64)), (∀ (x3 : Int64) (x5 : Int32), Sw (ρ := Int64) p l e ({ frames := 6, cells := 0, slots := 0, locals := 350 } : Room) s m args below meth c 0 0 D A 7 (fun r => MQ below (CQ D ((fun (r : Int64) => (wX cI cC cB cQ kc xh xp nh nd nb na kh kd kb ka th td tb ta gl ga gw ltr lrd srs bks img pag n_cnt n_wet n_stg n_dys n_dep n_knd n_siz n_plc n_onn n_axs k_cnt k_wet k_stg k_dys k_dep k_knd k_siz k_plc k_onn k_axs t_cnt t_wet t_stg t_dys t_dep t_knd t_siz t_plc t_onn t_axs l_gsz l_gsd l_gfw a_gfw a_gtg w_gwy w_grl w_gsz)) r) ((fun (r : Int64) => some (.long r)) r) A) args s 0 0 A) (kk5 x3 x5) (wX cI cC cB cQ kc xh xp nh nd nb na kh kd kb ka th td tb ta gl ga gw ltr lrd srs bks img pag n_cnt n_wet n_stg n_dys n_dep n_knd n_siz n_plc n_onn n_axs k_cnt k_wet k_stg k_dys k_dep k_knd k_siz k_plc k_onn k_axs t_cnt t_wet t_stg t_dys t_dep t_knd t_siz t_plc t_onn t_axs l_gsz l_gsd l_gfw a_gfw a_gtg w_gwy w_grl w_gsz) [(0, .ref xh), (3, .long x3), (5, .int x5)] 5 []) → ∀ (fu : Nat) (x3 : Int64) (x5 x6 : Int32), Sw (ρ := Int64) p l e ({ frames := 6, cells := 0, slots := 0, locals := 350 } : Room) s m args below meth c 0 0 D A 7 (fun r => MQ below (CQ D ((fun (r : Int64) => (wX cI cC cB cQ kc xh xp nh nd nb na kh kd kb ka th td tb ta gl ga gw ltr lrd srs bks img pag n_cnt n_wet n_stg n_dys n_dep n_knd n_siz n_plc n_onn n_axs k_cnt k_wet k_stg k_dys k_dep k_knd k_siz k_plc k_onn k_axs t_cnt t_wet t_stg t_dys t_dep t_knd t_siz t_plc t_onn t_axs l_gsz l_gsd l_gfw a_gfw a_gtg w_gwy w_grl w_gsz)) r) ((fun (r : Int64) => some (.long r)) r) A) args s 0 0 A) (f_X7_digestOfBalls_h20 kk5 n_cnt n_stg n_knd n_siz n_plc n_onn n_axs fu x3 x5 x6) (wX cI cC cB cQ kc xh xp nh nd nb na kh kd kb ka th td tb ta gl ga gw ltr lrd srs bks img pag n_cnt n_wet n_stg n_dys n_dep n_knd n_siz n_plc n_onn n_axs k_cnt k_wet k_stg k_dys k_dep k_knd k_siz k_plc k_onn k_axs t_cnt t_wet t_stg t_dys t_dep t_knd t_siz t_plc t_onn t_axs l_gsz l_gsd l_gfw a_gfw a_gtg w_gwy w_grl w_gsz) [(0, .ref xh), (3, .long x3), (5, .int x5), (6, .int x6)] 20 [] := by
    intro kk5 hkk5 fu
    induction fu with
    | zero =>
      intro x3 x5 x6
      rewrite [f_X7_digestOfBalls_h20]
      exact s_none
    | succ fu ih =>
      intro x3 x5 x6
      rewrite [f_X7_digestOfBalls_h20]
      refine s_iload K dX7_digestOfBalls_20 3 rfl ?_
      refine s_bipush K dX7_digestOfBalls_22 kib_7 ?_
      refine s_icmp_ge (tgt := 47) K dX7_digestOfBalls_24 (by decide) (fun c_2 => ?_) (fun c_2 => ?_)
      · refine s_iconst K dX7_digestOfBalls_47 kic_0 ?_
        refine s_istore (lv' := [(6, .int 0), (0, .ref xh), (3, .long x3), (5, .int x5)]) K dX7_digestOfBalls_48 (Nat.le_of_ble_eq_true rfl) rfl ?_
        refine s_lv (lv' := [(0, .ref xh), (3, .long x3), (5, .int x5), (6, .int 0)]) [1, 2, 3, 0] rfl ?_
        exact L50 _ hkk5 70 x3 x5 0
      · refine s_lload_n K dX7_digestOfBalls_27 rfl 1 rfl ?_
        refine s_aload_n K dX7_digestOfBalls_28 rfl 0 rfl ?_
        refine s_iload K dX7_digestOfBalls_29 2 rfl ?_
        refine s_iload K dX7_digestOfBalls_31 3 rfl ?_
        refine s_bind (fun q hq_4 => ?_)
        obtain ⟨r_3, rfl⟩ : ∃ z, z = q := ⟨_, rfl⟩
        refine s_callV (w' := (wX cI cC cB cQ kc xh xp nh nd nb na kh kd kb ka th td tb ta gl ga gw ltr lrd srs bks img pag n_cnt n_wet n_stg n_dys n_dep n_knd n_siz n_plc n_onn n_axs k_cnt k_wet k_stg k_dys k_dep k_knd k_siz k_plc k_onn k_axs t_cnt t_wet t_stg t_dys t_dep t_knd t_siz t_plc t_onn t_axs l_gsz l_gsd l_gfw a_gfw a_gtg w_gwy w_grl w_gsz)) (rest := [.long x3]) (st1 := [.int r_3, .long x3]) K (c_X7_about xh xp nh nd nb na kh kd kb ka th td tb ta gl ga gw ltr lrd srs bks img pag n_cnt n_wet n_stg n_dys n_dep n_knd n_siz n_plc n_onn n_axs k_cnt k_wet k_stg k_dys k_dep k_knd k_siz k_plc k_onn k_axs t_cnt t_wet t_stg t_dys t_dep t_knd t_siz t_plc t_onn t_axs l_gsz l_gsd l_gfw a_gfw a_gtg w_gwy w_grl w_gsz x5 x6 hq_4) rfl hd_X7_about t_542 t_263 t_264 t_1 t_265 ⟨(Nat.le_of_ble_eq_true rfl), (Nat.le_of_ble_eq_true rfl)⟩ ⟨rfl, rfl⟩ ⟨Nat.zero_le _, Nat.zero_le _⟩ (rv_o K 0 rfl rfl) [0, 1, 2, 3, 4, 5, 6, 7, 8, 9, 10, 11, 12, 13, 14, 15, 16, 17, 18, 19, 20, 21, 22, 23, 24, 25, 26, 27, 28] [] [0, 1, 2, 3, 4, 5, 6, 7, 8, 9, 10, 11, 12, 13, 14, 15, 16, 17, 18, 19, 20, 21, 22, 23, 24, 25, 26, 27, 28] rfl rfl rfl rfl (by decide) rfl rfl rfl rfl (Nat.le_of_ble_eq_true rfl) dX7_digestOfBalls_33 ?_
        refine s_i2l K dX7_digestOfBalls_36 ?_
        refine s_bind (fun q hq_6 => ?_)
        obtain ⟨r_5, rfl⟩ : ∃ z, z = q := ⟨_, rfl⟩
        refine s_callS0 (rest := []) (st1 := [.long r_5]) K (c_X7_mixed x3 (Int32.toInt64 r_3) hq_6) hd_X7_mixed t_534 t_535 t_1 t_536 ⟨(Nat.le_of_ble_eq_true rfl), (Nat.le_of_ble_eq_true rfl)⟩ ⟨rfl, rfl⟩ ⟨Nat.zero_le _, Nat.zero_le _⟩ rfl rfl (Nat.le_of_ble_eq_true rfl) dX7_digestOfBalls_37 ?_
        refine s_lstore_n (lv' := [(3, .long r_5), (0, .ref xh), (5, .int x5), (6, .int x6)]) K dX7_digestOfBalls_40 rfl (Nat.le_of_ble_eq_true rfl) rfl ?_
        refine s_iinc (lv' := [(6, .int (x6 + 1)), (3, .long r_5), (0, .ref xh), (5, .int x5)]) K dX7_digestOfBalls_41 3 rfl (kii_1 _) (Nat.le_of_ble_eq_true rfl) rfl ?_
        refine s_goto (tgt := 20) K dX7_digestOfBalls_44 (by decide) ?_
        refine s_lv (lv' := [(0, .ref xh), (3, .long r_5), (5, .int x5), (6, .int (x6 + 1))]) [2, 1, 3, 0] rfl ?_
        exact ih r_5 x5 (x6 + 1)
  have L5 : ∀ (fu : Nat) (x3 : Int64) (x5 : Int32), Sw (ρ := Int64) p l e ({ frames := 6, cells := 0, slots := 0, locals := 350 } : Room) s m args below meth c 0 0 D A 7 (fun r => MQ below (CQ D ((fun (r : Int64) => (wX cI cC cB cQ kc xh xp nh nd nb na kh kd kb ka th td tb ta gl ga gw ltr lrd srs bks img pag n_cnt n_wet n_stg n_dys n_dep n_knd n_siz n_plc n_onn n_axs k_cnt k_wet k_stg k_dys k_dep k_knd k_siz k_plc k_onn k_axs t_cnt t_wet t_stg t_dys t_dep t_knd t_siz t_plc t_onn t_axs l_gsz l_gsd l_gfw a_gfw a_gtg w_gwy w_grl w_gsz)) r) ((fun (r : Int64) => some (.long r)) r) A) args s 0 0 A) (f_X7_digestOfBalls_h5 n_cnt n_stg n_knd n_siz n_plc n_onn n_axs fu x3 x5) (wX cI cC cB cQ kc xh xp nh nd nb na kh kd kb ka th td tb ta gl ga gw ltr lrd srs bks img pag n_cnt n_wet n_stg n_dys n_dep n_knd n_siz n_plc n_onn n_axs k_cnt k_wet k_stg k_dys k_dep k_knd k_siz k_plc k_onn k_axs t_cnt t_wet t_stg t_dys t_dep t_knd t_siz t_plc t_onn t_axs l_gsz l_gsd l_gfw a_gfw a_gtg w_gwy w_grl w_gsz) [(0, .ref xh), (3, .long x3), (5, .int x5)] 5 [] := by
    intro  fu
    induction fu with
    | zero =>
      intro x3 x5
      rewrite [f_X7_digestOfBalls_h5]
      exact s_none
    | succ fu ih =>
      intro x3 x5
      rewrite [f_X7_digestOfBalls_h5]
      refine s_iload K dX7_digestOfBalls_5 2 rfl ?_
      refine s_aload_n K dX7_digestOfBalls_7 rfl 0 rfl ?_
      refine s_get K 0 rfl rfl inT7 1 (Nat.le_of_ble_eq_true rfl) t_145 rfl rfl dX7_digestOfBalls_8 ?_
      refine s_get K 2 rfl rfl inT4 2 (Nat.le_of_ble_eq_true rfl) t_72 rfl rfl dX7_digestOfBalls_11 ?_
      refine s_icmp_ge (tgt := 82) K dX7_digestOfBalls_14 (by decide) (fun c_1 => ?_) (fun c_1 => ?_)
      · refine s_lload_n K dX7_digestOfBalls_82 rfl 1 rfl ?_
        exact s_lret K hret hlk rfl rfl dX7_digestOfBalls_83
      · refine s_iconst K dX7_digestOfBalls_17 kic_0 ?_
        refine s_istore (lv' := [(6, .int 0), (0, .ref xh), (3, .long x3), (5, .int x5)]) K dX7_digestOfBalls_18 (Nat.le_of_ble_eq_true rfl) rfl ?_
        refine s_lv (lv' := [(0, .ref xh), (3, .long x3), (5, .int x5), (6, .int 0)]) [1, 2, 3, 0] rfl ?_
        exact L20 _ (fun x3 x5 => ih x3 x5) 70 x3 x5 0
  rewrite [f_X7_digestOfBalls]
  refine s_lload_n K dX7_digestOfBalls_0 rfl 1 rfl ?_
  refine s_lstore_n (lv' := [(3, .long a1), (0, .ref xh), (1, .long a1)]) K dX7_digestOfBalls_1 rfl (Nat.le_of_ble_eq_true rfl) rfl ?_
  refine s_iconst K dX7_digestOfBalls_2 kic_0 ?_
  refine s_istore (lv' := [(5, .int 0), (3, .long a1), (0, .ref xh), (1, .long a1)]) K dX7_digestOfBalls_3 (Nat.le_of_ble_eq_true rfl) rfl ?_
  refine s_lv (lv' := [(0, .ref xh), (3, .long a1), (5, .int 0)]) [2, 1, 0] rfl ?_
  exact L5 70 a1 0
set_option maxHeartbeats 4000000 in
set_option maxRecDepth 100000 in
theorem c_X7_digest {l : Launch} {D : va_G} {cI cC cB cQ : ClassId} {kc : Nat → Nat} {kt : Nat} (xh xp nh nd nb : Nat) (na : Nat → Nat) (kh kd kb : Nat) (ka : Nat → Nat) (th td tb : Nat) (ta : Nat → Nat) (gl ga gw : Nat) (ltr lrd srs bks img : Int32) (pag : Nat → Int32) (n_cnt n_wet n_stg n_dys : Int32) (n_dep : Nat → Int32) (n_knd : Nat → Nat) (n_siz n_plc n_onn n_axs : Nat → Int32) (k_cnt k_wet k_stg k_dys : Int32) (k_dep : Nat → Int32) (k_knd : Nat → Nat) (k_siz k_plc k_onn k_axs : Nat → Int32) (t_cnt t_wet t_stg t_dys : Int32) (t_dep : Nat → Int32) (t_knd : Nat → Nat) (t_siz t_plc t_onn t_axs : Nat → Int32) (l_gsz l_gsd l_gfw a_gfw a_gtg w_gwy w_grl w_gsz : Int32) {r : Int64} (hF : f_X7_digest ltr lrd srs bks pag n_cnt n_wet n_stg n_dys n_dep n_knd n_siz n_plc n_onn n_axs = some r) : CT l D (tysOf cI cC cB cQ) kc kt yX7_digest cX7_digest 4 (some .long) ({ frames := 7, cells := 0, slots := 0, locals := 416 } : Room) [.ref xh] (wX cI cC cB cQ kc xh xp nh nd nb na kh kd kb ka th td tb ta gl ga gw ltr lrd srs bks img pag n_cnt n_wet n_stg n_dys n_dep n_knd n_siz n_plc n_onn n_axs k_cnt k_wet k_stg k_dys k_dep k_knd k_siz k_plc k_onn k_axs t_cnt t_wet t_stg t_dys t_dep t_knd t_siz t_plc t_onn t_axs l_gsz l_gsd l_gfw a_gfw a_gtg w_gwy w_grl w_gsz) ((fun (r : Int64) => (wX cI cC cB cQ kc xh xp nh nd nb na kh kd kb ka th td tb ta gl ga gw ltr lrd srs bks img pag n_cnt n_wet n_stg n_dys n_dep n_knd n_siz n_plc n_onn n_axs k_cnt k_wet k_stg k_dys k_dep k_knd k_siz k_plc k_onn k_axs t_cnt t_wet t_stg t_dys t_dep t_knd t_siz t_plc t_onn t_axs l_gsz l_gsd l_gfw a_gfw a_gtg w_gwy w_grl w_gsz)) r) ((fun (r : Int64) => some (.long r)) r) := by
  refine CT.of (ww := (fun (r : Int64) => (wX cI cC cB cQ kc xh xp nh nd nb na kh kd kb ka th td tb ta gl ga gw ltr lrd srs bks img pag n_cnt n_wet n_stg n_dys n_dep n_knd n_siz n_plc n_onn n_axs k_cnt k_wet k_stg k_dys k_dep k_knd k_siz k_plc k_onn k_axs t_cnt t_wet t_stg t_dys t_dep t_knd t_siz t_plc t_onn t_axs l_gsz l_gsd l_gfw a_gfw a_gtg w_gwy w_grl w_gsz))) (oo := (fun (r : Int64) => some (.long r))) hF RX7 rfl rfl (Nat.le_of_ble_eq_true rfl) ?_
  intro p e s m args below meth c A K hret hlk
  have L75 : ∀ (fu : Nat) (x1 : Int64) (x3 : Int32), Sw (ρ := Int64) p l e ({ frames := 7, cells := 0, slots := 0, locals := 416 } : Room) s m args below meth c 0 0 D A 4 (fun r => MQ below (CQ D ((fun (r : Int64) => (wX cI cC cB cQ kc xh xp nh nd nb na kh kd kb ka th td tb ta gl ga gw ltr lrd srs bks img pag n_cnt n_wet n_stg n_dys n_dep n_knd n_siz n_plc n_onn n_axs k_cnt k_wet k_stg k_dys k_dep k_knd k_siz k_plc k_onn k_axs t_cnt t_wet t_stg t_dys t_dep t_knd t_siz t_plc t_onn t_axs l_gsz l_gsd l_gfw a_gfw a_gtg w_gwy w_grl w_gsz)) r) ((fun (r : Int64) => some (.long r)) r) A) args s 0 0 A) (f_X7_digest_h75 ltr lrd srs bks n_cnt n_wet n_stg n_dys n_dep n_siz fu x1 x3) (wX cI cC cB cQ kc xh xp nh nd nb na kh kd kb ka th td tb ta gl ga gw ltr lrd srs bks img pag n_cnt n_wet n_stg n_dys n_dep n_knd n_siz n_plc n_onn n_axs k_cnt k_wet k_stg k_dys k_dep k_knd k_siz k_plc k_onn k_axs t_cnt t_wet t_stg t_dys t_dep t_knd t_siz t_plc t_onn t_axs l_gsz l_gsd l_gfw a_gfw a_gtg w_gwy w_grl w_gsz) [(0, .ref xh), (1, .long x1), (3, .int x3)] 75 [] := by
    intro  fu
    induction fu with
    | zero =>
      intro x1 x3
      rewrite [f_X7_digest_h75]
      exact s_none
    | succ fu ih =>
      intro x1 x3
      rewrite [f_X7_digest_h75]
      refine s_iload_n K dX7_digest_75 rfl 2 rfl ?_
      refine s_bipush K dX7_digest_76 kib_12 ?_
      refine s_icmp_ge (tgt := 98) K dX7_digest_78 (by decide) (fun c_21 => ?_) (fun c_21 => ?_)
      · refine s_lload_n K dX7_digest_98 rfl 1 rfl ?_
        exact s_lret K hret hlk rfl rfl dX7_digest_99
      · refine s_lload_n K dX7_digest_81 rfl 1 rfl ?_
        refine s_aload_n K dX7_digest_82 rfl 0 rfl ?_
        refine s_iload_n K dX7_digest_83 rfl 2 rfl ?_
        refine s_bind (fun q hq_23 => ?_)
        obtain ⟨r_22, rfl⟩ : ∃ z, z = q := ⟨_, rfl⟩
        refine s_callV (w' := (wX cI cC cB cQ kc xh xp nh nd nb na kh kd kb ka th td tb ta gl ga gw ltr lrd srs bks img pag n_cnt n_wet n_stg n_dys n_dep n_knd n_siz n_plc n_onn n_axs k_cnt k_wet k_stg k_dys k_dep k_knd k_siz k_plc k_onn k_axs t_cnt t_wet t_stg t_dys t_dep t_knd t_siz t_plc t_onn t_axs l_gsz l_gsd l_gfw a_gfw a_gtg w_gwy w_grl w_gsz)) (rest := [.long x1]) (st1 := [.int r_22, .long x1]) K (c_X7_count xh xp nh nd nb na kh kd kb ka th td tb ta gl ga gw ltr lrd srs bks img pag n_cnt n_wet n_stg n_dys n_dep n_knd n_siz n_plc n_onn n_axs k_cnt k_wet k_stg k_dys k_dep k_knd k_siz k_plc k_onn k_axs t_cnt t_wet t_stg t_dys t_dep t_knd t_siz t_plc t_onn t_axs l_gsz l_gsd l_gfw a_gfw a_gtg w_gwy w_grl w_gsz x3 hq_23) rfl hd_X7_count t_546 t_513 t_514 t_1 t_515 ⟨(Nat.le_of_ble_eq_true rfl), (Nat.le_of_ble_eq_true rfl)⟩ ⟨rfl, rfl⟩ ⟨Nat.zero_le _, Nat.zero_le _⟩ (rv_o K 0 rfl rfl) [0, 1, 2, 3, 4, 5, 6, 7, 8, 9, 10, 11, 12, 13, 14, 15, 16, 17, 18, 19, 20, 21, 22, 23, 24, 25, 26, 27, 28] [] [0, 1, 2, 3, 4, 5, 6, 7, 8, 9, 10, 11, 12, 13, 14, 15, 16, 17, 18, 19, 20, 21, 22, 23, 24, 25, 26, 27, 28] rfl rfl rfl rfl (by decide) rfl rfl rfl rfl (Nat.le_of_ble_eq_true rfl) dX7_digest_84 ?_
        refine s_i2l K dX7_digest_87 ?_
        refine s_bind (fun q hq_25 => ?_)
        obtain ⟨r_24, rfl⟩ : ∃ z, z = q := ⟨_, rfl⟩
        refine s_callS0 (rest := []) (st1 := [.long r_24]) K (c_X7_mixed x1 (Int32.toInt64 r_22) hq_25) hd_X7_mixed t_534 t_535 t_1 t_536 ⟨(Nat.le_of_ble_eq_true rfl), (Nat.le_of_ble_eq_true rfl)⟩ ⟨rfl, rfl⟩ ⟨Nat.zero_le _, Nat.zero_le _⟩ rfl rfl (Nat.le_of_ble_eq_true rfl) dX7_digest_88 ?_
        refine s_lstore_n (lv' := [(1, .long r_24), (0, .ref xh), (3, .int x3)]) K dX7_digest_91 rfl (Nat.le_of_ble_eq_true rfl) rfl ?_
        refine s_iinc (lv' := [(3, .int (x3 + 1)), (1, .long r_24), (0, .ref xh)]) K dX7_digest_92 2 rfl (kii_1 _) (Nat.le_of_ble_eq_true rfl) rfl ?_
        refine s_goto (tgt := 75) K dX7_digest_95 (by decide) ?_
        refine s_lv (lv' := [(0, .ref xh), (1, .long r_24), (3, .int (x3 + 1))]) [2, 1, 0] rfl ?_
        exact ih r_24 (x3 + 1)
  have L47 : ∀ (fu : Nat) (x1 : Int64) (x3 : Int32), Sw (ρ := Int64) p l e ({ frames := 7, cells := 0, slots := 0, locals := 416 } : Room) s m args below meth c 0 0 D A 4 (fun r => MQ below (CQ D ((fun (r : Int64) => (wX cI cC cB cQ kc xh xp nh nd nb na kh kd kb ka th td tb ta gl ga gw ltr lrd srs bks img pag n_cnt n_wet n_stg n_dys n_dep n_knd n_siz n_plc n_onn n_axs k_cnt k_wet k_stg k_dys k_dep k_knd k_siz k_plc k_onn k_axs t_cnt t_wet t_stg t_dys t_dep t_knd t_siz t_plc t_onn t_axs l_gsz l_gsd l_gfw a_gfw a_gtg w_gwy w_grl w_gsz)) r) ((fun (r : Int64) => some (.long r)) r) A) args s 0 0 A) (f_X7_digest_h47 ltr lrd srs bks pag n_cnt n_wet n_stg n_dys n_dep n_siz fu x1 x3) (wX cI cC cB cQ kc xh xp nh nd nb na kh kd kb ka th td tb ta gl ga gw ltr lrd srs bks img pag n_cnt n_wet n_stg n_dys n_dep n_knd n_siz n_plc n_onn n_axs k_cnt k_wet k_stg k_dys k_dep k_knd k_siz k_plc k_onn k_axs t_cnt t_wet t_stg t_dys t_dep t_knd t_siz t_plc t_onn t_axs l_gsz l_gsd l_gfw a_gfw a_gtg w_gwy w_grl w_gsz) [(0, .ref xh), (1, .long x1), (3, .int x3)] 47 [] := by
    intro  fu
    induction fu with
    | zero =>
      intro x1 x3
      rewrite [f_X7_digest_h47]
      exact s_none
    | succ fu ih =>
      intro x1 x3
      rewrite [f_X7_digest_h47]
      refine s_iload_n K dX7_digest_47 rfl 2 rfl ?_
      refine s_aload_n K dX7_digest_48 rfl 0 rfl ?_
      refine s_get K 0 rfl rfl inT7 7 (Nat.le_of_ble_eq_true rfl) t_151 rfl rfl dX7_digest_49 ?_
      refine s_icmp_ge (tgt := 73) K dX7_digest_52 (by decide) (fun c_17 => ?_) (fun c_17 => ?_)
      · refine s_iconst K dX7_digest_73 kic_0 ?_
        refine s_istore_n (lv' := [(3, .int 0), (0, .ref xh), (1, .long x1)]) K dX7_digest_74 rfl (Nat.le_of_ble_eq_true rfl) rfl ?_
        refine s_lv (lv' := [(0, .ref xh), (1, .long x1), (3, .int 0)]) [1, 2, 0] rfl ?_
        exact L75 70 x1 0
      · refine s_lload_n K dX7_digest_55 rfl 1 rfl ?_
        refine s_aload_n K dX7_digest_56 rfl 0 rfl ?_
        refine s_get K 0 rfl rfl inT7 0 (Nat.le_of_ble_eq_true rfl) t_144 rfl rfl dX7_digest_57 ?_
        refine s_iload_n K dX7_digest_60 rfl 2 rfl ?_
        refine s_ck (fun ho_18 => ?_)
        refine s_cald K 1 1 rfl rfl (ok_in ho_18) rfl dX7_digest_61 ?_
        refine s_i2l K dX7_digest_62 ?_
        refine s_bind (fun q hq_20 => ?_)
        obtain ⟨r_19, rfl⟩ : ∃ z, z = q := ⟨_, rfl⟩
        refine s_callS0 (rest := []) (st1 := [.long r_19]) K (c_X7_mixed x1 (Int32.toInt64 (pag (Int32.toNatClampNeg x3))) hq_20) hd_X7_mixed t_534 t_535 t_1 t_536 ⟨(Nat.le_of_ble_eq_true rfl), (Nat.le_of_ble_eq_true rfl)⟩ ⟨rfl, rfl⟩ ⟨Nat.zero_le _, Nat.zero_le _⟩ rfl rfl (Nat.le_of_ble_eq_true rfl) dX7_digest_63 ?_
        refine s_lstore_n (lv' := [(1, .long r_19), (0, .ref xh), (3, .int x3)]) K dX7_digest_66 rfl (Nat.le_of_ble_eq_true rfl) rfl ?_
        refine s_iinc (lv' := [(3, .int (x3 + 1)), (1, .long r_19), (0, .ref xh)]) K dX7_digest_67 2 rfl (kii_1 _) (Nat.le_of_ble_eq_true rfl) rfl ?_
        refine s_goto (tgt := 47) K dX7_digest_70 (by decide) ?_
        refine s_lv (lv' := [(0, .ref xh), (1, .long r_19), (3, .int (x3 + 1))]) [2, 1, 0] rfl ?_
        exact ih r_19 (x3 + 1)
  rewrite [f_X7_digest]
  refine s_aload_n K dX7_digest_0 rfl 0 rfl ?_
  refine s_aload_n K dX7_digest_1 rfl 0 rfl ?_
  refine s_ldc2 K dX7_digest_2 t_528 ?_
  refine s_bind (fun q hq_2 => ?_)
  obtain ⟨r_1, rfl⟩ : ∃ z, z = q := ⟨_, rfl⟩
  refine s_callV (w' := (wX cI cC cB cQ kc xh xp nh nd nb na kh kd kb ka th td tb ta gl ga gw ltr lrd srs bks img pag n_cnt n_wet n_stg n_dys n_dep n_knd n_siz n_plc n_onn n_axs k_cnt k_wet k_stg k_dys k_dep k_knd k_siz k_plc k_onn k_axs t_cnt t_wet t_stg t_dys t_dep t_knd t_siz t_plc t_onn t_axs l_gsz l_gsd l_gfw a_gfw a_gtg w_gwy w_grl w_gsz)) (rest := [.ref xh]) (st1 := [.long r_1, .ref xh]) K (c_X7_digestOfPlaces xh xp nh nd nb na kh kd kb ka th td tb ta gl ga gw ltr lrd srs bks img pag n_cnt n_wet n_stg n_dys n_dep n_knd n_siz n_plc n_onn n_axs k_cnt k_wet k_stg k_dys k_dep k_knd k_siz k_plc k_onn k_axs t_cnt t_wet t_stg t_dys t_dep t_knd t_siz t_plc t_onn t_axs l_gsz l_gsd l_gfw a_gfw a_gtg w_gwy w_grl w_gsz 727 hq_2) rfl hd_X7_digestOfPlaces t_529 t_531 ts_6 t_1 t_532 ⟨(Nat.le_of_ble_eq_true rfl), (Nat.le_of_ble_eq_true rfl)⟩ ⟨rfl, rfl⟩ ⟨Nat.zero_le _, Nat.zero_le _⟩ (rv_o K 0 rfl rfl) [0, 1, 2, 3, 4, 5, 6, 7, 8, 9, 10, 11, 12, 13, 14, 15, 16, 17, 18, 19, 20, 21, 22, 23, 24, 25, 26, 27, 28] [] [0, 1, 2, 3, 4, 5, 6, 7, 8, 9, 10, 11, 12, 13, 14, 15, 16, 17, 18, 19, 20, 21, 22, 23, 24, 25, 26, 27, 28] rfl rfl rfl rfl (by decide) rfl rfl rfl rfl (Nat.le_of_ble_eq_true rfl) dX7_digest_5 ?_
  refine s_bind (fun q hq_4 => ?_)
  obtain ⟨r_3, rfl⟩ : ∃ z, z = q := ⟨_, rfl⟩
  refine s_callV (w' := (wX cI cC cB cQ kc xh xp nh nd nb na kh kd kb ka th td tb ta gl ga gw ltr lrd srs bks img pag n_cnt n_wet n_stg n_dys n_dep n_knd n_siz n_plc n_onn n_axs k_cnt k_wet k_stg k_dys k_dep k_knd k_siz k_plc k_onn k_axs t_cnt t_wet t_stg t_dys t_dep t_knd t_siz t_plc t_onn t_axs l_gsz l_gsd l_gfw a_gfw a_gtg w_gwy w_grl w_gsz)) (rest := []) (st1 := [.long r_3]) K (c_X7_digestOfBalls xh xp nh nd nb na kh kd kb ka th td tb ta gl ga gw ltr lrd srs bks img pag n_cnt n_wet n_stg n_dys n_dep n_knd n_siz n_plc n_onn n_axs k_cnt k_wet k_stg k_dys k_dep k_knd k_siz k_plc k_onn k_axs t_cnt t_wet t_stg t_dys t_dep t_knd t_siz t_plc t_onn t_axs l_gsz l_gsd l_gfw a_gfw a_gtg w_gwy w_grl w_gsz r_1 hq_4) rfl hd_X7_digestOfBalls t_538 t_540 ts_7 t_1 t_541 ⟨(Nat.le_of_ble_eq_true rfl), (Nat.le_of_ble_eq_true rfl)⟩ ⟨rfl, rfl⟩ ⟨Nat.zero_le _, Nat.zero_le _⟩ (rv_o K 0 rfl rfl) [0, 1, 2, 3, 4, 5, 6, 7, 8, 9, 10, 11, 12, 13, 14, 15, 16, 17, 18, 19, 20, 21, 22, 23, 24, 25, 26, 27, 28] [] [0, 1, 2, 3, 4, 5, 6, 7, 8, 9, 10, 11, 12, 13, 14, 15, 16, 17, 18, 19, 20, 21, 22, 23, 24, 25, 26, 27, 28] rfl rfl rfl rfl (by decide) rfl rfl rfl rfl (Nat.le_of_ble_eq_true rfl) dX7_digest_8 ?_
  refine s_lstore_n (lv' := [(1, .long r_3), (0, .ref xh)]) K dX7_digest_11 rfl (Nat.le_of_ble_eq_true rfl) rfl ?_
  refine s_lload_n K dX7_digest_12 rfl 0 rfl ?_
  refine s_aload_n K dX7_digest_13 rfl 1 rfl ?_
  refine s_iconst K dX7_digest_14 kic_0 ?_
  refine s_bind (fun q hq_6 => ?_)
  obtain ⟨r_5, rfl⟩ : ∃ z, z = q := ⟨_, rfl⟩
  refine s_callV (w' := (wX cI cC cB cQ kc xh xp nh nd nb na kh kd kb ka th td tb ta gl ga gw ltr lrd srs bks img pag n_cnt n_wet n_stg n_dys n_dep n_knd n_siz n_plc n_onn n_axs k_cnt k_wet k_stg k_dys k_dep k_knd k_siz k_plc k_onn k_axs t_cnt t_wet t_stg t_dys t_dep t_knd t_siz t_plc t_onn t_axs l_gsz l_gsd l_gfw a_gfw a_gtg w_gwy w_grl w_gsz)) (rest := [.long r_3]) (st1 := [.int r_5, .long r_3]) K (c_X7_highest xh xp nh nd nb na kh kd kb ka th td tb ta gl ga gw ltr lrd srs bks img pag n_cnt n_wet n_stg n_dys n_dep n_knd n_siz n_plc n_onn n_axs k_cnt k_wet k_stg k_dys k_dep k_knd k_siz k_plc k_onn k_axs t_cnt t_wet t_stg t_dys t_dep t_knd t_siz t_plc t_onn t_axs l_gsz l_gsd l_gfw a_gfw a_gtg w_gwy w_grl w_gsz 0 hq_6) rfl hd_X7_highest t_544 t_441 t_442 t_1 t_443 ⟨(Nat.le_of_ble_eq_true rfl), (Nat.le_of_ble_eq_true rfl)⟩ ⟨rfl, rfl⟩ ⟨Nat.zero_le _, Nat.zero_le _⟩ (rv_o K 0 rfl rfl) [0, 1, 2, 3, 4, 5, 6, 7, 8, 9, 10, 11, 12, 13, 14, 15, 16, 17, 18, 19, 20, 21, 22, 23, 24, 25, 26, 27, 28] [] [0, 1, 2, 3, 4, 5, 6, 7, 8, 9, 10, 11, 12, 13, 14, 15, 16, 17, 18, 19, 20, 21, 22, 23, 24, 25, 26, 27, 28] rfl rfl rfl rfl (by decide) rfl rfl rfl rfl (Nat.le_of_ble_eq_true rfl) dX7_digest_15 ?_
  refine s_i2l K dX7_digest_18 ?_
  refine s_bind (fun q hq_8 => ?_)
  obtain ⟨r_7, rfl⟩ : ∃ z, z = q := ⟨_, rfl⟩
  refine s_callS0 (rest := []) (st1 := [.long r_7]) K (c_X7_mixed r_3 (Int32.toInt64 r_5) hq_8) hd_X7_mixed t_534 t_535 t_1 t_536 ⟨(Nat.le_of_ble_eq_true rfl), (Nat.le_of_ble_eq_true rfl)⟩ ⟨rfl, rfl⟩ ⟨Nat.zero_le _, Nat.zero_le _⟩ rfl rfl (Nat.le_of_ble_eq_true rfl) dX7_digest_19 ?_
  refine s_lstore_n (lv' := [(1, .long r_7), (0, .ref xh)]) K dX7_digest_22 rfl (Nat.le_of_ble_eq_true rfl) rfl ?_
  refine s_lload_n K dX7_digest_23 rfl 0 rfl ?_
  refine s_aload_n K dX7_digest_24 rfl 1 rfl ?_
  refine s_iconst K dX7_digest_25 kic_1 ?_
  refine s_bind (fun q hq_10 => ?_)
  obtain ⟨r_9, rfl⟩ : ∃ z, z = q := ⟨_, rfl⟩
  refine s_callV (w' := (wX cI cC cB cQ kc xh xp nh nd nb na kh kd kb ka th td tb ta gl ga gw ltr lrd srs bks img pag n_cnt n_wet n_stg n_dys n_dep n_knd n_siz n_plc n_onn n_axs k_cnt k_wet k_stg k_dys k_dep k_knd k_siz k_plc k_onn k_axs t_cnt t_wet t_stg t_dys t_dep t_knd t_siz t_plc t_onn t_axs l_gsz l_gsd l_gfw a_gfw a_gtg w_gwy w_grl w_gsz)) (rest := [.long r_7]) (st1 := [.int r_9, .long r_7]) K (c_X7_highest xh xp nh nd nb na kh kd kb ka th td tb ta gl ga gw ltr lrd srs bks img pag n_cnt n_wet n_stg n_dys n_dep n_knd n_siz n_plc n_onn n_axs k_cnt k_wet k_stg k_dys k_dep k_knd k_siz k_plc k_onn k_axs t_cnt t_wet t_stg t_dys t_dep t_knd t_siz t_plc t_onn t_axs l_gsz l_gsd l_gfw a_gfw a_gtg w_gwy w_grl w_gsz 1 hq_10) rfl hd_X7_highest t_544 t_441 t_442 t_1 t_443 ⟨(Nat.le_of_ble_eq_true rfl), (Nat.le_of_ble_eq_true rfl)⟩ ⟨rfl, rfl⟩ ⟨Nat.zero_le _, Nat.zero_le _⟩ (rv_o K 0 rfl rfl) [0, 1, 2, 3, 4, 5, 6, 7, 8, 9, 10, 11, 12, 13, 14, 15, 16, 17, 18, 19, 20, 21, 22, 23, 24, 25, 26, 27, 28] [] [0, 1, 2, 3, 4, 5, 6, 7, 8, 9, 10, 11, 12, 13, 14, 15, 16, 17, 18, 19, 20, 21, 22, 23, 24, 25, 26, 27, 28] rfl rfl rfl rfl (by decide) rfl rfl rfl rfl (Nat.le_of_ble_eq_true rfl) dX7_digest_26 ?_
  refine s_i2l K dX7_digest_29 ?_
  refine s_bind (fun q hq_12 => ?_)
  obtain ⟨r_11, rfl⟩ : ∃ z, z = q := ⟨_, rfl⟩
  refine s_callS0 (rest := []) (st1 := [.long r_11]) K (c_X7_mixed r_7 (Int32.toInt64 r_9) hq_12) hd_X7_mixed t_534 t_535 t_1 t_536 ⟨(Nat.le_of_ble_eq_true rfl), (Nat.le_of_ble_eq_true rfl)⟩ ⟨rfl, rfl⟩ ⟨Nat.zero_le _, Nat.zero_le _⟩ rfl rfl (Nat.le_of_ble_eq_true rfl) dX7_digest_30 ?_
  refine s_lstore_n (lv' := [(1, .long r_11), (0, .ref xh)]) K dX7_digest_33 rfl (Nat.le_of_ble_eq_true rfl) rfl ?_
  refine s_lload_n K dX7_digest_34 rfl 0 rfl ?_
  refine s_aload_n K dX7_digest_35 rfl 1 rfl ?_
  refine s_iconst K dX7_digest_36 kic_1 ?_
  refine s_bind (fun q hq_14 => ?_)
  obtain ⟨r_13, rfl⟩ : ∃ z, z = q := ⟨_, rfl⟩
  refine s_callV (w' := (wX cI cC cB cQ kc xh xp nh nd nb na kh kd kb ka th td tb ta gl ga gw ltr lrd srs bks img pag n_cnt n_wet n_stg n_dys n_dep n_knd n_siz n_plc n_onn n_axs k_cnt k_wet k_stg k_dys k_dep k_knd k_siz k_plc k_onn k_axs t_cnt t_wet t_stg t_dys t_dep t_knd t_siz t_plc t_onn t_axs l_gsz l_gsd l_gfw a_gfw a_gtg w_gwy w_grl w_gsz)) (rest := [.long r_11]) (st1 := [.int r_13, .long r_11]) K (c_X7_lasts xh xp nh nd nb na kh kd kb ka th td tb ta gl ga gw ltr lrd srs bks img pag n_cnt n_wet n_stg n_dys n_dep n_knd n_siz n_plc n_onn n_axs k_cnt k_wet k_stg k_dys k_dep k_knd k_siz k_plc k_onn k_axs t_cnt t_wet t_stg t_dys t_dep t_knd t_siz t_plc t_onn t_axs l_gsz l_gsd l_gfw a_gfw a_gtg w_gwy w_grl w_gsz 1 hq_14) rfl hd_X7_lasts t_545 t_471 t_472 t_1 t_473 ⟨(Nat.le_of_ble_eq_true rfl), (Nat.le_of_ble_eq_true rfl)⟩ ⟨rfl, rfl⟩ ⟨Nat.zero_le _, Nat.zero_le _⟩ (rv_o K 0 rfl rfl) [0, 1, 2, 3, 4, 5, 6, 7, 8, 9, 10, 11, 12, 13, 14, 15, 16, 17, 18, 19, 20, 21, 22, 23, 24, 25, 26, 27, 28] [] [0, 1, 2, 3, 4, 5, 6, 7, 8, 9, 10, 11, 12, 13, 14, 15, 16, 17, 18, 19, 20, 21, 22, 23, 24, 25, 26, 27, 28] rfl rfl rfl rfl (by decide) rfl rfl rfl rfl (Nat.le_of_ble_eq_true rfl) dX7_digest_37 ?_
  refine s_i2l K dX7_digest_40 ?_
  refine s_bind (fun q hq_16 => ?_)
  obtain ⟨r_15, rfl⟩ : ∃ z, z = q := ⟨_, rfl⟩
  refine s_callS0 (rest := []) (st1 := [.long r_15]) K (c_X7_mixed r_11 (Int32.toInt64 r_13) hq_16) hd_X7_mixed t_534 t_535 t_1 t_536 ⟨(Nat.le_of_ble_eq_true rfl), (Nat.le_of_ble_eq_true rfl)⟩ ⟨rfl, rfl⟩ ⟨Nat.zero_le _, Nat.zero_le _⟩ rfl rfl (Nat.le_of_ble_eq_true rfl) dX7_digest_41 ?_
  refine s_lstore_n (lv' := [(1, .long r_15), (0, .ref xh)]) K dX7_digest_44 rfl (Nat.le_of_ble_eq_true rfl) rfl ?_
  refine s_iconst K dX7_digest_45 kic_0 ?_
  refine s_istore_n (lv' := [(3, .int 0), (1, .long r_15), (0, .ref xh)]) K dX7_digest_46 rfl (Nat.le_of_ble_eq_true rfl) rfl ?_
  refine s_lv (lv' := [(0, .ref xh), (1, .long r_15), (3, .int 0)]) [2, 1, 0] rfl ?_
  exact L47 70 r_15 0
