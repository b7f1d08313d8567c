/-! a lawn is made -/
section SQ
variable {p : Program} {l : Launch} {e : Env} {R : Room} {s : State} {m : MethodId} {args : Array Value} {below : List Frame} {meth : Method} {c : Code} {cells slots : Nat} {cc : ByteArray} {nL : Nat} {own : String} {D : va_G} {tys : List (ClassId × FieldType)} {kc : Nat → Nat} {kt : Nat} {A : Nat → Prop} {ρ : Type} {Q : ρ → State → Prop} {F : Option ρ} {w w' : va_W} {lv : List (Nat × Value)} {pc : Nat} {st : List Value}
theorem s_arrQ (q0 : Nat) {a n : Nat} {cA : ClassId} {f g : Nat → Option Nat} (ha : w[q0]? = some (a, .inl (cA, n, .inr (.inr (.inr (.inr f)))))) (hfg : ∀ i : Nat, i < n → f i = g i) (hw : w.set q0 (a, .inl (cA, n, .inr (.inr (.inr (.inr g))))) = w') (k : Sw p l e R s m args below meth c cells slots D A nL Q F w' lv pc st) : Sw p l e R s m args below meth c cells slots D A nL Q F w lv pc st := fun r hr H locs ls hP hD hS hl => by
  have h0 := hP q0 _ ha
  have e : vp_cell cA (n, .inr (.inr (.inr (.inr f)))) = vp_cell cA (n, .inr (.inr (.inr (.inr g)))) := by
    rw [vp_cell_q, vp_cell_q, arrV, arrV]
    congr 2
    funext j
    rw [hfg j.val j.isLt]
  have h1 : va_at D vwCl (a, .inl (cA, n, .inr (.inr (.inr (.inr g))))) H := by
    show H[a]? = some (vp_cell cA (n, .inr (.inr (.inr (.inr g)))))
    rw [← e]; exact h0
  subst hw
  exact k r hr H locs ls (hP.set hD ha h1 (fun _ _ => rfl)) (hD.set ha) hS hl
end SQ
def fam5 (a0 a1 a2 a3 a4 : Nat) : Nat → Nat
  | 0 => a0
  | 1 => a1
  | 2 => a2
  | 3 => a3
  | _ => a4
set_option maxHeartbeats 4000000 in
set_option maxRecDepth 100000 in
theorem c_X4_init {l : Launch} {D : va_G} {cI cC cB cQ : ClassId} {kc : Nat → Nat} {kt : Nat} (b : Nat) : CN l D (tysOf cI cC cB cQ) kc kt yX4_init cX4_init 2 ({ frames := 2, cells := 7, slots := 50, locals := 80 } : Room) 7 50 [.ref b] [(b, .inr (3, [.null, .null, .int 0, .int 0, .int 0, .int 0]))] (fun a : Nat × Nat × (Nat → Nat) => wL cI cC cB cQ kc b a.1 a.2.1 a.2.2 0 0 20 0 (fun _ => 0) (fun _ => 0) (fun _ => 0) (fun _ => -1) (fun _ => -1) (fun _ => -1)) := by
  refine CN.of (ww := (fun a : Nat × Nat × (Nat → Nat) => wL cI cC cB cQ kc b a.1 a.2.1 a.2.2 0 0 20 0 (fun _ => 0) (fun _ => 0) (fun _ => 0) (fun _ => -1) (fun _ => -1) (fun _ => -1))) RX4 rfl rfl rfl (Nat.le_of_ble_eq_true rfl) ?_
  intro p e s m args below meth c A K hret hlk hnm
  refine s_aload_n K dX4_init_0 rfl 0 rfl ?_
  refine s_objInit K t_26 t_19 t_20 (Nat.le_of_ble_eq_true rfl) (Nat.le_of_ble_eq_true rfl) dX4_init_1 ?_
  refine s_aload_n K dX4_init_4 rfl 0 rfl ?_
  refine s_bipush (v := 20) K dX4_init_5 (by decide +kernel) ?_
  refine s_newa (a0 := (20, .inl (fun _ => 0))) (N0 := 20) K t_66 rfl 0 rfl (fun cA => rfl) (by decide) (by decide +kernel) (Nat.le_of_ble_eq_true rfl) (Nat.le_of_ble_eq_true rfl) (Nat.le_of_ble_eq_true rfl) dX4_init_7 (fun ud => ?_)
  refine s_putF (w' := [(b, .inr (3, [.ref ud, .null, .int 0, .int 0, .int 0, .int 0])), (ud, .inl (cI, 20, .inl (fun _ => 0)))]) K 0 rfl rfl inT4 tyX4_ok nmX4 hnm 0 (Nat.le_of_ble_eq_true rfl) t_67 rfl rfl rfl rfl rfl (Nat.le_of_ble_eq_true rfl) rfl dX4_init_9 ?_
  refine s_aload_n K dX4_init_12 rfl 0 rfl ?_
  refine s_iconst K dX4_init_13 kic_5 ?_
  refine s_newq (N0 := 5) K t_27 3 rfl (by decide) (by decide +kernel) (Nat.le_of_ble_eq_true rfl) (Nat.le_of_ble_eq_true rfl) (Nat.le_of_ble_eq_true rfl) dX4_init_14 (fun ub => ?_)
  refine s_putF (w' := [(b, .inr (3, [.ref ud, .ref ub, .int 0, .int 0, .int 0, .int 0])), (ud, .inl (cI, 20, .inl (fun _ => 0))), (ub, .inl (cQ, 5, .inr (.inr (.inr (.inr (fun _ => none))))))]) K 0 rfl rfl inT4 tyX4_ok nmX4 hnm 1 (Nat.le_of_ble_eq_true rfl) t_69 rfl rfl rfl rfl rfl (Nat.le_of_ble_eq_true rfl) rfl dX4_init_17 ?_
  refine s_iconst K dX4_init_20 kic_0 ?_
  refine s_istore_n (lv' := [(1, .int 0), (0, .ref b)]) K dX4_init_21 rfl (Nat.le_of_ble_eq_true rfl) rfl ?_
  refine s_iload_n K dX4_init_22 rfl 0 rfl ?_
  refine s_aload_n K dX4_init_23 rfl 1 rfl ?_
  refine s_get K 0 rfl rfl inT4 1 (Nat.le_of_ble_eq_true rfl) t_69 rfl rfl dX4_init_24 ?_
  refine s_alen (v := 5) K 2 3 rfl rfl rfl dX4_init_27 ?_
  refine s_icmp_geF K dX4_init_28 50 (by decide) (by decide) ?_
  refine s_aload_n K dX4_init_31 rfl 1 rfl ?_
  refine s_get K 0 rfl rfl inT4 1 (Nat.le_of_ble_eq_true rfl) t_69 rfl rfl dX4_init_32 ?_
  refine s_iload_n K dX4_init_35 rfl 0 rfl ?_
  refine s_new (fs := [.null, .int 0, .int 0, .int 0, .int 0]) K 1 inT1 tyX1 tyX1_ok t_27 t_29 t_3 rfl (by decide +kernel) (Nat.le_of_ble_eq_true rfl) (Nat.le_of_ble_eq_true rfl) dX4_init_36 (fun a0 => ?_)
  refine s_dup K dX4_init_39 rfl ?_
  refine s_callI (As := []) (w' := [(b, .inr (3, [.ref ud, .ref ub, .int 0, .int 0, .int 0, .int 0])), (ud, .inl (cI, 20, .inl (fun _ => 0))), (ub, .inl (cQ, 5, .inr (.inr (.inr (.inr (fun _ => none)))))), (a0, .inr (1, [.ref (kc 0), .int 0, .int (-1), .int (-1), .int (-1)]))]) K t_30 (c_X1_init a0) hd_X1_init t_31 t_3 t_32 rfl ⟨(Nat.le_of_ble_eq_true rfl), (Nat.le_of_ble_eq_true rfl)⟩ ⟨rfl, rfl⟩ ⟨(Nat.le_of_ble_eq_true rfl), (Nat.le_of_ble_eq_true rfl)⟩ [3] [0, 1, 2] [0, 1, 2, 3] rfl rfl rfl rfl (by decide) rfl rfl rfl (Nat.le_of_ble_eq_true rfl) dX4_init_40 ?_
  refine s_astq (w' := [(b, .inr (3, [.ref ud, .ref ub, .int 0, .int 0, .int 0, .int 0])), (ud, .inl (cI, 20, .inl (fun _ => 0))), (ub, .inl (cQ, 5, .inr (.inr (.inr (.inr (va_up (fun _ => none) 0 (some a0))))))), (a0, .inr (1, [.ref (kc 0), .int 0, .int (-1), .int (-1), .int (-1)]))]) (j := 0) K 2 3 3 1 rfl rfl rfl rfl (ok_in (by decide +kernel)) (by decide +kernel) rfl dX4_init_43 ?_
  refine s_iinc (lv' := [(1, .int 1), (0, .ref b)]) K dX4_init_44 0 rfl (by decide +kernel) (Nat.le_of_ble_eq_true rfl) rfl ?_
  refine s_goto (tgt := 22) K dX4_init_47 (by decide) ?_
  refine s_iload_n K dX4_init_22 rfl 0 rfl ?_
  refine s_aload_n K dX4_init_23 rfl 1 rfl ?_
  refine s_get K 0 rfl rfl inT4 1 (Nat.le_of_ble_eq_true rfl) t_69 rfl rfl dX4_init_24 ?_
  refine s_alen (v := 5) K 2 3 rfl rfl rfl dX4_init_27 ?_
  refine s_icmp_geF K dX4_init_28 50 (by decide) (by decide) ?_
  refine s_aload_n K dX4_init_31 rfl 1 rfl ?_
  refine s_get K 0 rfl rfl inT4 1 (Nat.le_of_ble_eq_true rfl) t_69 rfl rfl dX4_init_32 ?_
  refine s_iload_n K dX4_init_35 rfl 0 rfl ?_
  refine s_new (fs := [.null, .int 0, .int 0, .int 0, .int 0]) K 1 inT1 tyX1 tyX1_ok t_27 t_29 t_3 rfl (by decide +kernel) (Nat.le_of_ble_eq_true rfl) (Nat.le_of_ble_eq_true rfl) dX4_init_36 (fun a1 => ?_)
  refine s_dup K dX4_init_39 rfl ?_
  refine s_callI (As := []) (w' := [(b, .inr (3, [.ref ud, .ref ub, .int 0, .int 0, .int 0, .int 0])), (ud, .inl (cI, 20, .inl (fun _ => 0))), (ub, .inl (cQ, 5, .inr (.inr (.inr (.inr (va_up (fun _ => none) 0 (some a0))))))), (a0, .inr (1, [.ref (kc 0), .int 0, .int (-1), .int (-1), .int (-1)])), (a1, .inr (1, [.ref (kc 0), .int 0, .int (-1), .int (-1), .int (-1)]))]) K t_30 (c_X1_init a1) hd_X1_init t_31 t_3 t_32 rfl ⟨(Nat.le_of_ble_eq_true rfl), (Nat.le_of_ble_eq_true rfl)⟩ ⟨rfl, rfl⟩ ⟨(Nat.le_of_ble_eq_true rfl), (Nat.le_of_ble_eq_true rfl)⟩ [4] [0, 1, 2, 3] [0, 1, 2, 3, 4] rfl rfl rfl rfl (by decide) rfl rfl rfl (Nat.le_of_ble_eq_true rfl) dX4_init_40 ?_
  refine s_astq (w' := [(b, .inr (3, [.ref ud, .ref ub, .int 0, .int 0, .int 0, .int 0])), (ud, .inl (cI, 20, .inl (fun _ => 0))), (ub, .inl (cQ, 5, .inr (.inr (.inr (.inr (va_up (va_up (fun _ => none) 0 (some a0)) 1 (some a1))))))), (a0, .inr (1, [.ref (kc 0), .int 0, .int (-1), .int (-1), .int (-1)])), (a1, .inr (1, [.ref (kc 0), .int 0, .int (-1), .int (-1), .int (-1)]))]) (j := 1) K 2 3 4 1 rfl rfl rfl rfl (ok_in (by decide +kernel)) (by decide +kernel) rfl dX4_init_43 ?_
  refine s_iinc (lv' := [(1, .int 2), (0, .ref b)]) K dX4_init_44 0 rfl (by decide +kernel) (Nat.le_of_ble_eq_true rfl) rfl ?_
  refine s_goto (tgt := 22) K dX4_init_47 (by decide) ?_
  refine s_iload_n K dX4_init_22 rfl 0 rfl ?_
  refine s_aload_n K dX4_init_23 rfl 1 rfl ?_
  refine s_get K 0 rfl rfl inT4 1 (Nat.le_of_ble_eq_true rfl) t_69 rfl rfl dX4_init_24 ?_
  refine s_alen (v := 5) K 2 3 rfl rfl rfl dX4_init_27 ?_
  refine s_icmp_geF K dX4_init_28 50 (by decide) (by decide) ?_
  refine s_aload_n K dX4_init_31 rfl 1 rfl ?_
  refine s_get K 0 rfl rfl inT4 1 (Nat.le_of_ble_eq_true rfl) t_69 rfl rfl dX4_init_32 ?_
  refine s_iload_n K dX4_init_35 rfl 0 rfl ?_
  refine s_new (fs := [.null, .int 0, .int 0, .int 0, .int 0]) K 1 inT1 tyX1 tyX1_ok t_27 t_29 t_3 rfl (by decide +kernel) (Nat.le_of_ble_eq_true rfl) (Nat.le_of_ble_eq_true rfl) dX4_init_36 (fun a2 => ?_)
  refine s_dup K dX4_init_39 rfl ?_
  refine s_callI (As := []) (w' := [(b, .inr (3, [.ref ud, .ref ub, .int 0, .int 0, .int 0, .int 0])), (ud, .inl (cI, 20, .inl (fun _ => 0))), (ub, .inl (cQ, 5, .inr (.inr (.inr (.inr (va_up (va_up (fun _ => none) 0 (some a0)) 1 (some a1))))))), (a0, .inr (1, [.ref (kc 0), .int 0, .int (-1), .int (-1), .int (-1)])), (a1, .inr (1, [.ref (kc 0), .int 0, .int (-1), .int (-1), .int (-1)])), (a2, .inr (1, [.ref (kc 0), .int 0, .int (-1), .int (-1), .int (-1)]))]) K t_30 (c_X1_init a2) hd_X1_init t_31 t_3 t_32 rfl ⟨(Nat.le_of_ble_eq_true rfl), (Nat.le_of_ble_eq_true rfl)⟩ ⟨rfl, rfl⟩ ⟨(Nat.le_of_ble_eq_true rfl), (Nat.le_of_ble_eq_true rfl)⟩ [5] [0, 1, 2, 3, 4] [0, 1, 2, 3, 4, 5] rfl rfl rfl rfl (by decide) rfl rfl rfl (Nat.le_of_ble_eq_true rfl) dX4_init_40 ?_
  refine s_astq (w' := [(b, .inr (3, [.ref ud, .ref ub, .int 0, .int 0, .int 0, .int 0])), (ud, .inl (cI, 20, .inl (fun _ => 0))), (ub, .inl (cQ, 5, .inr (.inr (.inr (.inr (va_up (va_up (va_up (fun _ => none) 0 (some a0)) 1 (some a1)) 2 (some a2))))))), (a0, .inr (1, [.ref (kc 0), .int 0, .int (-1), .int (-1), .int (-1)])), (a1, .inr (1, [.ref (kc 0), .int 0, .int (-1), .int (-1), .int (-1)])), (a2, .inr (1, [.ref (kc 0), .int 0, .int (-1), .int (-1), .int (-1)]))]) (j := 2) K 2 3 5 1 rfl rfl rfl rfl (ok_in (by decide +kernel)) (by decide +kernel) rfl dX4_init_43 ?_
  refine s_iinc (lv' := [(1, .int 3), (0, .ref b)]) K dX4_init_44 0 rfl (by decide +kernel) (Nat.le_of_ble_eq_true rfl) rfl ?_
  refine s_goto (tgt := 22) K dX4_init_47 (by decide) ?_
  refine s_iload_n K dX4_init_22 rfl 0 rfl ?_
  refine s_aload_n K dX4_init_23 rfl 1 rfl ?_
  refine s_get K 0 rfl rfl inT4 1 (Nat.le_of_ble_eq_true rfl) t_69 rfl rfl dX4_init_24 ?_
  refine s_alen (v := 5) K 2 3 rfl rfl rfl dX4_init_27 ?_
  refine s_icmp_geF K dX4_init_28 50 (by decide) (by decide) ?_
  refine s_aload_n K dX4_init_31 rfl 1 rfl ?_
  refine s_get K 0 rfl rfl inT4 1 (Nat.le_of_ble_eq_true rfl) t_69 rfl rfl dX4_init_32 ?_
  refine s_iload_n K dX4_init_35 rfl 0 rfl ?_
  refine s_new (fs := [.null, .int 0, .int 0, .int 0, .int 0]) K 1 inT1 tyX1 tyX1_ok t_27 t_29 t_3 rfl (by decide +kernel) (Nat.le_of_ble_eq_true rfl) (Nat.le_of_ble_eq_true rfl) dX4_init_36 (fun a3 => ?_)
  refine s_dup K dX4_init_39 rfl ?_
  refine s_callI (As := []) (w' := [(b, .inr (3, [.ref ud, .ref ub, .int 0, .int 0, .int 0, .int 0])), (ud, .inl (cI, 20, .inl (fun _ => 0))), (ub, .inl (cQ, 5, .inr (.inr (.inr (.inr (va_up (va_up (va_up (fun _ => none) 0 (some a0)) 1 (some a1)) 2 (some a2))))))), (a0, .inr (1, [.ref (kc 0), .int 0, .int (-1), .int (-1), .int (-1)])), (a1, .inr (1, [.ref (kc 0), .int 0, .int (-1), .int (-1), .int (-1)])), (a2, .inr (1, [.ref (kc 0), .int 0, .int (-1), .int (-1), .int (-1)])), (a3, .inr (1, [.ref (kc 0), .int 0, .int (-1), .int (-1), .int (-1)]))]) K t_30 (c_X1_init a3) hd_X1_init t_31 t_3 t_32 rfl ⟨(Nat.le_of_ble_eq_true rfl), (Nat.le_of_ble_eq_true rfl)⟩ ⟨rfl, rfl⟩ ⟨(Nat.le_of_ble_eq_true rfl), (Nat.le_of_ble_eq_true rfl)⟩ [6] [0, 1, 2, 3, 4, 5] [0, 1, 2, 3, 4, 5, 6] rfl rfl rfl rfl (by decide) rfl rfl rfl (Nat.le_of_ble_eq_true rfl) dX4_init_40 ?_
  refine s_astq (w' := [(b, .inr (3, [.ref ud, .ref ub, .int 0, .int 0, .int 0, .int 0])), (ud, .inl (cI, 20, .inl (fun _ => 0))), (ub, .inl (cQ, 5, .inr (.inr (.inr (.inr (va_up (va_up (va_up (va_up (fun _ => none) 0 (some a0)) 1 (some a1)) 2 (some a2)) 3 (some a3))))))), (a0, .inr (1, [.ref (kc 0), .int 0, .int (-1), .int (-1), .int (-1)])), (a1, .inr (1, [.ref (kc 0), .int 0, .int (-1), .int (-1), .int (-1)])), (a2, .inr (1, [.ref (kc 0), .int 0, .int (-1), .int (-1), .int (-1)])), (a3, .inr (1, [.ref (kc 0), .int 0, .int (-1), .int (-1), .int (-1)]))]) (j := 3) K 2 3 6 1 rfl rfl rfl rfl (ok_in (by decide +kernel)) (by decide +kernel) rfl dX4_init_43 ?_
  refine s_iinc (lv' := [(1, .int 4), (0, .ref b)]) K dX4_init_44 0 rfl (by decide +kernel) (Nat.le_of_ble_eq_true rfl) rfl ?_
  refine s_goto (tgt := 22) K dX4_init_47 (by decide) ?_
  refine s_iload_n K dX4_init_22 rfl 0 rfl ?_
  refine s_aload_n K dX4_init_23 rfl 1 rfl ?_
  refine s_get K 0 rfl rfl inT4 1 (Nat.le_of_ble_eq_true rfl) t_69 rfl rfl dX4_init_24 ?_
  refine s_alen (v := 5) K 2 3 rfl rfl rfl dX4_init_27 ?_
  refine s_icmp_geF K dX4_init_28 50 (by decide) (by decide) ?_
  refine s_aload_n K dX4_init_31 rfl 1 rfl ?_
  refine s_get K 0 rfl rfl inT4 1 (Nat.le_of_ble_eq_true rfl) t_69 rfl rfl dX4_init_32 ?_
  refine s_iload_n K dX4_init_35 rfl 0 rfl ?_
  refine s_new (fs := [.null, .int 0, .int 0, .int 0, .int 0]) K 1 inT1 tyX1 tyX1_ok t_27 t_29 t_3 rfl (by decide +kernel) (Nat.le_of_ble_eq_true rfl) (Nat.le_of_ble_eq_true rfl) dX4_init_36 (fun a4 => ?_)
  refine s_dup K dX4_init_39 rfl ?_
  refine s_callI (As := []) (w' := [(b, .inr (3, [.ref ud, .ref ub, .int 0, .int 0, .int 0, .int 0])), (ud, .inl (cI, 20, .inl (fun _ => 0))), (ub, .inl (cQ, 5, .inr (.inr (.inr (.inr (va_up (va_up (va_up (va_up (fun _ => none) 0 (some a0)) 1 (some a1)) 2 (some a2)) 3 (some a3))))))), (a0, .inr (1, [.ref (kc 0), .int 0, .int (-1), .int (-1), .int (-1)])), (a1, .inr (1, [.ref (kc 0), .int 0, .int (-1), .int (-1), .int (-1)])), (a2, .inr (1, [.ref (kc 0), .int 0, .int (-1), .int (-1), .int (-1)])), (a3, .inr (1, [.ref (kc 0), .int 0, .int (-1), .int (-1), .int (-1)])), (a4, .inr (1, [.ref (kc 0), .int 0, .int (-1), .int (-1), .int (-1)]))]) K t_30 (c_X1_init a4) hd_X1_init t_31 t_3 t_32 rfl ⟨(Nat.le_of_ble_eq_true rfl), (Nat.le_of_ble_eq_true rfl)⟩ ⟨rfl, rfl⟩ ⟨(Nat.le_of_ble_eq_true rfl), (Nat.le_of_ble_eq_true rfl)⟩ [7] [0, 1, 2, 3, 4, 5, 6] [0, 1, 2, 3, 4, 5, 6, 7] rfl rfl rfl rfl (by decide) rfl rfl rfl (Nat.le_of_ble_eq_true rfl) dX4_init_40 ?_
  refine s_astq (w' := [(b, .inr (3, [.ref ud, .ref ub, .int 0, .int 0, .int 0, .int 0])), (ud, .inl (cI, 20, .inl (fun _ => 0))), (ub, .inl (cQ, 5, .inr (.inr (.inr (.inr (va_up (va_up (va_up (va_up (va_up (fun _ => none) 0 (some a0)) 1 (some a1)) 2 (some a2)) 3 (some a3)) 4 (some a4))))))), (a0, .inr (1, [.ref (kc 0), .int 0, .int (-1), .int (-1), .int (-1)])), (a1, .inr (1, [.ref (kc 0), .int 0, .int (-1), .int (-1), .int (-1)])), (a2, .inr (1, [.ref (kc 0), .int 0, .int (-1), .int (-1), .int (-1)])), (a3, .inr (1, [.ref (kc 0), .int 0, .int (-1), .int (-1), .int (-1)])), (a4, .inr (1, [.ref (kc 0), .int 0, .int (-1), .int (-1), .int (-1)]))]) (j := 4) K 2 3 7 1 rfl rfl rfl rfl (ok_in (by decide +kernel)) (by decide +kernel) rfl dX4_init_43 ?_
  refine s_iinc (lv' := [(1, .int 5), (0, .ref b)]) K dX4_init_44 0 rfl (by decide +kernel) (Nat.le_of_ble_eq_true rfl) rfl ?_
  refine s_goto (tgt := 22) K dX4_init_47 (by decide) ?_
  refine s_iload_n K dX4_init_22 rfl 0 rfl ?_
  refine s_aload_n K dX4_init_23 rfl 1 rfl ?_
  refine s_get K 0 rfl rfl inT4 1 (Nat.le_of_ble_eq_true rfl) t_69 rfl rfl dX4_init_24 ?_
  refine s_alen (v := 5) K 2 3 rfl rfl rfl dX4_init_27 ?_
  refine s_icmp_geT (tgt := 50) K dX4_init_28 (by decide) (by decide) ?_
  refine s_aload_n K dX4_init_50 rfl 1 rfl ?_
  refine s_bipush (v := 20) K dX4_init_51 (by decide +kernel) ?_
  refine s_put (w' := [(b, .inr (3, [.ref ud, .ref ub, .int 0, .int 0, .int 20, .int 0])), (ud, .inl (cI, 20, .inl (fun _ => 0))), (ub, .inl (cQ, 5, .inr (.inr (.inr (.inr (va_up (va_up (va_up (va_up (va_up (fun _ => none) 0 (some a0)) 1 (some a1)) 2 (some a2)) 3 (some a3)) 4 (some a4))))))), (a0, .inr (1, [.ref (kc 0), .int 0, .int (-1), .int (-1), .int (-1)])), (a1, .inr (1, [.ref (kc 0), .int 0, .int (-1), .int (-1), .int (-1)])), (a2, .inr (1, [.ref (kc 0), .int 0, .int (-1), .int (-1), .int (-1)])), (a3, .inr (1, [.ref (kc 0), .int 0, .int (-1), .int (-1), .int (-1)])), (a4, .inr (1, [.ref (kc 0), .int 0, .int (-1), .int (-1), .int (-1)]))]) K 0 rfl rfl inT4 tyX4_ok nmX4 4 (Nat.le_of_ble_eq_true rfl) t_75 rfl rfl rfl rfl (Nat.le_of_ble_eq_true rfl) rfl dX4_init_53 ?_
  refine s_arrQ (w' := [(b, .inr (3, [.ref ud, .ref ub, .int 0, .int 0, .int 20, .int 0])), (ud, .inl (cI, 20, .inl (fun _ => 0))), (ub, .inl (cQ, 5, .inr (.inr (.inr (.inr (fun i => some (fam5 a0 a1 a2 a3 a4 i))))))), (a0, .inr (1, [.ref (kc 0), .int 0, .int (-1), .int (-1), .int (-1)])), (a1, .inr (1, [.ref (kc 0), .int 0, .int (-1), .int (-1), .int (-1)])), (a2, .inr (1, [.ref (kc 0), .int 0, .int (-1), .int (-1), .int (-1)])), (a3, .inr (1, [.ref (kc 0), .int 0, .int (-1), .int (-1), .int (-1)])), (a4, .inr (1, [.ref (kc 0), .int 0, .int (-1), .int (-1), .int (-1)]))]) 2 rfl (fun i hi => by rcases (show i = 0 ∨ i = 1 ∨ i = 2 ∨ i = 3 ∨ i = 4 by omega) with rfl | rfl | rfl | rfl | rfl <;> rfl) rfl ?_
  exact s_vretN K hret hlk (ud, ub, fam5 a0 a1 a2 a3 a4) rfl dX4_init_56
