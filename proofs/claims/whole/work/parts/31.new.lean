/-! what is made -/
theorem ra_eq {U : State} {cA cB : ClassId} {ty : FieldType} (h1 : va_RA U cA ty) (h2 : va_RA U cB ty) : cA = cB := by
  cases ty with
  | object C =>
    obtain ⟨-, -, -, -, -, a⟩ := h1
    obtain ⟨-, -, -, -, -, b⟩ := h2
    exact Option.some.inj (a.symm.trans b)
  | _ => exact Option.some.inj (Eq.trans (Eq.symm h1) h2)
section SN
variable {p : Program} {l : Launch} {e : Env} {R : Room} {s : State} {m : MethodId} {args : Array Value} {below : List Frame} {meth : Method} {c : Code} {cells slots : Nat} {cc : ByteArray} {nL : Nat} {own : String} {D : va_G} {tys : List (ClassId × FieldType)} {kc : Nat → Nat} {kt : Nat} {A : Nat → Prop} {ρ : Type} {Q : ρ → State → Prop} {F : Option ρ} {w w' : va_W} {lv : List (Nat × Value)} {pc : Nat} {st : List Value}
theorem s_newa (K : gF p s m args c cc nL own D tys kc kt A) {atype : ArrayType} {ty : FieldType} (harr : Cond.arrayClass ty ∈ TB) (hty : newarray.typeOf atype = ty) (t0 : Nat) {cX : ClassId} (ht : tys[t0]? = some (cX, ty)) {n : Int32} {N0 : Nat} {a0 : vp_A} (ha : ∀ cA : ClassId, vp_cell cA a0 = arrV cA N0 (fun _ => defaultValue ty)) (hn : ¬ n < 0) (hN : n.toNatClampNeg = N0) (hbytes : N0 * componentBytes ty ≤ 536870912) (hcells : cells + 1 ≤ R.cells) (hslots : slots + N0 ≤ R.slots) (d : decode cc pc = .ok (.newarray atype, 2)) (k : ∀ q : Nat, Sw p l e R s m args below meth c (cells + 1) (slots + N0) D A nL Q F (w ++ [(q, .inl (cX, a0))]) lv (pc + 2) (.ref q :: st)) : Sw p l e R s m args below meth c cells slots D A nL Q F w lv pc (.int n :: st) :=
  fun r hr H locs ls hP hD hS hl => va_newa K.1.1 K.1.2.1 (by rw [hty]; exact K.1.2.2.2.2 _ harr) hty K.2.1 hP hD hS K.2.2.1 ha hn hN hbytes hcells hslots d (fun q cA H1 hK1 hP1 hD1 hS1 => by
    have e1 : cA = cX := ra_eq (hK1.2 tys.length (cA, ty) (by simp)).2 (K.2.1.2 t0 _ ht).2
    subst e1
    exact k q r hr H1 locs ls hP1 hD1 hS1 hl)
theorem s_newq (K : gF p s m args c cc nL own D tys kc kt A) {index : Nat} (hlink : Cond.classLink own index "SnowBalls$Ball" ∈ TB) (t0 : Nat) {cX : ClassId} (ht : tys[t0]? = some (cX, .object "SnowBalls$Ball")) {n : Int32} {N0 : Nat} (hn : ¬ n < 0) (hN : n.toNatClampNeg = N0) (hbytes : N0 * 4 ≤ 536870912) (hcells : cells + 1 ≤ R.cells) (hslots : slots + N0 ≤ R.slots) (d : decode cc pc = .ok (.anewarray index, 3)) (k : ∀ q : Nat, Sw p l e R s m args below meth c (cells + 1) (slots + N0) D A nL Q F (w ++ [(q, .inl (cX, N0, .inr (.inr (.inr (.inr (fun _ => none))))))]) lv (pc + 3) (.ref q :: st)) : Sw p l e R s m args below meth c cells slots D A nL Q F w lv pc (.int n :: st) :=
  fun r hr H locs ls hP hD hS hl => va_newq K.1.1 K.1.2.1 K.1.2.2.2.1 (K.1.2.2.2.2 _ hlink) K.2.2.2.2.2.2.2.1 K.2.1 hP hD hS K.2.2.1 hn hN hbytes hcells hslots d (fun q cA H1 hK1 hP1 hD1 hS1 => by
    have e1 : cA = cX := ra_eq (hK1.2 tys.length (cA, .object "SnowBalls$Ball") (by simp)).2 (K.2.1.2 t0 _ ht).2
    subst e1
    exact k q r hr H1 locs ls hP1 hD1 hS1 hl)
theorem s_new (K : gF p s m args c cc nL own D tys kc kt A) {C : String} {T : u_T} {N index : Nat} (ci : Nat) (hin : ∀ w ∈ u_ws C T N, w ∈ TB) (ty : Nat → FieldType) (hty : ∀ k, k < N → parseFieldDescriptor (T k).2.2.1 = some (ty k)) (hcl : Cond.classLink own index C ∈ TB) (hinst : Cond.instantiable C N ∈ TB) (hini : Cond.initialized C ∈ TB) (hc : vwCl[ci]? = some (C, T, N)) {fs : List Value} (hfs : ∀ j, j < N → defaultValue (ty j) = vp_V fs j) (hcells : cells + 1 ≤ R.cells) (hslots : slots + N ≤ R.slots) (d : decode cc pc = .ok (.new index, 3)) (k : ∀ q : Nat, Sw p l e R s m args below meth c (cells + 1) (slots + N) D A nL Q F (w ++ [(q, .inr (ci, fs))]) lv (pc + 3) (.ref q :: st)) : Sw p l e R s m args below meth c cells slots D A nL Q F w lv pc st :=
  fun r hr H locs ls hP hD hS hl => va_new K.1.1 K.1.2.1 K.1.2.2.2.2 hin ty hty K.1.2.2.2.1 (K.1.2.2.2.2 _ hcl) (K.1.2.2.2.2 _ hinst) (K.1.2.2.2.2 _ hini) K.2.1 hP hD hS K.2.2.1 hc hfs hcells hslots d (fun q H1 hP1 hD1 hS1 => k q r hr H1 locs ls hP1 hD1 hS1 hl)
theorem s_objInit (K : gF p s m args c cc nL own D tys kc kt A) {index a : Nat} (hlink : Cond.methodLink own index Lib.objectInit ∈ TB) (hinst : Cond.instanceMethod Lib.objectInit ∈ TB) (hcode : Cond.code Lib.objectInit ⟨#[0xb1]⟩ 1 none ∈ TB) (hframes : 1 ≤ R.frames) (hlocals : (st.map fun v => v.category).sum + 12 ≤ R.locals) (d : decode cc pc = .ok (.invokespecial index, 3)) (k : Sw p l e R s m args below meth c cells slots D A nL Q F w lv (pc + 3) st) : Sw p l e R s m args below meth c cells slots D A nL Q F w lv pc (.ref a :: st) :=
  fun r hr H locs ls hP hD hS hl => W.objInit K.1.1 K.1.2.1 K.1.2.2.2.1 (K.1.2.2.2.2 _ hlink) (K.1.2.2.2.2 _ hinst) (K.1.2.2.2.2 _ hcode) rfl (hl.1.trans K.1.2.2.1.symm) rfl d hframes (by show 2 * 0 + _ + 12 ≤ _; omega) (k r hr H locs ls hP hD hS hl)
end SN
