/-! calls of constructors -/
def CQn {ν : Type} (D : va_G) (ww : ν → va_W) (A : Nat → Prop) : Array Value → State → Outcome → State → Prop := fun _ st oc t => oc = .returned none ∧ (∃ a : ν, va_P D vwCl (ww a) t.heap ∧ va_D A (ww a)) ∧ va_F A st t
/-- a contract of a constructor that makes more: the world behind it has new addresses -/
def CN {ν : Type} (l : Launch) (D : va_G) (tys : List (ClassId × FieldType)) (kc : Nat → Nat) (kt : Nat) (y : MethodName) (bytes : ByteArray) (maxL : Nat) (rm : Room) (mc ms : Nat) (av : List Value) (w : va_W) (ww : ν → va_W) : Prop :=
  ∀ sz : Nat, Met l y (Cond.code y bytes maxL none :: TB) rm (va_Pc av (CP D tys kc kt w sz)) (CQn D ww (va_A w sz)) mc ms (va_A w sz)
theorem good_I {y : MethodName} {bytes : ByteArray} {maxL : Nat} (c5 : Cond.code y bytes maxL none ∈ TB) : GoodIn TB (Cond.code y bytes maxL none :: TB) := tb_cons c5
section SI
variable {p : Program} {l : Launch} {e : Env} {R : Room} {s : State} {m : MethodId} {args : Array Value} {below : List Frame} {meth : Method} {c : Code} {cells slots : Nat} {cc : ByteArray} {nL : Nat} {own : String} {D : va_G} {tys : List (ClassId × FieldType)} {kc : Nat → Nat} {kt : Nat} {A : Nat → Prop} {ρ : Type} {Q : ρ → State → Prop} {F : Option ρ} {w w' : va_W} {lv : List (Nat × Value)} {pc : Nat} {st : List Value}
variable {y : MethodName} {bytes : ByteArray} {maxL index mc ms : Nat} {rm : Room} {As rest st0 : List Value} {b : Nat} {wc wc' : va_W} {ν : Type} {ww wwc : ν → va_W}
theorem s_astq (K : gF p s m args c cc nL own D tys kc kt A) (q0 t0 qk ci : Nat) {cA : ClassId} {a n v : Nat} {C : String} {T : u_T} {N : Nat} {vs : List Value} {f : Nat → Option Nat} (ha : w[q0]? = some (a, .inl (cA, n, .inr (.inr (.inr (.inr f)))))) (ht : tys[t0]? = some (cA, .object C)) (hv : w[qk]? = some (v, .inr (ci, vs))) (hc : vwCl[ci]? = some (C, T, N)) {i : Int32} {j : Nat} (hin : vp_in i n) (hj : i.toNatClampNeg = j) (hw : w.set q0 (a, .inl (cA, n, .inr (.inr (.inr (.inr (va_up f j (some v))))))) = w') (d : decode cc pc = .ok (.aastore, 1)) (k : Sw p l e R s m args below meth c cells slots D A nL Q F w' lv (pc + 1) st) : Sw p l e R s m args below meth c cells slots D A nL Q F w lv pc (.ref v :: .int i :: .ref a :: st) :=
  fun r hr H locs ls hP hD hS hl => va_astq (r := (C, T, N)) K.1.1 K.1.2.1 K.2.1 hP hD hS q0 t0 qk ci ha ht hv hc hin d (fun H1 locs1 hP1 hD1 hS1 => by
    subst hj
    subst hw
    exact k r hr H1 locs1 ls hP1 hD1 hS1 hl)
theorem s_callI (K : gF p s m args c cc nL own D tys kc kt A) (c1 : Cond.methodLink own index y ∈ TB) (hM : CT l D tys kc kt y bytes maxL none rm (.ref b :: As) wc wc' none) (hd : y.cls ≠ "java/lang/invoke/MethodHandle" ∧ y.cls ≠ "java/lang/invoke/VarHandle" ∧ (parseMethodDescriptor y.desc).map (fun d => d.parameters.length) = some As.length) (c2 : Cond.instanceMethod y ∈ TB) (c4 : Cond.initialized y.cls ∈ TB) (c5 : Cond.code y bytes maxL none ∈ TB) (hy1 : y.name = "<init>") (hR : rm.frames + 1 ≤ R.frames ∧ 8 + (maxL + 11) + rm.locals ≤ R.locals) (hrm : rm.cells = 0 ∧ rm.slots = 0) (hcs : cells ≤ R.cells ∧ slots ≤ R.slots) (isC isR isW : List Nat) (hC : isC.map (fun i => w[i]?) = wc.map some) (hRr : isR.all (fun i => decide (i < w.length)) = true) (hnd : va_nd isR = true) (hnC : va_nd isC = true) (hdis : ∀ i ∈ isR, i ∉ isC) (hW : isW.map (fun i => (isR.filterMap (fun i => w[i]?) ++ wc')[i]?) = w'.map some) (hnW : va_nd isW = true) (hs0 : As.reverse ++ .ref b :: st = st0) (hroom : (st.map fun v => v.category).sum ≤ 8) (d : decode cc pc = .ok (.invokespecial index, 3)) (k : Sw p l e R s m args below meth c cells slots D A nL Q F w' lv (pc + 3) st) : Sw p l e R s m args below meth c cells slots D A nL Q F w lv pc st0 :=
  s_run K isC isR isW hC hRr hnd hnC hdis hW hnW (out := none) (rest := st) rfl (a := (Value.ref b :: As).toArray) (fun H locs ls hP hD hS hsz hPc hDc hFc => va_runI K.1 (hM H.size) (cwI As.length K.1.2.2.2.2 (tb_cons c5) rfl hrm.1 hrm.2 (K.1.2.2.2.2 _ c4) (K.1.2.2.2.2 _ c1) (K.1.2.2.2.2 _ c2) hy1 hd hR) ⟨CP.blind, fun U hU hW9 => ⟨rfl, by rw [hU], by rw [hU]; exact hPc, K.2.1.moved hW9.alike, hDc, by rw [hU]; exact ((K.2.2.2.kept hS.2.1).narrow hFc).warm hW9⟩⟩ rfl rfl hsz hs0.symm (lv_room hroom) d hcs) k
theorem s_runN (K : gF p s m args c cc nL own D tys kc kt A) (isC isR isW : List Nat) (hC : isC.map (fun i => w[i]?) = wc.map some) (hR : isR.all (fun i => decide (i < w.length)) = true) (hnd : va_nd isR = true) (hnC : va_nd isC = true) (hdis : ∀ i ∈ isR, i ∉ isC) (hW : ∀ a : ν, isW.map (fun i => (isR.filterMap (fun i => w[i]?) ++ wwc a)[i]?) = (ww a).map some) (hnW : va_nd isW = true) {a0 : Array Value}
    (hrun : ∀ (H : Heap) (locs : List Loc) (ls : Array Slot), va_P D vwCl w H → va_D A w → va_S A s.heap H locs → ls.size = nL → va_P D vwCl wc H → va_D (fun _ => True) wc → (∀ q, va_A wc H.size q → A q) → va_Run p l e R s m args below meth c H locs cells slots mc ms (F0 m pc ls st0) rest (CQn D wwc (va_A wc H.size) a0) (va_A wc H.size))
    (k : ∀ a : ν, Sw p l e R s m args below meth c (cells + mc) (slots + ms) D A nL Q F (ww a) lv (pc + 3) rest) : Sw p l e R s m args below meth c cells slots D A nL Q F w lv pc st0 := by
  intro r hr H locs ls hP hD hS hl
  have hFc := va_free (wc := wc) hD hS K.2.2.1 isC hC
  have hPc := sub_P hP isC hC
  intro T hT X
  have hDc : va_D (fun _ => True) wc := by
    refine ⟨fun i j x y hi hj hxy => ?_, fun _ _ _ => trivial⟩
    have at' : ∀ (k : Nat) (q : Nat × va_E), wc[k]? = some q → ∃ i, isC[k]? = some i ∧ w[i]? = some q := by
      intro k q hq
      have h1 : (isC.map (fun i => w[i]?))[k]? = some (some q) := by rw [hC, List.getElem?_map, hq]; rfl
      rw [List.getElem?_map] at h1
      cases hi : isC[k]? with
      | none => rw [hi] at h1; cases h1
      | some i => rw [hi] at h1; exact ⟨i, rfl, Option.some.inj h1⟩
    obtain ⟨i2, a1, a2⟩ := at' i x hi
    obtain ⟨j2, b1, b2⟩ := at' j y hj
    have hij := hD.1 i2 j2 x y a2 b2 hxy
    subst hij
    exact va_nd_inj isC hnC i j i2 a1 b1
  obtain ⟨v, st₀, t, T', L, h0, X', hL, e1, e2, ⟨hv, ⟨na, hP1, hD1⟩, hz, hk⟩, hgo⟩ := hrun H locs ls hP hD hS hl.1 hPc hDc hFc T hT X
  cases hv
  rw [h0] at hz hk
  have hk1 : ∀ q : Nat, q < H.size → ¬ va_A wc H.size q → T'.heap[q]? = H[q]? := fun q h1 h2 => by rw [e1]; exact hk q h1 h2
  obtain ⟨hP2, hD2⟩ := va_join (wr := isR.filterMap (fun i => w[i]?)) (w1 := wwc na) hP hD isC isR hC (rest_map w isR hR) hnd hdis hk1 hFc (by rw [e1]; exact hP1) hD1
  have hS1 : va_S A s.heap T'.heap (locs ++ L) := ⟨Nat.le_trans hS.1 (by rw [e1]; exact hz), fun q h1 h2 => by rw [e1, hk q (Nat.lt_of_lt_of_le h1 hS.1) (fun z => h2 (hFc q z))]; exact hS.2.1 q h1 h2, fun q hq => by
      rcases List.mem_append.mp hq with h | h
      · exact hS.2.2 q h
      · exact hFc _ (hL q h)⟩
  obtain ⟨t2, a1, b1⟩ := k na r hr T'.heap (locs ++ L) ls (sub_P hP2 isW (hW na)) (hD2.sub isW hnW (hW na)) hS1 hl T' rfl X'
  exact ⟨t2, hgo t2 a1, b1⟩
theorem s_callX (K : gF p s m args c cc nL own D tys kc kt A) (c1 : Cond.methodLink own index y ∈ TB) (hM : CN l D tys kc kt y bytes maxL rm mc ms (.ref b :: As) wc wwc) (hd : y.cls ≠ "java/lang/invoke/MethodHandle" ∧ y.cls ≠ "java/lang/invoke/VarHandle" ∧ (parseMethodDescriptor y.desc).map (fun d => d.parameters.length) = some As.length) (c2 : Cond.instanceMethod y ∈ TB) (c4 : Cond.initialized y.cls ∈ TB) (c5 : Cond.code y bytes maxL none ∈ TB) (hy1 : y.name = "<init>") (hR : rm.frames + 1 ≤ R.frames ∧ 8 + (maxL + 11) + rm.locals ≤ R.locals) (hrm : rm.cells = mc ∧ rm.slots = ms) (hcs : cells + mc ≤ R.cells ∧ slots + ms ≤ R.slots) (isC isR isW : List Nat) (hC : isC.map (fun i => w[i]?) = wc.map some) (hRr : isR.all (fun i => decide (i < w.length)) = true) (hnd : va_nd isR = true) (hnC : va_nd isC = true) (hdis : ∀ i ∈ isR, i ∉ isC) (hW : ∀ a : ν, isW.map (fun i => (isR.filterMap (fun i => w[i]?) ++ wwc a)[i]?) = (ww a).map some) (hnW : va_nd isW = true) (hs0 : As.reverse ++ .ref b :: st = st0) (hroom : (st.map fun v => v.category).sum ≤ 8) (d : decode cc pc = .ok (.invokespecial index, 3)) (k : ∀ a : ν, Sw p l e R s m args below meth c (cells + mc) (slots + ms) D A nL Q F (ww a) lv (pc + 3) st) : Sw p l e R s m args below meth c cells slots D A nL Q F w lv pc st0 :=
  s_runN K isC isR isW hC hRr hnd hnC hdis hW hnW (rest := st) (a0 := (Value.ref b :: As).toArray) (fun H locs ls hP hD hS hsz hPc hDc hFc => va_runI K.1 (hM H.size) (cwI As.length K.1.2.2.2.2 (tb_cons c5) rfl hrm.1 hrm.2 (K.1.2.2.2.2 _ c4) (K.1.2.2.2.2 _ c1) (K.1.2.2.2.2 _ c2) hy1 hd hR) ⟨CP.blind, fun U hU hW9 => ⟨rfl, by rw [hU], by rw [hU]; exact hPc, K.2.1.moved hW9.alike, hDc, by rw [hU]; exact ((K.2.2.2.kept hS.2.1).narrow hFc).warm hW9⟩⟩ rfl rfl hsz hs0.symm (lv_room hroom) d hcs) k
theorem s_callIN (K : gF p s m args c cc nL own D tys kc kt A) {host : String} (c1 : (own, index, y, host) ∈ NL) (hM : CT l D tys kc kt y bytes maxL none rm (.ref b :: As) wc wc' none) (hd : y.cls ≠ "java/lang/invoke/MethodHandle" ∧ y.cls ≠ "java/lang/invoke/VarHandle" ∧ (parseMethodDescriptor y.desc).map (fun d => d.parameters.length) = some As.length) (c2 : Cond.instanceMethod y ∈ TB) (c4 : Cond.initialized y.cls ∈ TB) (c5 : Cond.code y bytes maxL none ∈ TB) (hy1 : y.name = "<init>") (hR : rm.frames + 1 ≤ R.frames ∧ 8 + (maxL + 11) + rm.locals ≤ R.locals) (hrm : rm.cells = 0 ∧ rm.slots = 0) (hcs : cells ≤ R.cells ∧ slots ≤ R.slots) (isC isR isW : List Nat) (hC : isC.map (fun i => w[i]?) = wc.map some) (hRr : isR.all (fun i => decide (i < w.length)) = true) (hnd : va_nd isR = true) (hnC : va_nd isC = true) (hdis : ∀ i ∈ isR, i ∉ isC) (hW : isW.map (fun i => (isR.filterMap (fun i => w[i]?) ++ wc')[i]?) = w'.map some) (hnW : va_nd isW = true) (hs0 : As.reverse ++ .ref b :: st = st0) (hroom : (st.map fun v => v.category).sum ≤ 8) (d : decode cc pc = .ok (.invokespecial index, 3)) (k : Sw p l e R s m args below meth c cells slots D A nL Q F w' lv (pc + 3) st) : Sw p l e R s m args below meth c cells slots D A nL Q F w lv pc st0 :=
  s_run K isC isR isW hC hRr hnd hnC hdis hW hnW (out := none) (rest := st) rfl (a := (Value.ref b :: As).toArray) (fun H locs ls hP hD hS hsz hPc hDc hFc => va_runIN K.1 (hM H.size) ⟨va_cnB As.length K.1.2.2.2.2 (tb_cons c5) rfl hrm.1 hrm.2 (K.2.2.2.2.2.2.1 _ c1) (K.1.2.2.2.2 _ c4) hd hR, hy1, K.1.2.2.2.2 _ c2⟩ ⟨CP.blind, fun U hU hW9 => ⟨rfl, by rw [hU], by rw [hU]; exact hPc, K.2.1.moved hW9.alike, hDc, by rw [hU]; exact ((K.2.2.2.kept hS.2.1).narrow hFc).warm hW9⟩⟩ rfl rfl hsz hs0.symm (lv_room hroom) d hcs) k
theorem s_vretN (K : gF p s m args c cc nL own D tys kc kt A) (hr : meth.sig.returnType = none) (hlk : meth.locks = false) (a0 : ν) (hw : ww a0 = w) (d : decode cc pc = .ok (.return_, 1)) : Sw p l e R s m args below meth c cells slots D A nL (fun (_ : Unit) => MQ below (CQn D ww A) args s cells slots A) (some ()) w lv pc [] := by
  intro r hr0 H locs ls hP hD hS hl
  refine W.vret K.1.1 K.1.2.1 hr (fun t ht hW => ?_) hS.2.2 d hlk
  subst hw
  exact ⟨rfl, ⟨a0, by rw [ht]; exact hP, hD⟩, hS.F ht⟩
end SI
theorem CN.of {ν : Type} {l : Launch} {D : va_G} {tys : List (ClassId × FieldType)} {kc : Nat → Nat} {kt : Nat} {y : MethodName} {bytes : ByteArray} {maxL : Nat} {rm : Room} {mc ms : Nat} {av : List Value} {w : va_W} (ww : ν → va_W) (own : String) (ho : y.cls = own) (hy : plainName y.cls = true) (hi : y.name = "<init>") (hn : (lg_sl av).length ≤ maxL)
    (body : ∀ (p : Program) (e : Env) (s : State) (m : MethodId) (args : Array Value) (below : List Frame) (meth : Method) (c : Code) (A : Nat → Prop), gF p s m args c bytes maxL own D tys kc kt A → meth.sig.returnType = none → meth.locks = false → meth.name = "<init>" → Sw p l e rm s m args below meth c 0 0 D A maxL (fun (_ : Unit) => MQ below (CQn D ww A) args s mc ms A) (some ()) w (lv_args 0 av) 0 []) : CN l D tys kc kt y bytes maxL rm mc ms av w ww := by
  subst ho
  intro sz
  refine Met.ofW (cc := bytes) (maxL := maxL) (ret := none) hy rfl ?_
  intro p e s m args below meth c s₁ B hml hv
  obtain ⟨rfl, hsz, hP, hK, hD0, hE⟩ := hv
  have hts := atoms_spec (ws := Cond.code y bytes maxL none :: TB) B.pre
  have hown : s.vm.findClass y.cls = some m.cls := findClass_of_methodNamed B.named
  have hlocks := B.notSynchronized
  have hname : meth.name = "<init>" := (name_of_methodNamed B.named B.method).1.trans hi
  subst hsz
  have hD := hD0.self (sz := s.heap.size)
  have hl := lv_entry av (n := maxL) hn
  rw [lg_entry_eq]
  generalize (lg_sl av ++ List.replicate (maxL - (lg_sl av).length) Slot.unset).toArray = ls at hl ⊢
  exact body p e s m av.toArray below meth c (va_A w s.heap.size) ⟨⟨B.exec, B.bytes, hml, hown, fun z hz => hts z (List.mem_cons_of_mem _ hz)⟩, hK, fun q h => Or.inr h, hE⟩ B.returns hlocks hname () rfl s.heap [] ls hP hD va_S.rf hl
