/-- a contract's end: the answer, the world behind it, the frame -/
def CQ (D : va_G) (w' : va_W) (out : Option Value) (A : Nat → Prop) : Array Value → State → Outcome → State → Prop := fun _ st oc t => oc = .returned out ∧ (va_P D vwCl w' t.heap ∧ va_D A w') ∧ va_F A st t
def CP (D : va_G) (tys : List (ClassId × FieldType)) (kc : Nat → Nat) (kt : Nat) (w : va_W) (sz : Nat) (U : State) : Prop := U.heap.size = sz ∧ va_P D vwCl w U.heap ∧ va_K D vwCl tys U ∧ va_D (fun _ => True) w ∧ gE kc kt (va_A w sz) U U.heap
/-- a contract of a method that makes nothing: from the world w to the world w', with the answer out -/
def CT (l : Launch) (D : va_G) (tys : List (ClassId × FieldType)) (kc : Nat → Nat) (kt : Nat) (y : MethodName) (bytes : ByteArray) (maxL : Nat) (ret : Option FieldType) (rm : Room) (av : List Value) (w w' : va_W) (out : Option Value) : Prop :=
  ∀ sz : Nat, Met l y (Cond.code y bytes maxL ret :: TB) rm (va_Pc av (CP D tys kc kt w sz)) (CQ D w' out (va_A w sz)) 0 0 (va_A w sz)
theorem CP.blind {D : va_G} {tys : List (ClassId × FieldType)} {kc : Nat → Nat} {kt : Nat} {w : va_W} {sz : Nat} {av : List Value} : FrameBlind (va_Pc av (CP D tys kc kt w sz)) := fun a U g mk q => by
  obtain ⟨q0, q1, qP, qK, qD, qE⟩ := q
  exact ⟨q0, q1, qP, va_K.moved (u := U) (U := U.calling g mk a) (Vm.Alike.refl U.vm) qK, qD, qE.calling⟩
theorem sub_P {D : va_G} {ws ws' : va_W} {H : Heap} (h : va_P D vwCl ws H) (is : List Nat) (hs : is.map (fun i => ws[i]?) = ws'.map some) : va_P D vwCl ws' H := by
  intro k q hk
  have h1 : (is.map (fun i => ws[i]?))[k]? = some (some q) := by rw [hs, List.getElem?_map, hk]; rfl
  rw [List.getElem?_map] at h1
  cases hi : is[k]? with
  | none => rw [hi] at h1; cases h1
  | some i => rw [hi] at h1; exact h i q (Option.some.inj h1)
theorem rest_map (w : va_W) : ∀ (is : List Nat), is.all (fun i => decide (i < w.length)) = true → is.map (fun i => w[i]?) = (is.filterMap (fun i => w[i]?)).map some
  | [], _ => rfl
  | i :: is, h => by
    simp only [List.all_cons, Bool.and_eq_true, decide_eq_true_eq] at h
    have hi : w[i]? = some w[i] := List.getElem?_eq_getElem h.1
    rw [List.filterMap_cons_some hi, List.map_cons, List.map_cons, rest_map w is h.2, hi]
theorem good_V {own C : String} {index maxL : Nat} {y : MethodName} {bytes : ByteArray} {ret : Option FieldType} (c1 : Cond.methodLink own index y ∈ TB) (c2 : Cond.instanceMethod y ∈ TB) (c3 : Cond.selects C y y ∈ TB) (c4 : Cond.initialized C ∈ TB) (c5 : Cond.code y bytes maxL ret ∈ TB) : GoodIn TB (wsV own index C y (Cond.code y bytes maxL ret :: TB)) := by
  intro w hw
  rcases List.mem_append.mp hw with h | h
  · simp only [List.mem_cons, List.not_mem_nil, or_false] at h
    rcases h with rfl | rfl | rfl | rfl
    · exact tb_good _ c1
    · exact tb_good _ c2
    · exact tb_good _ c3
    · exact tb_good _ c4
  · exact tb_cons c5 w h
theorem good_S {own : String} {index maxL : Nat} {y : MethodName} {bytes : ByteArray} {ret : Option FieldType} (c1 : Cond.methodLink own index y ∈ TB) (c2 : Cond.static y ∈ TB) (c4 : Cond.initialized y.cls ∈ TB) (c5 : Cond.code y bytes maxL ret ∈ TB) : GoodIn TB (va_wsS own index y (Cond.code y bytes maxL ret :: TB)) := by
  intro w hw
  rcases List.mem_append.mp hw with h | h
  · simp only [List.mem_cons, List.not_mem_nil, or_false] at h
    rcases h with rfl | rfl | rfl
    · exact tb_good _ c1
    · exact tb_good _ c2
    · exact tb_good _ c4
  · exact tb_cons c5 w h
theorem good_U {own C owner : String} {index maxL : Nat} {x y : MethodName} {bytes : ByteArray} {ret : Option FieldType} (c1 : Cond.methodLink own index x ∈ TB) (c6 : Cond.sameMethod x.cls owner x.name x.desc ∈ TB) (c2 : Cond.instanceMethod y ∈ TB) (c3 : Cond.selects C x y ∈ TB) (c4 : Cond.initialized y.cls ∈ TB) (c5 : Cond.code y bytes maxL ret ∈ TB) : GoodIn TB (va_wsU own index C owner x y (Cond.code y bytes maxL ret :: TB)) := by
  intro w hw
  rcases List.mem_append.mp hw with h | h
  · simp only [List.mem_cons, List.not_mem_nil, or_false] at h
    rcases h with rfl | rfl | rfl | rfl | rfl
    · exact tb_good _ c1
    · exact tb_good _ c6
    · exact tb_good _ c3
    · exact tb_good _ c2
    · exact tb_good _ c4
  · exact tb_cons c5 w h
section SC
variable {p : Program} {l : Launch} {e : Env} {R : Room} {s : State} {m : MethodId} {args : Array Value} {below : List Frame} {meth : Method} {c : Code} {cells slots : Nat} {cc : ByteArray} {nL : Nat} {own : String} {D : va_G} {tys : List (ClassId × FieldType)} {kc : Nat → Nat} {kt : Nat} {A : Nat → Prop} {ρ : Type} {Q : ρ → State → Prop} {F Ft Ff : Option ρ} {w w' : va_W} {lv lv' : List (Nat × Value)} {pc : Nat} {st : List Value}
variable {y : MethodName} {bytes : ByteArray} {maxL index : Nat} {ret : Option FieldType} {rm : Room} {As rest st0 : List Value} {b : Nat} {wc wc' : va_W} {out : Option Value} {C : String}
/-- behind the run of a call -/
theorem s_run (K : gF p s m args c cc nL own D tys kc kt A) (isC isR isW : List Nat) (hC : isC.map (fun i => w[i]?) = wc.map some) (hR : isR.all (fun i => decide (i < w.length)) = true) (hnd : va_nd isR = true) (hnC : va_nd isC = true) (hdis : ∀ i ∈ isR, i ∉ isC) (hW : isW.map (fun i => (isR.filterMap (fun i => w[i]?) ++ wc')[i]?) = w'.map some) (hnW : va_nd isW = true) {a : Array Value} {st1 : List Value} (hst : out.toList ++ rest = st1)
    (hrun : ∀ (H : Heap) (locs : List Loc) (ls : Array Slot), va_P D vwCl w H → va_D A w → va_S A s.heap H locs → ls.size = nL → va_P D vwCl wc H → va_D (fun _ => True) wc → (∀ q, va_A wc H.size q → A q) → va_Run p l e R s m args below meth c H locs cells slots 0 0 (F0 m pc ls st0) rest (CQ D wc' out (va_A wc H.size) a) (va_A wc H.size))
    (k : Sw p l e R s m args below meth c cells slots D A nL Q F w' lv (pc + 3) st1) : Sw p l e R s m args below meth c cells slots D A nL Q F w lv pc st0 := by
  intro r hr H locs ls hP hD hS hl
  have hFc := va_free (wc := wc) hD hS K.2.2.1 isC hC
  have hPc := sub_P hP isC hC
  intro T hT X
  have hDc : va_D (fun _ => True) wc := by
    refine ⟨fun i j x y hi hj hxy => ?_, fun _ _ _ => trivial⟩
    have at' : ∀ (k : Nat) (q : Nat × va_E), wc[k]? = some q → ∃ i, isC[k]? = some i ∧ w[i]? = some q := by
      intro k q hq
      have h1 : (isC.map (fun i => w[i]?))[k]? = some (some q) := by rw [hC, List.getElem?_map, hq]; rfl
      rw [List.getElem?_map] at h1
      cases hi : isC[k]? with
      | none => rw [hi] at h1; cases h1
      | some i => rw [hi] at h1; exact ⟨i, rfl, Option.some.inj h1⟩
    obtain ⟨i2, a1, a2⟩ := at' i x hi
    obtain ⟨j2, b1, b2⟩ := at' j y hj
    have hij := hD.1 i2 j2 x y a2 b2 hxy
    subst hij
    exact va_nd_inj isC hnC i j i2 a1 b1
  obtain ⟨v, st₀, t, T', L, h0, X', hL, e1, e2, ⟨hv, ⟨hP1, hD1⟩, hz, hk⟩, hgo⟩ := hrun H locs ls hP hD hS hl.1 hPc hDc hFc T hT X
  cases hv
  rw [h0] at hz hk
  have hk1 : ∀ q : Nat, q < H.size → ¬ va_A wc H.size q → T'.heap[q]? = H[q]? := fun q h1 h2 => by rw [e1]; exact hk q h1 h2
  obtain ⟨hP2, hD2⟩ := va_join (wr := isR.filterMap (fun i => w[i]?)) (w1 := wc') hP hD isC isR hC (rest_map w isR hR) hnd hdis hk1 hFc (by rw [e1]; exact hP1) hD1
  have hS1 : va_S A s.heap T'.heap (locs ++ L) := ⟨Nat.le_trans hS.1 (by rw [e1]; exact hz), fun q h1 h2 => by rw [e1, hk q (Nat.lt_of_lt_of_le h1 hS.1) (fun z => h2 (hFc q z))]; exact hS.2.1 q h1 h2, fun q hq => by
      rcases List.mem_append.mp hq with h | h
      · exact hS.2.2 q h
      · exact hFc _ (hL q h)⟩
  obtain ⟨t2, a1, b1⟩ := k r hr T'.heap (locs ++ L) ls (sub_P hP2 isW hW) (hD2.sub isW hnW hW) hS1 hl T' rfl X'
  subst hst
  exact ⟨t2, hgo t2 a1, b1⟩
/-- behind the run of a call that has no world -/
theorem s_run0 (K : gF p s m args c cc nL own D tys kc kt A) {a : Array Value} {st1 : List Value} (hst : out.toList ++ rest = st1)
    (hrun : ∀ (H : Heap) (locs : List Loc) (ls : Array Slot), va_P D vwCl w H → va_S A s.heap H locs → ls.size = nL → va_Run p l e R s m args below meth c H locs cells slots 0 0 (F0 m pc ls st0) rest (CQ D [] out (va_A [] H.size) a) (va_A [] H.size))
    (k : Sw p l e R s m args below meth c cells slots D A nL Q F w lv (pc + 3) st1) : Sw p l e R s m args below meth c cells slots D A nL Q F w lv pc st0 := by
  intro r hr H locs ls hP hD hS hl
  intro T hT X
  have hFc : ∀ q, va_A [] H.size q → A q := fun q h => by
    rcases h with ⟨k, e, h⟩ | h
    · simp at h
    · exact K.2.2.1 q (Nat.le_trans hS.1 h)
  obtain ⟨v, st₀, t, T', L, h0, X', hL, e1, e2, ⟨hv, -, hz, hk⟩, hgo⟩ := hrun H locs ls hP hS hl.1 T hT X
  cases hv
  rw [h0] at hz hk
  have hk1 : ∀ q : Nat, q < H.size → T'.heap[q]? = H[q]? := fun q h1 => by
    rw [e1]
    refine hk q h1 (fun z => ?_)
    rcases z with ⟨k, e, h⟩ | h
    · simp at h
    · omega
  have hS1 : va_S A s.heap T'.heap (locs ++ L) := ⟨Nat.le_trans hS.1 (by rw [e1]; exact hz), fun q h1 h2 => by rw [hk1 q (Nat.lt_of_lt_of_le h1 hS.1)]; exact hS.2.1 q h1 h2, fun q hq => by
      rcases List.mem_append.mp hq with h | h
      · exact hS.2.2 q h
      · exact hFc _ (hL q h)⟩
  obtain ⟨t2, a1, b1⟩ := k r hr T'.heap (locs ++ L) ls (hP.kept (fun k x hx => hk1 x.1 ((hP k x hx).lt))) hD hS1 hl T' rfl X'
  subst hst
  exact ⟨t2, hgo t2 a1, b1⟩
theorem hFc0 (K : gF p s m args c cc nL own D tys kc kt A) {H : Heap} {locs : List Loc} (hS : va_S A s.heap H locs) : ∀ q, va_A [] H.size q → A q := fun q h => by
  rcases h with ⟨k, e, h⟩ | h
  · simp at h
  · exact K.2.2.1 q (Nat.le_trans hS.1 h)
theorem s_callV (K : gF p s m args c cc nL own D tys kc kt A) (hM : CT l D tys kc kt y bytes maxL ret rm (.ref b :: As) wc wc' out) (hcl : y.cls = C) (hd : y.cls ≠ "java/lang/invoke/MethodHandle" ∧ y.cls ≠ "java/lang/invoke/VarHandle" ∧ (parseMethodDescriptor y.desc).map (fun d => d.parameters.length) = some As.length) (c1 : Cond.methodLink own index y ∈ TB) (c2 : Cond.instanceMethod y ∈ TB) (c3 : Cond.selects C y y ∈ TB) (c4 : Cond.initialized C ∈ TB) (c5 : Cond.code y bytes maxL ret ∈ TB) (hR : rm.frames + 1 ≤ R.frames ∧ 8 + (maxL + 11) + rm.locals ≤ R.locals) (hrm : rm.cells = 0 ∧ rm.slots = 0) (hcs : cells ≤ R.cells ∧ slots ≤ R.slots) (hrecv : ∀ (H : Heap) (locs : List Loc), va_P D vwCl w H → va_S A s.heap H locs → ∃ cell : Cell, H[b]? = some cell ∧ cell.vm.isStatics = false ∧ s.vm.findClass C = some cell.cls) (isC isR isW : List Nat) (hC : isC.map (fun i => w[i]?) = wc.map some) (hRr : isR.all (fun i => decide (i < w.length)) = true) (hnd : va_nd isR = true) (hnC : va_nd isC = true) (hdis : ∀ i ∈ isR, i ∉ isC) (hW : isW.map (fun i => (isR.filterMap (fun i => w[i]?) ++ wc')[i]?) = w'.map some) (hnW : va_nd isW = true) (hs0 : As.reverse ++ .ref b :: rest = st0) {st1 : List Value} (hst : out.toList ++ rest = st1) (hroom : (rest.map fun v => v.category).sum ≤ 8) (d : decode cc pc = .ok (.invokevirtual index, 3)) (k : Sw p l e R s m args below meth c cells slots D A nL Q F w' lv (pc + 3) st1) : Sw p l e R s m args below meth c cells slots D A nL Q F w lv pc st0 :=
  s_run K isC isR isW hC hRr hnd hnC hdis hW hnW hst (a := (Value.ref b :: As).toArray) (fun H locs ls hP hD hS hsz hPc hDc hFc => va_runV K.1 (hM H.size) (cwV As.length K.1.2.2.2.2 (good_V c1 c2 c3 c4 c5) rfl hrm.1 hrm.2 ⟨hcl, hd⟩ hR) ⟨CP.blind, hrecv H locs hP hS, fun U hU hW9 => ⟨rfl, by rw [hU], by rw [hU]; exact hPc, K.2.1.moved hW9.alike, hDc, by rw [hU]; exact ((K.2.2.2.kept hS.2.1).narrow hFc).warm hW9⟩⟩ rfl rfl hsz hs0.symm (lv_room hroom) d hcs) k
theorem s_callV0 (K : gF p s m args c cc nL own D tys kc kt A) (hM : CT l D tys kc kt y bytes maxL ret rm (.ref b :: As) [] [] out) (hcl : y.cls = C) (hd : y.cls ≠ "java/lang/invoke/MethodHandle" ∧ y.cls ≠ "java/lang/invoke/VarHandle" ∧ (parseMethodDescriptor y.desc).map (fun d => d.parameters.length) = some As.length) (c1 : Cond.methodLink own index y ∈ TB) (c2 : Cond.instanceMethod y ∈ TB) (c3 : Cond.selects C y y ∈ TB) (c4 : Cond.initialized C ∈ TB) (c5 : Cond.code y bytes maxL ret ∈ TB) (hR : rm.frames + 1 ≤ R.frames ∧ 8 + (maxL + 11) + rm.locals ≤ R.locals) (hrm : rm.cells = 0 ∧ rm.slots = 0) (hcs : cells ≤ R.cells ∧ slots ≤ R.slots) (hrecv : ∀ (H : Heap) (locs : List Loc), va_P D vwCl w H → va_S A s.heap H locs → ∃ cell : Cell, H[b]? = some cell ∧ cell.vm.isStatics = false ∧ s.vm.findClass C = some cell.cls) (hs0 : As.reverse ++ .ref b :: rest = st0) {st1 : List Value} (hst : out.toList ++ rest = st1) (hroom : (rest.map fun v => v.category).sum ≤ 8) (d : decode cc pc = .ok (.invokevirtual index, 3)) (k : Sw p l e R s m args below meth c cells slots D A nL Q F w lv (pc + 3) st1) : Sw p l e R s m args below meth c cells slots D A nL Q F w lv pc st0 :=
  s_run0 K hst (a := (Value.ref b :: As).toArray) (fun H locs ls hP hS hsz => va_runV K.1 (hM H.size) (cwV As.length K.1.2.2.2.2 (good_V c1 c2 c3 c4 c5) rfl hrm.1 hrm.2 ⟨hcl, hd⟩ hR) ⟨CP.blind, hrecv H locs hP hS, fun U hU hW9 => ⟨rfl, by rw [hU], fun k q h => by simp at h, K.2.1.moved hW9.alike, ⟨fun i j x y h => by simp at h, fun _ _ _ => trivial⟩, by rw [hU]; exact ((K.2.2.2.kept hS.2.1).narrow (hFc0 K hS)).warm hW9⟩⟩ rfl rfl hsz hs0.symm (lv_room hroom) d hcs) k
theorem s_callS (K : gF p s m args c cc nL own D tys kc kt A) (hM : CT l D tys kc kt y bytes maxL ret rm As wc wc' out) (hd : y.cls ≠ "java/lang/invoke/MethodHandle" ∧ y.cls ≠ "java/lang/invoke/VarHandle" ∧ (parseMethodDescriptor y.desc).map (fun d => d.parameters.length) = some As.length) (c1 : Cond.methodLink own index y ∈ TB) (c2 : Cond.static y ∈ TB) (c4 : Cond.initialized y.cls ∈ TB) (c5 : Cond.code y bytes maxL ret ∈ TB) (hR : rm.frames + 1 ≤ R.frames ∧ 8 + (maxL + 11) + rm.locals ≤ R.locals) (hrm : rm.cells = 0 ∧ rm.slots = 0) (hcs : cells ≤ R.cells ∧ slots ≤ R.slots) (isC isR isW : List Nat) (hC : isC.map (fun i => w[i]?) = wc.map some) (hRr : isR.all (fun i => decide (i < w.length)) = true) (hnd : va_nd isR = true) (hnC : va_nd isC = true) (hdis : ∀ i ∈ isR, i ∉ isC) (hW : isW.map (fun i => (isR.filterMap (fun i => w[i]?) ++ wc')[i]?) = w'.map some) (hnW : va_nd isW = true) (hs0 : As.reverse ++ rest = st0) {st1 : List Value} (hst : out.toList ++ rest = st1) (hroom : (rest.map fun v => v.category).sum ≤ 8) (d : decode cc pc = .ok (.invokestatic index, 3)) (k : Sw p l e R s m args below meth c cells slots D A nL Q F w' lv (pc + 3) st1) : Sw p l e R s m args below meth c cells slots D A nL Q F w lv pc st0 :=
  s_run K isC isR isW hC hRr hnd hnC hdis hW hnW hst (a := As.toArray) (fun H locs ls hP hD hS hsz hPc hDc hFc => va_runS K.1 (hM H.size) (va_cwS As.length K.1.2.2.2.2 (good_S c1 c2 c4 c5) rfl hrm.1 hrm.2 hd hR) ⟨CP.blind, fun U hU hW9 => ⟨rfl, by rw [hU], by rw [hU]; exact hPc, K.2.1.moved hW9.alike, hDc, by rw [hU]; exact ((K.2.2.2.kept hS.2.1).narrow hFc).warm hW9⟩⟩ rfl rfl hsz hs0.symm (lv_room hroom) d hcs) k
theorem s_callS0 (K : gF p s m args c cc nL own D tys kc kt A) (hM : CT l D tys kc kt y bytes maxL ret rm As [] [] out) (hd : y.cls ≠ "java/lang/invoke/MethodHandle" ∧ y.cls ≠ "java/lang/invoke/VarHandle" ∧ (parseMethodDescriptor y.desc).map (fun d => d.parameters.length) = some As.length) (c1 : Cond.methodLink own index y ∈ TB) (c2 : Cond.static y ∈ TB) (c4 : Cond.initialized y.cls ∈ TB) (c5 : Cond.code y bytes maxL ret ∈ TB) (hR : rm.frames + 1 ≤ R.frames ∧ 8 + (maxL + 11) + rm.locals ≤ R.locals) (hrm : rm.cells = 0 ∧ rm.slots = 0) (hcs : cells ≤ R.cells ∧ slots ≤ R.slots) (hs0 : As.reverse ++ rest = st0) {st1 : List Value} (hst : out.toList ++ rest = st1) (hroom : (rest.map fun v => v.category).sum ≤ 8) (d : decode cc pc = .ok (.invokestatic index, 3)) (k : Sw p l e R s m args below meth c cells slots D A nL Q F w lv (pc + 3) st1) : Sw p l e R s m args below meth c cells slots D A nL Q F w lv pc st0 :=
  s_run0 K hst (a := As.toArray) (fun H locs ls hP hS hsz => va_runS K.1 (hM H.size) (va_cwS As.length K.1.2.2.2.2 (good_S c1 c2 c4 c5) rfl hrm.1 hrm.2 hd hR) ⟨CP.blind, fun U hU hW9 => ⟨rfl, by rw [hU], fun k q h => by simp at h, K.2.1.moved hW9.alike, ⟨fun i j x y h => by simp at h, fun _ _ _ => trivial⟩, by rw [hU]; exact ((K.2.2.2.kept hS.2.1).narrow (hFc0 K hS)).warm hW9⟩⟩ rfl rfl hsz hs0.symm (lv_room hroom) d hcs) k
theorem s_callSN0 (K : gF p s m args c cc nL own D tys kc kt A) {host : String} (hM : CT l D tys kc kt y bytes maxL ret rm As [] [] out) (hd : y.cls ≠ "java/lang/invoke/MethodHandle" ∧ y.cls ≠ "java/lang/invoke/VarHandle" ∧ (parseMethodDescriptor y.desc).map (fun d => d.parameters.length) = some As.length) (c1 : (own, index, y, host) ∈ NL) (c2 : Cond.static y ∈ TB) (c4 : Cond.initialized y.cls ∈ TB) (c5 : Cond.code y bytes maxL ret ∈ TB) (hR : rm.frames + 1 ≤ R.frames ∧ 8 + (maxL + 11) + rm.locals ≤ R.locals) (hrm : rm.cells = 0 ∧ rm.slots = 0) (hcs : cells ≤ R.cells ∧ slots ≤ R.slots) (hs0 : As.reverse ++ rest = st0) {st1 : List Value} (hst : out.toList ++ rest = st1) (hroom : (rest.map fun v => v.category).sum ≤ 8) (d : decode cc pc = .ok (.invokestatic index, 3)) (k : Sw p l e R s m args below meth c cells slots D A nL Q F w lv (pc + 3) st1) : Sw p l e R s m args below meth c cells slots D A nL Q F w lv pc st0 :=
  s_run0 K hst (a := As.toArray) (fun H locs ls hP hS hsz => va_runSN K.1 (hM H.size) ⟨va_cnB As.length K.1.2.2.2.2 (tb_cons c5) rfl hrm.1 hrm.2 (K.2.2.2.2.2.2.1 _ c1) (K.1.2.2.2.2 _ c4) hd hR, K.1.2.2.2.2 _ c2, trivial⟩ ⟨CP.blind, fun U hU hW9 => ⟨rfl, by rw [hU], fun k q h => by simp at h, K.2.1.moved hW9.alike, ⟨fun i j x y h => by simp at h, fun _ _ _ => trivial⟩, by rw [hU]; exact ((K.2.2.2.kept hS.2.1).narrow (hFc0 K hS)).warm hW9⟩⟩ rfl rfl hsz hs0.symm (lv_room hroom) d hcs) k
theorem s_callU (K : gF p s m args c cc nL own D tys kc kt A) {x : MethodName} {owner : String} (hM : CT l D tys kc kt y bytes maxL ret rm (.ref b :: As) wc wc' out) (hz : va_Nw (.declares ⟨owner, x.name, x.desc⟩) s) (hd : owner ≠ "java/lang/invoke/MethodHandle" ∧ owner ≠ "java/lang/invoke/VarHandle" ∧ (parseMethodDescriptor x.desc).map (fun d => d.parameters.length) = some As.length) (c1 : Cond.methodLink own index x ∈ TB) (c6 : Cond.sameMethod x.cls owner x.name x.desc ∈ TB) (c2 : Cond.instanceMethod y ∈ TB) (c3 : Cond.selects C x y ∈ TB) (c4 : Cond.initialized y.cls ∈ TB) (c5 : Cond.code y bytes maxL ret ∈ TB) (hR : rm.frames + 1 ≤ R.frames ∧ 8 + (maxL + 11) + rm.locals ≤ R.locals) (hrm : rm.cells = 0 ∧ rm.slots = 0) (hcs : cells ≤ R.cells ∧ slots ≤ R.slots) (hrecv : ∀ (H : Heap) (locs : List Loc), va_P D vwCl w H → va_S A s.heap H locs → ∃ cell : Cell, H[b]? = some cell ∧ cell.vm.isStatics = false ∧ s.vm.findClass C = some cell.cls) (isC isR isW : List Nat) (hC : isC.map (fun i => w[i]?) = wc.map some) (hRr : isR.all (fun i => decide (i < w.length)) = true) (hnd : va_nd isR = true) (hnC : va_nd isC = true) (hdis : ∀ i ∈ isR, i ∉ isC) (hW : isW.map (fun i => (isR.filterMap (fun i => w[i]?) ++ wc')[i]?) = w'.map some) (hnW : va_nd isW = true) (hs0 : As.reverse ++ .ref b :: rest = st0) {st1 : List Value} (hst : out.toList ++ rest = st1) (hroom : (rest.map fun v => v.category).sum ≤ 8) (d : decode cc pc = .ok (.invokevirtual index, 3)) (k : Sw p l e R s m args below meth c cells slots D A nL Q F w' lv (pc + 3) st1) : Sw p l e R s m args below meth c cells slots D A nL Q F w lv pc st0 :=
  s_run K isC isR isW hC hRr hnd hnC hdis hW hnW hst (a := (Value.ref b :: As).toArray) (fun H locs ls hP hD hS hsz hPc hDc hFc => va_runU K.1 (hM H.size) (va_cwA As.length K.1.2.2.2.2 (good_U c1 c6 c2 c3 c4 c5) rfl hrm.1 hrm.2 hz hd hR) ⟨CP.blind, hrecv H locs hP hS, fun U hU hW9 => ⟨rfl, by rw [hU], by rw [hU]; exact hPc, K.2.1.moved hW9.alike, hDc, by rw [hU]; exact ((K.2.2.2.kept hS.2.1).narrow hFc).warm hW9⟩⟩ rfl rfl hsz hs0.symm (lv_room hroom) d hcs) k
theorem rv_o (K : gF p s m args c cc nL own D tys kc kt A) {ci : Nat} {T : u_T} {N : Nat} {fs : List Value} (q0 : Nat) (he : w[q0]? = some (b, .inr (ci, fs))) (hc : vwCl[ci]? = some (C, T, N)) : ∀ (H : Heap) (locs : List Loc), va_P D vwCl w H → va_S A s.heap H locs → ∃ cell : Cell, H[b]? = some cell ∧ cell.vm.isStatics = false ∧ s.vm.findClass C = some cell.cls :=
  fun H locs hP hS => va_recv K.2.1 hP (q0 := q0) hc he
theorem rv_k (K : gF p s m args c cc nL own D tys kc kt A) {i : Nat} (hi : i < 5) : ∀ (H : Heap) (locs : List Loc), va_P D vwCl w H → va_S A s.heap H locs → ∃ cell : Cell, H[kc i]? = some cell ∧ cell.vm.isStatics = false ∧ s.vm.findClass "SnowBalls$Kind" = some cell.cls :=
  fun H locs hP hS => va_recvE K.2.2.2.1 hi hS
theorem s_iret (K : gF p s m args c cc nL own D tys kc kt A) (hr : meth.sig.returnType = some .int) (hlk : meth.locks = false) {r0 : ρ} {ww : ρ → va_W} {oo : ρ → Option Value} {v : Int32}  (ho : oo r0 = some (.int v)) (hw : ww r0 = w) (d : decode cc pc = .ok (.ireturn, 1)) : Sw p l e R s m args below meth c cells slots D A nL (fun (r : ρ) => MQ below (CQ D (ww r) (oo r) A) args s cells slots A) (some r0) w lv pc [.int v] := by
  intro r hr0 H locs ls hP hD hS hl
  cases hr0
  refine W.iret K.1.1 K.1.2.1 hr  (fun t ht hW => ?_) hS.2.2 d hlk
  rw [ho, hw]
  exact ⟨rfl, ⟨by rw [ht]; exact hP, hD⟩, hS.F ht⟩
theorem s_lret (K : gF p s m args c cc nL own D tys kc kt A) (hr : meth.sig.returnType = some .long) (hlk : meth.locks = false) {r0 : ρ} {ww : ρ → va_W} {oo : ρ → Option Value} {v : Int64}  (ho : oo r0 = some (.long v)) (hw : ww r0 = w) (d : decode cc pc = .ok (.lreturn, 1)) : Sw p l e R s m args below meth c cells slots D A nL (fun (r : ρ) => MQ below (CQ D (ww r) (oo r) A) args s cells slots A) (some r0) w lv pc [.long v] := by
  intro r hr0 H locs ls hP hD hS hl
  cases hr0
  refine W.lret K.1.1 K.1.2.1 hr  (fun t ht hW => ?_) hS.2.2 d hlk
  rw [ho, hw]
  exact ⟨rfl, ⟨by rw [ht]; exact hP, hD⟩, hS.F ht⟩
theorem s_vret (K : gF p s m args c cc nL own D tys kc kt A) (hr : meth.sig.returnType = none) (hlk : meth.locks = false) {r0 : ρ} {ww : ρ → va_W} {oo : ρ → Option Value}   (ho : oo r0 = none) (hw : ww r0 = w) (d : decode cc pc = .ok (.return_, 1)) : Sw p l e R s m args below meth c cells slots D A nL (fun (r : ρ) => MQ below (CQ D (ww r) (oo r) A) args s cells slots A) (some r0) w lv pc [] := by
  intro r hr0 H locs ls hP hD hS hl
  cases hr0
  refine W.vret K.1.1 K.1.2.1 hr  (fun t ht hW => ?_) hS.2.2 d hlk
  rw [ho, hw]
  exact ⟨rfl, ⟨by rw [ht]; exact hP, hD⟩, hS.F ht⟩
theorem s_zret (K : gF p s m args c cc nL own D tys kc kt A) (hr : meth.sig.returnType = some .boolean) (hlk : meth.locks = false) {r0 : ρ} {ww : ρ → va_W} {oo : ρ → Option Value} {v : Int32} (hn : narrow .boolean (.int v) = .int v) (ho : oo r0 = some (.int v)) (hw : ww r0 = w) (d : decode cc pc = .ok (.ireturn, 1)) : Sw p l e R s m args below meth c cells slots D A nL (fun (r : ρ) => MQ below (CQ D (ww r) (oo r) A) args s cells slots A) (some r0) w lv pc [.int v] := by
  intro r hr0 H locs ls hP hD hS hl
  cases hr0
  refine W.zret (ty := .boolean) K.1.1 K.1.2.1 hr hn (fun t ht hW => ?_) hS.2.2 d hlk
  rw [ho, hw]
  exact ⟨rfl, ⟨by rw [ht]; exact hP, hD⟩, hS.F ht⟩
end SC
/-- a contract out of the walk of the body -/
theorem CT.of {l : Launch} {D : va_G} {tys : List (ClassId × FieldType)} {kc : Nat → Nat} {kt : Nat} {y : MethodName} {bytes : ByteArray} {maxL : Nat} {ret : Option FieldType} {rm : Room} {av : List Value} {w : va_W} {ρ : Type} {F : Option ρ} {r : ρ} (ww : ρ → va_W) (oo : ρ → Option Value) (hF : F = some r) (own : String) (ho : y.cls = own) (hy : plainName y.cls = true) (hn : (lg_sl av).length ≤ maxL)
    (body : ∀ (p : Program) (e : Env) (s : State) (m : MethodId) (args : Array Value) (below : List Frame) (meth : Method) (c : Code) (A : Nat → Prop), gF p s m args c bytes maxL own D tys kc kt A → meth.sig.returnType = ret → meth.locks = false → Sw p l e rm s m args below meth c 0 0 D A maxL (fun r => MQ below (CQ D (ww r) (oo r) A) args s 0 0 A) F w (lv_args 0 av) 0 []) : CT l D tys kc kt y bytes maxL ret rm av w (ww r) (oo r) := by
  subst ho
  intro sz
  refine Met.ofW (cc := bytes) (maxL := maxL) (ret := ret) hy rfl ?_
  intro p e s m args below meth c s₁ B hml hv
  obtain ⟨rfl, hsz, hP, hK, hD0, hE⟩ := hv
  have hts := atoms_spec (ws := Cond.code y bytes maxL ret :: TB) B.pre
  have hown : s.vm.findClass y.cls = some m.cls := findClass_of_methodNamed B.named
  have hlocks := B.notSynchronized
  subst hsz
  have hD := hD0.self (sz := s.heap.size)
  have hl := lv_entry av (n := maxL) hn
  rw [lg_entry_eq]
  generalize (lg_sl av ++ List.replicate (maxL - (lg_sl av).length) Slot.unset).toArray = ls at hl ⊢
  exact body p e s m av.toArray below meth c (va_A w s.heap.size) ⟨⟨B.exec, B.bytes, hml, hown, fun z hz => hts z (List.mem_cons_of_mem _ hz)⟩, hK, fun q h => Or.inr h, hE⟩ B.returns hlocks r hF s.heap [] ls hP hD va_S.rf hl
