/-! the searches: the tree of the ways, first by depth, then by number of rolls -/
abbrev CS := (Nat → Int32) × (Nat → Int32) × (Nat → Int32) × (Nat → Int32)
abbrev Nd := CS × Nat × Int32
def fs (r : Nat) (f : Int32) (s : Nat) : Int32 := if r = 0 then nI s else f
def sds (can : CS → Nat → Bool) (C : CS) (g : Nat → List Nd) : List Nat → List Nd
  | [] => []
  | s :: l => (if can C s = true then g s else []) ++ sds can C g l
def pre (can : CS → Nat → Bool) (stp : CS → Nat → CS) : Nat → CS → Nat → Int32 → List Nd
  | 0, C, r, f => [(C, r, f)]
  | m + 1, C, r, f => (C, r, f) :: sds can C (fun s => pre can stp m (stp C s) (r + 1) (fs r f s)) (R 0 4)
def lev (can : CS → Nat → Bool) (stp : CS → Nat → CS) : Nat → CS → Nat → Int32 → List Nd
  | 0, C, r, f => [(C, r, f)]
  | k + 1, C, r, f => sds can C (fun s => lev can stp k (stp C s) (r + 1) (fs r f s)) (R 0 4)
def LV (g : Nat → List Nd) : List Nat → List Nd
  | [] => []
  | k :: l => g k ++ LV g l
theorem LV_succ (g : Nat → List Nd) : ∀ (j i : Nat), LV g (R (i + 1) j) = LV (fun k => g (k + 1)) (R i j)
  | 0, _ => rfl
  | j + 1, i => by
    show g (i + 1) ++ LV g (R (i + 1 + 1) j) = g (i + 1) ++ LV (fun k => g (k + 1)) (R (i + 1) j)
    rw [LV_succ g j (i + 1)]
theorem sds_lvl {can : CS → Nat → Bool} {C : CS} {g : Nat → List Nd} {v : Nat} (hg : ∀ s : Nat, ∀ x ∈ g s, x.2.1 = v) : ∀ (l : List Nat), ∀ x ∈ sds can C g l, x.2.1 = v
  | [], x, h => (List.not_mem_nil h).elim
  | s :: l, x, h => by
    rcases List.mem_append.mp h with h | h
    · by_cases hc : can C s = true
      · rw [if_pos hc] at h; exact hg s x h
      · rw [if_neg hc] at h; exact (List.not_mem_nil h).elim
    · exact sds_lvl hg l x h
theorem lev_lvl (can : CS → Nat → Bool) (stp : CS → Nat → CS) : ∀ (k : Nat) (C : CS) (r : Nat) (f : Int32), ∀ x ∈ lev can stp k C r f, x.2.1 = r + k
  | 0, C, r, f, x, h => by
    rw [List.mem_singleton.mp h]; rfl
  | k + 1, C, r, f, x, h => by
    have := sds_lvl (v := r + 1 + k) (fun s x hx => lev_lvl can stp k (stp C s) (r + 1) (fs r f s) x hx) (R 0 4) x h
    omega
def Cm {α : Type} (mt : α → Nd → α) : Prop := ∀ (a : α) (x y : Nd), x.2.1 < 1000 → y.2.1 < 1000 → x.2.1 ≠ y.2.1 → mt (mt a x) y = mt (mt a y) x
theorem swap1 {α : Type} {mt : α → Nd → α} (hc : Cm mt) (y : Nd) (hy : y.2.1 < 1000) : ∀ (X : List Nd) (a : α), (∀ x ∈ X, x.2.1 < 1000 ∧ x.2.1 ≠ y.2.1) → List.foldl mt (mt a y) X = mt (List.foldl mt a X) y
  | [], _, _ => rfl
  | x :: X, a, h => by
    obtain ⟨h1, h2⟩ := h x (List.mem_cons_self ..)
    show List.foldl mt (mt (mt a y) x) X = mt (List.foldl mt (mt a x) X) y
    rw [← hc a x y h1 hy h2, swap1 hc y hy X (mt a x) fun z hz => h z (List.mem_cons_of_mem _ hz)]
theorem swapL {α : Type} {mt : α → Nd → α} (hc : Cm mt) (X : List Nd) (hX : ∀ x ∈ X, x.2.1 < 1000) : ∀ (Y : List Nd) (a : α), (∀ y ∈ Y, y.2.1 < 1000) → (∀ x ∈ X, ∀ y ∈ Y, x.2.1 ≠ y.2.1) → List.foldl mt (List.foldl mt a X) Y = List.foldl mt (List.foldl mt a Y) X
  | [], _, _, _ => rfl
  | y :: Y, a, hY, h => by
    show List.foldl mt (mt (List.foldl mt a X) y) Y = List.foldl mt (List.foldl mt (mt a y) Y) X
    rw [← swap1 hc y (hY y (List.mem_cons_self ..)) X a fun x hx => ⟨hX x hx, h x hx y (List.mem_cons_self ..)⟩, swapL hc X hX Y (mt a y) (fun z hz => hY z (List.mem_cons_of_mem _ hz)) fun x hx z hz => h x hx z (List.mem_cons_of_mem _ hz)]
theorem LV_lvl {g : Nat → List Nd} {v : Nat} (hg : ∀ k : Nat, ∀ x ∈ g k, x.2.1 = v + k) : ∀ (j i : Nat), ∀ x ∈ LV g (R i j), v + i ≤ x.2.1
  | 0, i, x, h => (List.not_mem_nil h).elim
  | j + 1, i, x, h => by
    rcases List.mem_append.mp h with h | h
    · have := hg i x h; omega
    · have := LV_lvl hg j (i + 1) x h; omega
theorem LV_up {g : Nat → List Nd} {v : Nat} (hg : ∀ k : Nat, ∀ x ∈ g k, x.2.1 = v + k) : ∀ (j i : Nat), ∀ x ∈ LV g (R i j), x.2.1 < v + i + j
  | 0, i, x, h => (List.not_mem_nil h).elim
  | j + 1, i, x, h => by
    rcases List.mem_append.mp h with h | h
    · have := hg i x h; omega
    · have := LV_up hg j (i + 1) x h; omega
theorem merge {α : Type} {mt : α → Nd → α} (hc : Cm mt) {g1 g2 : Nat → List Nd} {v : Nat} (h1 : ∀ k : Nat, ∀ x ∈ g1 k, x.2.1 = v + k) (h2 : ∀ k : Nat, ∀ x ∈ g2 k, x.2.1 = v + k) : ∀ (j i : Nat) (a : α), v + i + j ≤ 1000 → List.foldl mt (List.foldl mt a (LV g1 (R i j))) (LV g2 (R i j)) = List.foldl mt a (LV (fun k => g1 k ++ g2 k) (R i j))
  | 0, _, _, _ => rfl
  | j + 1, i, a, hv => by
    show List.foldl mt (List.foldl mt a (g1 i ++ LV g1 (R (i + 1) j))) (g2 i ++ LV g2 (R (i + 1) j)) = List.foldl mt a ((g1 i ++ g2 i) ++ LV (fun k => g1 k ++ g2 k) (R (i + 1) j))
    rw [List.foldl_append, List.foldl_append, List.foldl_append, List.foldl_append, swapL hc (LV g1 (R (i + 1) j)) (fun x hx => by have := LV_up h1 j (i + 1) x hx; omega) (g2 i) _ (fun y hy => by have := h2 i y hy; omega) fun x hx y hy => by
      have e1 := LV_lvl h1 j (i + 1) x hx
      have e2 := h2 i y hy
      omega]
    exact merge hc h1 h2 j (i + 1) _ (by omega)
theorem sds_merge {α : Type} {mt : α → Nd → α} (hc : Cm mt) {can : CS → Nat → Bool} {C : CS} {p : Nat → List Nd} {g : Nat → Nat → List Nd} {v : Nat} {m : Nat} (hv : v + m ≤ 1000) (hg : ∀ s k : Nat, ∀ x ∈ g s k, x.2.1 = v + k) (hp : ∀ (s : Nat) (a : α), List.foldl mt a (p s) = List.foldl mt a (LV (g s) (R 0 m))) : ∀ (l : List Nat) (a : α), List.foldl mt a (sds can C p l) = List.foldl mt a (LV (fun k => sds can C (fun s => g s k) l) (R 0 m))
  | [], a => by
    have e : ∀ (j i : Nat), LV (fun _ => ([] : List Nd)) (R i j) = [] := by
      intro j
      induction j with
      | zero => intro i; rfl
      | succ j ih => intro i; show [] ++ LV (fun _ => ([] : List Nd)) (R (i + 1) j) = []; rw [ih]; rfl
    exact congrArg (List.foldl mt a) (e m 0).symm
  | s :: l, a => by
    have ih := sds_merge hc (can := can) (C := C) hv hg hp l
    by_cases hs : can C s = true
    · have e : (fun k => sds can C (fun s => g s k) (s :: l)) = fun k => g s k ++ sds can C (fun s => g s k) l := funext fun k => by
        show (if can C s = true then g s k else []) ++ _ = _
        rw [if_pos hs]
      rw [e, ← merge hc (hg s) (g2 := fun k => sds can C (fun s => g s k) l) (fun k => sds_lvl (fun s x hx => hg s k x hx) l) m 0 a (by omega)]
      show List.foldl mt a ((if can C s = true then p s else []) ++ sds can C p l) = _
      rw [if_pos hs, List.foldl_append, ih, hp]
    · have e : (fun k => sds can C (fun s => g s k) (s :: l)) = fun k => sds can C (fun s => g s k) l := funext fun k => by
        show (if can C s = true then g s k else []) ++ _ = _
        rw [if_neg hs]; rfl
      rw [e, ← ih]
      show List.foldl mt a ((if can C s = true then p s else []) ++ sds can C p l) = _
      rw [if_neg hs]; rfl
theorem pre_lev {α : Type} {mt : α → Nd → α} (hc : Cm mt) (can : CS → Nat → Bool) (stp : CS → Nat → CS) : ∀ (m : Nat) (C : CS) (r : Nat) (f : Int32) (a : α), r + m + 1 ≤ 1000 → List.foldl mt a (pre can stp m C r f) = List.foldl mt a (LV (fun k => lev can stp k C r f) (R 0 (m + 1)))
  | 0, C, r, f, a, _ => rfl
  | m + 1, C, r, f, a, hv => by
    have e := sds_merge hc (can := can) (C := C) (p := fun s => pre can stp m (stp C s) (r + 1) (fs r f s)) (g := fun s k => lev can stp k (stp C s) (r + 1) (fs r f s)) (v := r + 1) (m := m + 1) (by omega) (fun s k x hx => lev_lvl can stp k _ _ _ x hx) (fun s a => pre_lev hc can stp m _ _ _ a (by omega)) (R 0 4) (mt a (C, r, f))
    show List.foldl mt (mt a (C, r, f)) (sds can C (fun s => pre can stp m (stp C s) (r + 1) (fs r f s)) (R 0 4)) = List.foldl mt a (lev can stp 0 C r f ++ LV (fun k => lev can stp k C r f) (R 1 (m + 1)))
    rw [e, LV_succ, List.foldl_append]; rfl
/-! the ways by their number -/
def run (can : CS → Nat → Bool) (stp : CS → Nat → CS) : Nat → CS → Nat → Option CS
  | 0, C, _ => some C
  | k + 1, C, c => if can C (c / 4 ^ k) = true then run can stp k (stp C (c / 4 ^ k)) (c % 4 ^ k) else none
def ff (r : Nat) (f : Int32) (k c : Nat) : Int32 := if k = 0 then f else if r = 0 then nI (c / 4 ^ (k - 1)) else f
def nd1 (o : Option CS) (r : Nat) (f : Int32) : List Nd := match o with
  | some C => [(C, r, f)]
  | none => []
def cdr (can : CS → Nat → Bool) (stp : CS → Nat → CS) (k : Nat) (C : CS) (r : Nat) (f : Int32) : List Nat → List Nd
  | [] => []
  | c :: l => nd1 (run can stp k C c) (r + k) (ff r f k c) ++ cdr can stp k C r f l
theorem cdr_block (can : CS → Nat → Bool) (stp : CS → Nat → CS) (k : Nat) (C : CS) (r : Nat) (f : Int32) (s : Nat) : ∀ (j i : Nat), i + j ≤ 4 ^ k → cdr can stp (k + 1) C r f (R (s * 4 ^ k + i) j) = if can C s = true then cdr can stp k (stp C s) (r + 1) (fs r f s) (R i j) else []
  | 0, i, _ => by by_cases h : can C s = true <;> simp only [h, if_true, if_false] <;> rfl
  | j + 1, i, h => by
    have ih := cdr_block can stp k C r f s j (i + 1) (by omega)
    have q0 : 0 < 4 ^ k := Nat.pow_pos (by decide)
    have e1 : (s * 4 ^ k + i) / 4 ^ k = s := by
      rw [Nat.mul_comm, Nat.mul_add_div q0, Nat.div_eq_of_lt (by omega), Nat.add_zero]
    have e2 : (s * 4 ^ k + i) % 4 ^ k = i := by
      rw [Nat.mul_comm, Nat.mul_add_mod, Nat.mod_eq_of_lt (by omega)]
    have e3 : ff r f (k + 1) (s * 4 ^ k + i) = ff (r + 1) (fs r f s) k i := by
      show (if k + 1 = 0 then f else if r = 0 then nI ((s * 4 ^ k + i) / 4 ^ (k + 1 - 1)) else f) = (if k = 0 then fs r f s else if r + 1 = 0 then _ else fs r f s)
      rw [if_neg (by omega), Nat.add_sub_cancel, e1, if_neg (show ¬ r + 1 = 0 by omega), ite_self]; rfl
    have e4 : run can stp (k + 1) C (s * 4 ^ k + i) = if can C s = true then run can stp k (stp C s) i else none := by
      show (if can C ((s * 4 ^ k + i) / 4 ^ k) = true then run can stp k (stp C ((s * 4 ^ k + i) / 4 ^ k)) ((s * 4 ^ k + i) % 4 ^ k) else none) = _
      rw [e1, e2]
    show nd1 (run can stp (k + 1) C (s * 4 ^ k + i)) (r + (k + 1)) (ff r f (k + 1) (s * 4 ^ k + i)) ++ cdr can stp (k + 1) C r f (R (s * 4 ^ k + i + 1) j) = if can C s = true then nd1 (run can stp k (stp C s) i) (r + 1 + k) (ff (r + 1) (fs r f s) k i) ++ cdr can stp k (stp C s) (r + 1) (fs r f s) (R (i + 1) j) else []
    rw [e3, e4, show s * 4 ^ k + i + 1 = s * 4 ^ k + (i + 1) by omega, ih, show r + (k + 1) = r + 1 + k by omega]
    by_cases h : can C s = true
    · rw [if_pos h, if_pos h, if_pos h]
    · rw [if_neg h, if_neg h, if_neg h]; rfl
theorem R_app : ∀ (j i m : Nat), R i (j + m) = R i j ++ R (i + j) m
  | 0, i, m => by rw [Nat.zero_add, Nat.add_zero]; rfl
  | j + 1, i, m => by
    rw [show j + 1 + m = (j + m) + 1 by omega, R_cons, R_cons, R_app j (i + 1) m, show i + 1 + j = i + (j + 1) by omega]; rfl
theorem cdr_app (can : CS → Nat → Bool) (stp : CS → Nat → CS) (k : Nat) (C : CS) (r : Nat) (f : Int32) : ∀ (X Y : List Nat), cdr can stp k C r f (X ++ Y) = cdr can stp k C r f X ++ cdr can stp k C r f Y
  | [], _ => rfl
  | x :: X, Y => by
    show nd1 _ _ _ ++ cdr can stp k C r f (X ++ Y) = (nd1 _ _ _ ++ cdr can stp k C r f X) ++ cdr can stp k C r f Y
    rw [cdr_app can stp k C r f X Y, List.append_assoc]
theorem cdr_lev (can : CS → Nat → Bool) (stp : CS → Nat → CS) : ∀ (k : Nat) (C : CS) (r : Nat) (f : Int32), cdr can stp k C r f (R 0 (4 ^ k)) = lev can stp k C r f
  | 0, C, r, f => rfl
  | k + 1, C, r, f => by
    have q4 : 4 ^ (k + 1) = 4 ^ k + (4 ^ k + (4 ^ k + (4 ^ k + 0))) := by rw [Nat.pow_succ]; omega
    have b : ∀ s : Nat, cdr can stp (k + 1) C r f (R (s * 4 ^ k) (4 ^ k)) = if can C s = true then lev can stp k (stp C s) (r + 1) (fs r f s) else [] := fun s => by
      have := cdr_block can stp k C r f s (4 ^ k) 0 (by omega)
      rw [Nat.add_zero, cdr_lev can stp k] at this
      exact this
    have b0 := b 0
    have b1 := b 1
    have b2 := b 2
    have b3 := b 3
    rw [q4, R_app, R_app, R_app, R_app, cdr_app, cdr_app, cdr_app, cdr_app]
    rw [Nat.zero_mul] at b0
    rw [Nat.one_mul] at b1
    rw [show 0 + 4 ^ k = 4 ^ k by omega, show 4 ^ k + 4 ^ k = 2 * 4 ^ k by omega, show 2 * 4 ^ k + 4 ^ k = 3 * 4 ^ k by omega, b0, b1, b2, b3]
    rfl
