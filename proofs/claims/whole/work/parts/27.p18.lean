/-! the program's search -/
def canT (n : Nat) (stg : Int32) (knd : Nat → Nat) (onn : Nat → Int32) (b : Nat) (C : CS) (s : Nat) : Bool := decide (f_X4_canRoll (nI n) stg knd C.2.1 C.2.2.1 onn C.2.2.2 (nI b) (nI s) = some 1)
def stpT (wet : Int32) (knd : Nat → Nat) (b : Nat) (C : CS) (s : Nat) : CS := (pDep wet C.1 knd C.2.1 C.2.2.1 b s, pSiz wet C.1 knd C.2.1 C.2.2.1 b s, pPlc wet C.1 knd C.2.1 C.2.2.1 b s, pAxs knd C.2.2.2 b s)
def GD (B n b : Nat) (knd : Nat → Nat) (onn : Nat → Int32) (C : CS) : Prop := OKS B n b knd C.2.1 C.2.2.1 onn C.2.2.2 ∧ ∀ p : Nat, p < 20 → ∃ d : Nat, d ≤ 9 ∧ C.1 p = nI d
theorem GD.can {B n b : Nat} {stg : Int32} {knd : Nat → Nat} {onn : Nat → Int32} {C : CS} (h : GD B n b knd onn C) {s : Nat} (hs : s < 4) : (CanR n stg knd C.2.1 C.2.2.1 onn C.2.2.2 b s ∧ f_X4_canRoll (nI n) stg knd C.2.1 C.2.2.1 onn C.2.2.2 (nI b) (nI s) = some 1 ∧ canT n stg knd onn b C s = true) ∨ (¬ CanR n stg knd C.2.1 C.2.2.1 onn C.2.2.2 b s ∧ f_X4_canRoll (nI n) stg knd C.2.1 C.2.2.1 onn C.2.2.2 (nI b) (nI s) = some 0 ∧ ¬ canT n stg knd onn b C s = true) := by
  obtain ⟨⟨h1, h2, h3, h4, h5⟩, -⟩ := h
  have hX := v_canRoll h1 stg knd C.2.1 C.2.2.1 onn C.2.2.2 (b := b) h2 hs (h4 b (Or.inr rfl)) (by omega)
  by_cases hc : CanR n stg knd C.2.1 C.2.2.1 onn C.2.2.2 b s
  · exact Or.inl ⟨hc, hX.1 hc, decide_eq_true (hX.1 hc)⟩
  · refine Or.inr ⟨hc, hX.2 hc, fun q => ?_⟩
    have := of_decide_eq_true q
    rw [hX.2 hc] at this
    exact absurd (Option.some.inj this) (by decide)
theorem GD.stp {B n b : Nat} {stg wet : Int32} {knd : Nat → Nat} {onn : Nat → Int32} {C : CS} (h : GD B n b knd onn C) {w : Nat} (hw : w ≤ 9 ∧ wet = nI w) (hB : B < 2 ^ 18) {s : Nat} (hs : s < 4) (hc : CanR n stg knd C.2.1 C.2.2.1 onn C.2.2.2 b s) : GD (B + 9) n b knd onn (stpT wet knd b C s) := by
  have hd : DOK C.1 C.1 := fun p hp => by obtain ⟨d, d1, d2⟩ := h.2 p hp; exact ⟨d, d1, d2, d2⟩
  have hg : AG (fun i => i < n ∨ i = b) knd C.2.1 C.2.2.1 onn C.2.2.2 (fun i => nI (knd i)) C.2.1 C.2.2.1 onn C.2.2.2 := fun i hi => ⟨rfl, rfl, rfl, rfl, rfl⟩
  have hV := roll_inv (wet := wet) h.1 hg hd hw hB (Or.inr rfl) hs hc
  exact ⟨hV.1, hV.2.2.d9⟩
theorem re_dep {wet : Int32} {dep : Nat → Int32} {knd : Nat → Nat} {siz plc : Nat → Int32} {b s t : Nat} (h : pT plc b s = t) : upd (pDep wet dep knd siz plc b s) t (dep t) = dep := by
  rw [pDep, h, upd_upd, upd_id _ _ _ rfl]
theorem re_siz {wet : Int32} {dep : Nat → Int32} {knd : Nat → Nat} {siz plc : Nat → Int32} {b s : Nat} : upd (pSiz wet dep knd siz plc b s) b (siz b) = siz := by
  rw [pSiz, upd_upd, upd_id _ _ _ rfl]
theorem re_plc {wet : Int32} {dep : Nat → Int32} {knd : Nat → Nat} {siz plc : Nat → Int32} {b s : Nat} : upd (pPlc wet dep knd siz plc b s) b (plc b) = plc := by
  rw [pPlc, upd_upd, upd_id _ _ _ rfl]
theorem re_axs {knd : Nat → Nat} {axs : Nat → Int32} {b s : Nat} : upd (pAxs knd axs b s) b (axs b) = axs := by
  rw [pAxs]
  by_cases h : knd b = 1
  · rw [if_pos h, upd_upd, upd_id _ _ _ rfl]
  · rw [if_neg h, upd_id _ _ _ rfl]
def mtL (b : Nat) (a : Int32 × Int32 × Int32) (x : Nd) : Int32 × Int32 × Int32 := if x.1.2.1 b < a.1 then a else if x.1.2.1 b = a.1 then (if nI x.2.1 < a.2.2 then (x.1.2.1 b, x.2.2, nI x.2.1) else a) else (x.1.2.1 b, x.2.2, nI x.2.1)
def mtA (b : Nat) (g : Int32) (a : Int32) (x : Nd) : Int32 := if x.1.2.2.1 b = g then (if a = -1 then nI x.2.1 else if a ≤ nI x.2.1 then a else nI x.2.1) else a
def mtG (b : Nat) (gr gz : Int32) (a : Int32) (x : Nd) : Int32 := if nI x.2.1 = gr then (if x.1.2.1 b = gz then a + 1 else a) else a
theorem meet_L (b : Nat) (a1 a2 a3 : Int32) (C : CS) (r : Nat) (f : Int32) : f_X3_meet a1 a2 a3 C.2.1 (nI r) f b = some (mtL b (a1, a2, a3) (C, r, f)) := by
  unfold f_X3_meet mtL
  dsimp only
  split
  · rfl
  · split
    · split <;> rfl
    · rfl
theorem meet_A (b : Nat) (g a : Int32) (C : CS) (r : Nat) (f : Int32) : f_X0_meet a g C.2.2.1 (nI r) b = some (mtA b g a (C, r, f)) := by
  unfold f_X0_meet mtA
  dsimp only
  split
  · split
    · rfl
    · split <;> rfl
  · rfl
theorem meet_G (b : Nat) (gr gz a : Int32) (C : CS) (r : Nat) (f : Int32) : f_X6_meet a gr gz C.2.1 (nI r) b = some (mtG b gr gz a (C, r, f)) := by
  unfold f_X6_meet mtG
  dsimp only
  split
  · split <;> rfl
  · rfl
theorem x_L {n b : Nat} {w : Nat} {wet : Int32} (hw : w ≤ 9 ∧ wet = nI w) (stg dys : Int32) (knd : Nat → Nat) (onn : Nat → Int32) {M : Nat} (hM6 : M ≤ 6) : ∀ (m d B r : Nat) (C : CS) (f u1 u2 u3 : Int32), m < d → r + m = M → B + 9 * m < 2 ^ 18 → GD B n b knd onn C → fr_X7_explore_L d (nI n) wet stg dys C.1 knd C.2.1 C.2.2.1 onn C.2.2.2 u1 u2 u3  (nI b) (nI M) (nI r) f = some (C.1, C.2.1, C.2.2.1, onn, C.2.2.2, List.foldl (mtL b) (u1, u2, u3) (pre (canT n stg knd onn b) (stpT wet knd b) m C r f)) := by
  intro m
  induction m with
  | zero =>
    intro d B r C f u1 u2 u3 hd hM hB hG
    obtain ⟨d, rfl⟩ : ∃ z, d = z + 1 := ⟨d - 1, by omega⟩
    obtain rfl : r = M := by omega
    have hb := hG.1.2.1
    obtain ⟨g0, g1, g2, hg⟩ : ∃ g0 g1 g2 : Int32, (mtL b) (u1, u2, u3) (C, r, f) = (g0, g1, g2) := ⟨_, _, _, rfl⟩
    rw [fr_X7_explore_L, if_pos (okT hb (by omega)), tnI (by omega), meet_L, hg, Option.bind_some]
    dsimp only
    rw [if_pos (Int32.le_refl _), pre, List.foldl_cons, hg]
    rfl
  | succ m ih =>
    intro d B r C f u1 u2 u3 hd hM hB hG
    obtain ⟨d, rfl⟩ : ∃ z, d = z + 1 := ⟨d - 1, by omega⟩
    have hb := hG.1.2.1
    have side : ∀ (j i k : Nat) (u1 u2 u3 : Int32), i + j = 4 → j < k → f_X7_explore_L_h56 (fr_X7_explore_L d) (nI n) wet stg dys knd  (nI b) (nI M) (nI r) f k C.1 C.2.1 C.2.2.1 onn C.2.2.2 u1 u2 u3 (C.2.2.1 b) (C.2.1 b) (C.2.2.2 b) (nI i) = some (C.1, C.2.1, C.2.2.1, onn, C.2.2.2, List.foldl (mtL b) (u1, u2, u3) (sds (canT n stg knd onn b) C (fun s => pre (canT n stg knd onn b) (stpT wet knd b) m (stpT wet knd b C s) (r + 1) (fs r f s)) (R i j))) := by
      intro j
      induction j with
      | zero =>
        intro i k u1 u2 u3 h hk
        obtain ⟨k, rfl⟩ : ∃ z, k = z + 1 := ⟨k - 1, by omega⟩
        obtain rfl : i = 4 := by omega
        rw [f_X7_explore_L_h56, if_pos (show (4 : Int32) ≤ nI 4 from Int32.le_refl _)]; rfl
      | succ j ihj =>
        intro i k u1 u2 u3 h hk
        obtain ⟨k, rfl⟩ : ∃ z, k = z + 1 := ⟨k - 1, by omega⟩
        have hi : i < 4 := by omega
        have cge : ¬ (4 : Int32) ≤ nI i := nI_ge (b := 4) hi (by omega)
        rw [f_X7_explore_L_h56, if_neg cge]
        rcases hG.can (stg := stg) hi with ⟨hc, e1, e2⟩ | ⟨hc, e1, e2⟩
        · obtain ⟨-, -, -, -, -, p, t, hp, e, ht, et, -⟩ := id hc
          have eb : f_X7_beside (C.2.2.1 b) (nI i) = some (nI t) := by rw [e, (bes_all p hp i hi).1, et]
          have eT : pT C.2.2.1 b i = t := by rw [pT, e, tnI (by omega), et, tnI (by omega)]
          have hP := v_push (wet := wet) (dep := C.1) (b := b) (s := i) hb hi (hG.1.2.2.2.1 b (Or.inr rfl)) (by omega) hw hG.2 hc
          have hS := hG.stp (stg := stg) (wet := wet) hw (by omega) hi hc
          have hrec := ih d (B + 9) (r + 1) (stpT wet knd b C i) (fs r f i) u1 u2 u3 (by omega) (by omega) (by omega) hS
          obtain ⟨q0, q1, q2, hq⟩ : ∃ q0 q1 q2 : Int32, List.foldl (mtL b) (u1, u2, u3) (pre (canT n stg knd onn b) (stpT wet knd b) m (stpT wet knd b C i) (r + 1) (fs r f i)) = (q0, q1, q2) := ⟨_, _, _, rfl⟩
          rw [hq] at hrec
          replace hrec : fr_X7_explore_L d (nI n) wet stg dys (pDep wet C.1 knd C.2.1 C.2.2.1 b i) knd (pSiz wet C.1 knd C.2.1 C.2.2.1 b i) (pPlc wet C.1 knd C.2.1 C.2.2.1 b i) onn (pAxs knd C.2.2.2 b i) u1 u2 u3  (nI b) (nI M) (nI (r + 1)) (fs r f i) = some (pDep wet C.1 knd C.2.1 C.2.2.1 b i, pSiz wet C.1 knd C.2.1 C.2.2.1 b i, pPlc wet C.1 knd C.2.1 C.2.2.1 b i, onn, pAxs knd C.2.2.2 b i, (q0, q1, q2)) := hrec
          have hfin := ihj (i + 1) k q0 q1 q2 (by omega) (by omega)
          have hgoal : List.foldl (mtL b) (u1, u2, u3) (sds (canT n stg knd onn b) C (fun s => pre (canT n stg knd onn b) (stpT wet knd b) m (stpT wet knd b C s) (r + 1) (fs r f s)) (R i (j + 1))) = List.foldl (mtL b) (q0, q1, q2) (sds (canT n stg knd onn b) C (fun s => pre (canT n stg knd onn b) (stpT wet knd b) m (stpT wet knd b C s) (r + 1) (fs r f s)) (R (i + 1) j)) := by
            rw [R_cons, sds, if_pos e2, List.foldl_append, hq]
          rw [e1, Option.bind_some, if_neg i10, eb, Option.bind_some, if_neg (nI_m1 (by omega)), if_pos (okT ht (by omega)), hP, Option.bind_some]
          dsimp only
          rw [hgoal, nI_1, nI_1, tnI (show t < 2 ^ 31 by omega), tnI (show b < 2 ^ 31 by omega)]
          by_cases hr : r = 0
          · have ef : fs r f i = nI i := if_pos hr
            rw [ef] at hrec
            rw [if_pos (show nI r = 0 by rw [hr]; rfl), hrec, Option.bind_some]
            dsimp only
            rw [re_dep eT, re_siz, re_plc, re_axs]
            exact hfin
          · have ef : fs r f i = f := if_neg hr
            rw [ef] at hrec
            rw [if_neg (show ¬ nI r = 0 from fun z => hr ((nI_eq (b := 0) (by omega) (by omega)).mp z)), hrec, Option.bind_some]
            dsimp only
            rw [re_dep eT, re_siz, re_plc, re_axs]
            exact hfin
        · rw [e1, Option.bind_some, if_pos i00, R_cons, sds, if_neg e2, nI_1]
          exact ihj (i + 1) k u1 u2 u3 (by omega) (by omega)
    obtain ⟨g0, g1, g2, hg⟩ : ∃ g0 g1 g2 : Int32, (mtL b) (u1, u2, u3) (C, r, f) = (g0, g1, g2) := ⟨_, _, _, rfl⟩
    have hfin := side 4 0 70 g0 g1 g2 (by omega) (by omega)
    have hle : ¬ nI M ≤ nI r := nI_ge (by omega) (by omega)
    rw [fr_X7_explore_L, if_pos (okT hb (by omega)), tnI (by omega), meet_L, hg, Option.bind_some]
    dsimp only
    rw [if_neg hle, if_pos (show nI r < 6 from nI_lt (b := 6) (by omega) (by omega)), pre, List.foldl_cons, hg]
    exact hfin
theorem x_A {n b : Nat} {w : Nat} {wet : Int32} (hw : w ≤ 9 ∧ wet = nI w) (stg dys : Int32) (knd : Nat → Nat) (onn : Nat → Int32) (gg : Int32) {M : Nat} (hM6 : M ≤ 6) : ∀ (m d B r : Nat) (C : CS) (f u1 : Int32), m < d → r + m = M → B + 9 * m < 2 ^ 18 → GD B n b knd onn C → fr_X7_explore_A d (nI n) wet stg dys C.1 knd C.2.1 C.2.2.1 onn C.2.2.2 u1 gg (nI b) (nI M) (nI r) f = some (C.1, C.2.1, C.2.2.1, onn, C.2.2.2, List.foldl (mtA b gg) u1 (pre (canT n stg knd onn b) (stpT wet knd b) m C r f)) := by
  intro m
  induction m with
  | zero =>
    intro d B r C f u1 hd hM hB hG
    obtain ⟨d, rfl⟩ : ∃ z, d = z + 1 := ⟨d - 1, by omega⟩
    obtain rfl : r = M := by omega
    have hb := hG.1.2.1
    obtain ⟨g0, hg⟩ : ∃ g0 : Int32, (mtA b gg) u1 (C, r, f) = g0 := ⟨_, rfl⟩
    rw [fr_X7_explore_A, if_pos (okT hb (by omega)), tnI (by omega), meet_A, hg, Option.bind_some]
    rw [if_pos (Int32.le_refl _), pre, List.foldl_cons, hg]
    rfl
  | succ m ih =>
    intro d B r C f u1 hd hM hB hG
    obtain ⟨d, rfl⟩ : ∃ z, d = z + 1 := ⟨d - 1, by omega⟩
    have hb := hG.1.2.1
    have side : ∀ (j i k : Nat) (u1 : Int32), i + j = 4 → j < k → f_X7_explore_A_h56 (fr_X7_explore_A d) (nI n) wet stg dys knd gg (nI b) (nI M) (nI r) f k C.1 C.2.1 C.2.2.1 onn C.2.2.2 u1 (C.2.2.1 b) (C.2.1 b) (C.2.2.2 b) (nI i) = some (C.1, C.2.1, C.2.2.1, onn, C.2.2.2, List.foldl (mtA b gg) u1 (sds (canT n stg knd onn b) C (fun s => pre (canT n stg knd onn b) (stpT wet knd b) m (stpT wet knd b C s) (r + 1) (fs r f s)) (R i j))) := by
      intro j
      induction j with
      | zero =>
        intro i k u1 h hk
        obtain ⟨k, rfl⟩ : ∃ z, k = z + 1 := ⟨k - 1, by omega⟩
        obtain rfl : i = 4 := by omega
        rw [f_X7_explore_A_h56, if_pos (show (4 : Int32) ≤ nI 4 from Int32.le_refl _)]; rfl
      | succ j ihj =>
        intro i k u1 h hk
        obtain ⟨k, rfl⟩ : ∃ z, k = z + 1 := ⟨k - 1, by omega⟩
        have hi : i < 4 := by omega
        have cge : ¬ (4 : Int32) ≤ nI i := nI_ge (b := 4) hi (by omega)
        rw [f_X7_explore_A_h56, if_neg cge]
        rcases hG.can (stg := stg) hi with ⟨hc, e1, e2⟩ | ⟨hc, e1, e2⟩
        · obtain ⟨-, -, -, -, -, p, t, hp, e, ht, et, -⟩ := id hc
          have eb : f_X7_beside (C.2.2.1 b) (nI i) = some (nI t) := by rw [e, (bes_all p hp i hi).1, et]
          have eT : pT C.2.2.1 b i = t := by rw [pT, e, tnI (by omega), et, tnI (by omega)]
          have hP := v_push (wet := wet) (dep := C.1) (b := b) (s := i) hb hi (hG.1.2.2.2.1 b (Or.inr rfl)) (by omega) hw hG.2 hc
          have hS := hG.stp (stg := stg) (wet := wet) hw (by omega) hi hc
          have hrec := ih d (B + 9) (r + 1) (stpT wet knd b C i) (fs r f i) u1 (by omega) (by omega) (by omega) hS
          obtain ⟨q0, hq⟩ : ∃ q0 : Int32, List.foldl (mtA b gg) u1 (pre (canT n stg knd onn b) (stpT wet knd b) m (stpT wet knd b C i) (r + 1) (fs r f i)) = q0 := ⟨_, rfl⟩
          rw [hq] at hrec
          replace hrec : fr_X7_explore_A d (nI n) wet stg dys (pDep wet C.1 knd C.2.1 C.2.2.1 b i) knd (pSiz wet C.1 knd C.2.1 C.2.2.1 b i) (pPlc wet C.1 knd C.2.1 C.2.2.1 b i) onn (pAxs knd C.2.2.2 b i) u1 gg (nI b) (nI M) (nI (r + 1)) (fs r f i) = some (pDep wet C.1 knd C.2.1 C.2.2.1 b i, pSiz wet C.1 knd C.2.1 C.2.2.1 b i, pPlc wet C.1 knd C.2.1 C.2.2.1 b i, onn, pAxs knd C.2.2.2 b i, q0) := hrec
          have hfin := ihj (i + 1) k q0 (by omega) (by omega)
          have hgoal : List.foldl (mtA b gg) u1 (sds (canT n stg knd onn b) C (fun s => pre (canT n stg knd onn b) (stpT wet knd b) m (stpT wet knd b C s) (r + 1) (fs r f s)) (R i (j + 1))) = List.foldl (mtA b gg) q0 (sds (canT n stg knd onn b) C (fun s => pre (canT n stg knd onn b) (stpT wet knd b) m (stpT wet knd b C s) (r + 1) (fs r f s)) (R (i + 1) j)) := by
            rw [R_cons, sds, if_pos e2, List.foldl_append, hq]
          rw [e1, Option.bind_some, if_neg i10, eb, Option.bind_some, if_neg (nI_m1 (by omega)), if_pos (okT ht (by omega)), hP, Option.bind_some]
          dsimp only
          rw [hgoal, nI_1, nI_1, tnI (show t < 2 ^ 31 by omega), tnI (show b < 2 ^ 31 by omega)]
          by_cases hr : r = 0
          · have ef : fs r f i = nI i := if_pos hr
            rw [ef] at hrec
            rw [if_pos (show nI r = 0 by rw [hr]; rfl), hrec, Option.bind_some]
            dsimp only
            rw [re_dep eT, re_siz, re_plc, re_axs]
            exact hfin
          · have ef : fs r f i = f := if_neg hr
            rw [ef] at hrec
            rw [if_neg (show ¬ nI r = 0 from fun z => hr ((nI_eq (b := 0) (by omega) (by omega)).mp z)), hrec, Option.bind_some]
            dsimp only
            rw [re_dep eT, re_siz, re_plc, re_axs]
            exact hfin
        · rw [e1, Option.bind_some, if_pos i00, R_cons, sds, if_neg e2, nI_1]
          exact ihj (i + 1) k u1 (by omega) (by omega)
    obtain ⟨g0, hg⟩ : ∃ g0 : Int32, (mtA b gg) u1 (C, r, f) = g0 := ⟨_, rfl⟩
    have hfin := side 4 0 70 g0 (by omega) (by omega)
    have hle : ¬ nI M ≤ nI r := nI_ge (by omega) (by omega)
    rw [fr_X7_explore_A, if_pos (okT hb (by omega)), tnI (by omega), meet_A, hg, Option.bind_some]
    rw [if_neg hle, if_pos (show nI r < 6 from nI_lt (b := 6) (by omega) (by omega)), pre, List.foldl_cons, hg]
    exact hfin
theorem x_G {n b : Nat} {w : Nat} {wet : Int32} (hw : w ≤ 9 ∧ wet = nI w) (stg dys : Int32) (knd : Nat → Nat) (onn : Nat → Int32) (gr gz : Int32) {M : Nat} (hM6 : M ≤ 6) : ∀ (m d B r : Nat) (C : CS) (f u1 : Int32), m < d → r + m = M → B + 9 * m < 2 ^ 18 → GD B n b knd onn C → fr_X7_explore_G d (nI n) wet stg dys C.1 knd C.2.1 C.2.2.1 onn C.2.2.2 u1 gr gz (nI b) (nI M) (nI r) f = some (C.1, C.2.1, C.2.2.1, onn, C.2.2.2, List.foldl (mtG b gr gz) u1 (pre (canT n stg knd onn b) (stpT wet knd b) m C r f)) := by
  intro m
  induction m with
  | zero =>
    intro d B r C f u1 hd hM hB hG
    obtain ⟨d, rfl⟩ : ∃ z, d = z + 1 := ⟨d - 1, by omega⟩
    obtain rfl : r = M := by omega
    have hb := hG.1.2.1
    obtain ⟨g0, hg⟩ : ∃ g0 : Int32, (mtG b gr gz) u1 (C, r, f) = g0 := ⟨_, rfl⟩
    rw [fr_X7_explore_G, if_pos (okT hb (by omega)), tnI (by omega), meet_G, hg, Option.bind_some]
    rw [if_pos (Int32.le_refl _), pre, List.foldl_cons, hg]
    rfl
  | succ m ih =>
    intro d B r C f u1 hd hM hB hG
    obtain ⟨d, rfl⟩ : ∃ z, d = z + 1 := ⟨d - 1, by omega⟩
    have hb := hG.1.2.1
    have side : ∀ (j i k : Nat) (u1 : Int32), i + j = 4 → j < k → f_X7_explore_G_h56 (fr_X7_explore_G d) (nI n) wet stg dys knd gr gz (nI b) (nI M) (nI r) f k C.1 C.2.1 C.2.2.1 onn C.2.2.2 u1 (C.2.2.1 b) (C.2.1 b) (C.2.2.2 b) (nI i) = some (C.1, C.2.1, C.2.2.1, onn, C.2.2.2, List.foldl (mtG b gr gz) u1 (sds (canT n stg knd onn b) C (fun s => pre (canT n stg knd onn b) (stpT wet knd b) m (stpT wet knd b C s) (r + 1) (fs r f s)) (R i j))) := by
      intro j
      induction j with
      | zero =>
        intro i k u1 h hk
        obtain ⟨k, rfl⟩ : ∃ z, k = z + 1 := ⟨k - 1, by omega⟩
        obtain rfl : i = 4 := by omega
        rw [f_X7_explore_G_h56, if_pos (show (4 : Int32) ≤ nI 4 from Int32.le_refl _)]; rfl
      | succ j ihj =>
        intro i k u1 h hk
        obtain ⟨k, rfl⟩ : ∃ z, k = z + 1 := ⟨k - 1, by omega⟩
        have hi : i < 4 := by omega
        have cge : ¬ (4 : Int32) ≤ nI i := nI_ge (b := 4) hi (by omega)
        rw [f_X7_explore_G_h56, if_neg cge]
        rcases hG.can (stg := stg) hi with ⟨hc, e1, e2⟩ | ⟨hc, e1, e2⟩
        · obtain ⟨-, -, -, -, -, p, t, hp, e, ht, et, -⟩ := id hc
          have eb : f_X7_beside (C.2.2.1 b) (nI i) = some (nI t) := by rw [e, (bes_all p hp i hi).1, et]
          have eT : pT C.2.2.1 b i = t := by rw [pT, e, tnI (by omega), et, tnI (by omega)]
          have hP := v_push (wet := wet) (dep := C.1) (b := b) (s := i) hb hi (hG.1.2.2.2.1 b (Or.inr rfl)) (by omega) hw hG.2 hc
          have hS := hG.stp (stg := stg) (wet := wet) hw (by omega) hi hc
          have hrec := ih d (B + 9) (r + 1) (stpT wet knd b C i) (fs r f i) u1 (by omega) (by omega) (by omega) hS
          obtain ⟨q0, hq⟩ : ∃ q0 : Int32, List.foldl (mtG b gr gz) u1 (pre (canT n stg knd onn b) (stpT wet knd b) m (stpT wet knd b C i) (r + 1) (fs r f i)) = q0 := ⟨_, rfl⟩
          rw [hq] at hrec
          replace hrec : fr_X7_explore_G d (nI n) wet stg dys (pDep wet C.1 knd C.2.1 C.2.2.1 b i) knd (pSiz wet C.1 knd C.2.1 C.2.2.1 b i) (pPlc wet C.1 knd C.2.1 C.2.2.1 b i) onn (pAxs knd C.2.2.2 b i) u1 gr gz (nI b) (nI M) (nI (r + 1)) (fs r f i) = some (pDep wet C.1 knd C.2.1 C.2.2.1 b i, pSiz wet C.1 knd C.2.1 C.2.2.1 b i, pPlc wet C.1 knd C.2.1 C.2.2.1 b i, onn, pAxs knd C.2.2.2 b i, q0) := hrec
          have hfin := ihj (i + 1) k q0 (by omega) (by omega)
          have hgoal : List.foldl (mtG b gr gz) u1 (sds (canT n stg knd onn b) C (fun s => pre (canT n stg knd onn b) (stpT wet knd b) m (stpT wet knd b C s) (r + 1) (fs r f s)) (R i (j + 1))) = List.foldl (mtG b gr gz) q0 (sds (canT n stg knd onn b) C (fun s => pre (canT n stg knd onn b) (stpT wet knd b) m (stpT wet knd b C s) (r + 1) (fs r f s)) (R (i + 1) j)) := by
            rw [R_cons, sds, if_pos e2, List.foldl_append, hq]
          rw [e1, Option.bind_some, if_neg i10, eb, Option.bind_some, if_neg (nI_m1 (by omega)), if_pos (okT ht (by omega)), hP, Option.bind_some]
          dsimp only
          rw [hgoal, nI_1, nI_1, tnI (show t < 2 ^ 31 by omega), tnI (show b < 2 ^ 31 by omega)]
          by_cases hr : r = 0
          · have ef : fs r f i = nI i := if_pos hr
            rw [ef] at hrec
            rw [if_pos (show nI r = 0 by rw [hr]; rfl), hrec, Option.bind_some]
            dsimp only
            rw [re_dep eT, re_siz, re_plc, re_axs]
            exact hfin
          · have ef : fs r f i = f := if_neg hr
            rw [ef] at hrec
            rw [if_neg (show ¬ nI r = 0 from fun z => hr ((nI_eq (b := 0) (by omega) (by omega)).mp z)), hrec, Option.bind_some]
            dsimp only
            rw [re_dep eT, re_siz, re_plc, re_axs]
            exact hfin
        · rw [e1, Option.bind_some, if_pos i00, R_cons, sds, if_neg e2, nI_1]
          exact ihj (i + 1) k u1 (by omega) (by omega)
    obtain ⟨g0, hg⟩ : ∃ g0 : Int32, (mtG b gr gz) u1 (C, r, f) = g0 := ⟨_, rfl⟩
    have hfin := side 4 0 70 g0 (by omega) (by omega)
    have hle : ¬ nI M ≤ nI r := nI_ge (by omega) (by omega)
    rw [fr_X7_explore_G, if_pos (okT hb (by omega)), tnI (by omega), meet_G, hg, Option.bind_some]
    rw [if_neg hle, if_pos (show nI r < 6 from nI_lt (b := 6) (by omega) (by omega)), pre, List.foldl_cons, hg]
    exact hfin
