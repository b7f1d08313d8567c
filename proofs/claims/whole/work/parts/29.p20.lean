/-! what a search keeps, in the order of the rolls -/
theorem i_lt {a b : Int32} : a < b ↔ a.toInt < b.toInt := Int32.lt_iff_toInt_lt
theorem i_le {a b : Int32} : a ≤ b ↔ a.toInt ≤ b.toInt := Int32.le_iff_toInt_le
theorem i_eq {a b : Int32} : a = b ↔ a.toInt = b.toInt := Int32.toInt_inj.symm
theorem mtL_b (b : Nat) (a : Int32 × Int32 × Int32) (x : Nd) : mtL b a x = if (a.1.toInt < (x.1.2.1 b).toInt ∨ ((x.1.2.1 b).toInt = a.1.toInt ∧ (nI x.2.1).toInt < a.2.2.toInt)) then (x.1.2.1 b, x.2.2, nI x.2.1) else a := by
  unfold mtL
  by_cases h1 : x.1.2.1 b < a.1
  · rw [if_pos h1, if_neg]
    rw [i_lt] at h1; omega
  · rw [if_neg h1]
    rw [i_lt] at h1
    by_cases h2 : x.1.2.1 b = a.1
    · rw [if_pos h2]
      rw [i_eq] at h2
      by_cases h3 : nI x.2.1 < a.2.2
      · rw [if_pos h3, if_pos]
        rw [i_lt] at h3; omega
      · rw [if_neg h3, if_neg]
        rw [i_lt] at h3; omega
    · rw [if_neg h2, if_pos]
      rw [i_eq] at h2; omega
theorem Cm_L (b : Nat) : Cm (mtL b) := fun a x y hx hy hne => by
  have e1 : (nI x.2.1).toInt = (x.2.1 : Int) := nI_toInt (by omega)
  have e2 : (nI y.2.1).toInt = (y.2.1 : Int) := nI_toInt (by omega)
  rw [mtL_b b a x, mtL_b b a y]
  by_cases bx : (a.1.toInt < (x.1.2.1 b).toInt ∨ ((x.1.2.1 b).toInt = a.1.toInt ∧ (nI x.2.1).toInt < a.2.2.toInt))
  · by_cases by' : (a.1.toInt < (y.1.2.1 b).toInt ∨ ((y.1.2.1 b).toInt = a.1.toInt ∧ (nI y.2.1).toInt < a.2.2.toInt))
    · rw [if_pos bx, if_pos by', mtL_b, mtL_b]
      dsimp only
      by_cases c : ((x.1.2.1 b).toInt < (y.1.2.1 b).toInt ∨ ((y.1.2.1 b).toInt = (x.1.2.1 b).toInt ∧ (nI y.2.1).toInt < (nI x.2.1).toInt))
      · rw [if_pos c, if_neg (by omega)]
      · rw [if_neg c, if_pos (by omega)]
    · rw [if_pos bx, if_neg by', mtL_b, mtL_b b a x, if_pos bx]
      dsimp only
      rw [if_neg (by omega)]
  · by_cases by' : (a.1.toInt < (y.1.2.1 b).toInt ∨ ((y.1.2.1 b).toInt = a.1.toInt ∧ (nI y.2.1).toInt < a.2.2.toInt))
    · rw [if_neg bx, if_pos by', mtL_b b a y, if_pos by', mtL_b]
      dsimp only
      rw [if_neg (by omega)]
    · rw [if_neg bx, if_neg by', mtL_b, mtL_b, if_neg by', if_neg bx]
theorem Cm_G (b : Nat) (gr gz : Int32) : Cm (mtG b gr gz) := fun a x y _ _ _ => by
  unfold mtG
  by_cases h1 : nI x.2.1 = gr <;> by_cases h2 : x.1.2.1 b = gz <;> by_cases h3 : nI y.2.1 = gr <;> by_cases h4 : y.1.2.1 b = gz <;> simp only [h1, h2, h3, h4, if_true, if_false]
theorem Cm_A (b : Nat) (g : Int32) : Cm (mtA b g) := fun a x y hx hy hne => by
  have e1 : (nI x.2.1).toInt = (x.2.1 : Int) := nI_toInt (by omega)
  have e2 : (nI y.2.1).toInt = (y.2.1 : Int) := nI_toInt (by omega)
  have m1 : ¬ nI x.2.1 = -1 := nI_m1 (by omega)
  have m2 : ¬ nI y.2.1 = -1 := nI_m1 (by omega)
  unfold mtA
  by_cases h1 : x.1.2.2.1 b = g
  · by_cases h2 : y.1.2.2.1 b = g
    · simp only [h1, h2, if_true]
      by_cases ha : a = -1
      · simp only [ha, if_true, m1, m2, if_false, i_le]
        by_cases c : (nI x.2.1).toInt ≤ (nI y.2.1).toInt
        · rw [if_pos c, if_neg (by omega)]
        · rw [if_neg c, if_pos (by omega)]
      · by_cases c1 : a ≤ nI x.2.1
        · by_cases c2 : a ≤ nI y.2.1
          · simp only [ha, c1, c2, if_true, if_false]
          · have c3 : nI y.2.1 ≤ nI x.2.1 := by rw [i_le] at *; omega
            simp only [ha, c1, c2, c3, m2, if_true, if_false]
        · by_cases c2 : a ≤ nI y.2.1
          · have c3 : nI x.2.1 ≤ nI y.2.1 := by rw [i_le] at *; omega
            simp only [ha, c1, c2, c3, m1, if_true, if_false]
          · simp only [ha, c1, c2, m1, m2, if_false, i_le]
            by_cases c : (nI x.2.1).toInt ≤ (nI y.2.1).toInt
            · rw [if_pos c, if_neg (by omega)]
            · rw [if_neg c, if_pos (by omega)]
    · simp only [h1, h2, if_true, if_false]
  · by_cases h2 : y.1.2.2.1 b = g
    · simp only [h1, h2, if_true, if_false]
    · simp only [h1, h2, if_false]
theorem mtL_lv {b : Nat} : ∀ (l : List Nd) (z f : Int32) (v κ : Nat), v ≤ κ → κ < 1000 → (∀ x ∈ l, x.2.1 = κ) → ∃ v' : Nat, v' ≤ κ ∧ List.foldl (mtL b) (z, f, nI v) l = ((List.foldl (upM b) (z, f) l).1, (List.foldl (upM b) (z, f) l).2, nI v')
  | [], z, f, v, κ, h, _, _ => ⟨v, h, rfl⟩
  | x :: l, z, f, v, κ, h, hk, hl => by
    have ex := hl x (List.mem_cons_self ..)
    have hl' : ∀ y ∈ l, y.2.1 = κ := fun y hy => hl y (List.mem_cons_of_mem _ hy)
    have e1 : (nI x.2.1).toInt = (x.2.1 : Int) := nI_toInt (by omega)
    have e2 : (nI v).toInt = (v : Int) := nI_toInt (by omega)
    rw [List.foldl_cons, List.foldl_cons, mtL_b]
    by_cases hle : x.1.2.1 b ≤ z
    · have eu : upM b (z, f) x = (z, f) := if_pos hle
      rw [i_le] at hle
      rw [eu, if_neg (by dsimp only; omega)]
      exact mtL_lv l z f v κ h hk hl'
    · have eu : upM b (z, f) x = (x.1.2.1 b, x.2.2) := if_neg hle
      rw [i_le] at hle
      rw [eu, if_pos (by dsimp only; omega)]
      exact mtL_lv l (x.1.2.1 b) x.2.2 x.2.1 κ (by omega) hk hl'
theorem mtL_LV {b : Nat} {g : Nat → List Nd} (hg : ∀ k : Nat, ∀ x ∈ g k, x.2.1 = k) : ∀ (j i v : Nat) (z f : Int32), v ≤ i → i + j < 1000 → ∃ v' : Nat, List.foldl (mtL b) (z, f, nI v) (LV g (R i j)) = ((List.foldl (upM b) (z, f) (LV g (R i j))).1, (List.foldl (upM b) (z, f) (LV g (R i j))).2, nI v')
  | 0, i, v, z, f, _, _ => ⟨v, rfl⟩
  | j + 1, i, v, z, f, h, hh => by
    obtain ⟨v1, h1, e1⟩ := mtL_lv (b := b) (g i) z f v i h (by omega) (hg i)
    obtain ⟨v2, e2⟩ := mtL_LV hg j (i + 1) v1 (List.foldl (upM b) (z, f) (g i)).1 (List.foldl (upM b) (z, f) (g i)).2 (by omega) (by omega)
    refine ⟨v2, ?_⟩
    show List.foldl (mtL b) (z, f, nI v) (g i ++ LV g (R (i + 1) j)) = ((List.foldl (upM b) (z, f) (g i ++ LV g (R (i + 1) j))).1, (List.foldl (upM b) (z, f) (g i ++ LV g (R (i + 1) j))).2, nI v2)
    rw [List.foldl_append, e1, e2, List.foldl_append]
theorem mtA_no {b : Nat} {g : Int32} : ∀ (l : List Nd) (a : Int32), (∀ x ∈ l, ¬ x.1.2.2.1 b = g) → List.foldl (mtA b g) a l = a
  | [], _, _ => rfl
  | x :: l, a, h => by
    rw [List.foldl_cons, mtA, if_neg (h x (List.mem_cons_self ..))]
    exact mtA_no l a fun y hy => h y (List.mem_cons_of_mem _ hy)
theorem mtA_old {b : Nat} {g : Int32} {v : Nat} (hv : v < 1000) : ∀ (l : List Nd), (∀ x ∈ l, v ≤ x.2.1 ∧ x.2.1 < 1000) → List.foldl (mtA b g) (nI v) l = nI v
  | [], _ => rfl
  | x :: l, h => by
    obtain ⟨h1, h2⟩ := h x (List.mem_cons_self ..)
    have e : mtA b g (nI v) x = nI v := by
      unfold mtA
      by_cases c : x.1.2.2.1 b = g
      · rw [if_pos c, if_neg (nI_m1 (by omega)), if_pos ((nI_leI (by omega) (by omega)).mpr h1)]
      · rw [if_neg c]
    rw [List.foldl_cons, e]
    exact mtA_old hv l fun y hy => h y (List.mem_cons_of_mem _ hy)
theorem mtA_yes {b : Nat} {g : Int32} {κ : Nat} (hk : κ < 1000) : ∀ (l : List Nd), (∀ x ∈ l, x.2.1 = κ) → (∃ x ∈ l, x.1.2.2.1 b = g) → List.foldl (mtA b g) (-1) l = nI κ
  | [], _, h => by obtain ⟨x, h, -⟩ := h; exact (List.not_mem_nil h).elim
  | x :: l, hl, h => by
    have ex := hl x (List.mem_cons_self ..)
    have hl' : ∀ y ∈ l, y.2.1 = κ := fun y hy => hl y (List.mem_cons_of_mem _ hy)
    rw [List.foldl_cons]
    by_cases c : x.1.2.2.1 b = g
    · have e : mtA b g (-1) x = nI κ := by
        unfold mtA
        rw [if_pos c, if_pos rfl, ex]
      rw [e]
      exact mtA_old hk l fun y hy => by have := hl' y hy; omega
    · have e : mtA b g (-1) x = -1 := if_neg c
      rw [e]
      refine mtA_yes hk l hl' ?_
      obtain ⟨y, hy, hc⟩ := h
      rcases List.mem_cons.mp hy with rfl | hy
      · exact absurd hc c
      · exact ⟨y, hy, hc⟩
def cnt (b : Nat) (gz : Int32) (a : Int32) (x : Nd) : Int32 := if x.1.2.1 b = gz then a + 1 else a
theorem mtG_at {b : Nat} {gz : Int32} {κ : Nat} : ∀ (l : List Nd) (a : Int32), (∀ x ∈ l, x.2.1 = κ) → List.foldl (mtG b (nI κ) gz) a l = List.foldl (cnt b gz) a l
  | [], _, _ => rfl
  | x :: l, a, h => by
    have e : mtG b (nI κ) gz a x = cnt b gz a x := by
      unfold mtG cnt
      rw [h x (List.mem_cons_self ..), if_pos rfl]
    rw [List.foldl_cons, List.foldl_cons, e]
    exact mtG_at l _ fun y hy => h y (List.mem_cons_of_mem _ hy)
theorem mtG_no {b : Nat} {gz : Int32} {κ : Nat} (hk : κ < 1000) : ∀ (l : List Nd) (a : Int32), (∀ x ∈ l, x.2.1 < κ) → List.foldl (mtG b (nI κ) gz) a l = a
  | [], _, _ => rfl
  | x :: l, a, h => by
    have hx := h x (List.mem_cons_self ..)
    have e : mtG b (nI κ) gz a x = a := if_neg (fun z => absurd ((nI_eq (by omega) (by omega)).mp z) (by omega))
    rw [List.foldl_cons, e]
    exact mtG_no hk l a fun y hy => h y (List.mem_cons_of_mem _ hy)
theorem m_A1 {n b : Nat} {w : Nat} {wet : Int32} (hw : w ≤ 9 ∧ wet = nI w) (stg : Int32) {knd : Nat → Nat} {onn mK mO : Nat → Int32} {B k : Nat} {C : CS} (hk : k < 7) (hB : B + 9 * 6 < 2 ^ 18) (hG : GD B n b knd onn C) {sS sP sX : Int32} {sD : Nat → Int32} (hS : SV b C sS sP sX sD) (g : Int32) (kk : Int32 → Int32 → Int32 → (Nat → Int32) → (Nat → Int32) → (Nat → Int32) → (Nat → Int32) → (Nat → Int32) → Int32 → Option (Int32 × Int32 × Int32 × Int32 × (Nat → Int32) × (Nat → Int32) × (Nat → Int32) × (Nat → Int32) × (Nat → Int32))) : ∀ (j c fu : Nat) (mD mZ mP mX : Nat → Int32), c + j = 4 ^ k → j < fu → MR n b knd onn mK mO C mD mZ mP mX →
    ∃ (mD' mZ' mP' mX' : Nat → Int32), MR n b knd onn mK mO C mD' mZ' mP' mX' ∧ (((∃ x ∈ cdr (canT n stg knd onn b) (stpT wet knd b) k C 0 (-1) (R c j), x.1.2.2.1 b = g) ∧ f_X8_comesNow_h28 kk wet stg (nI n) mK mO (nI b) g fu sS sP sX mD mZ mP mX sD (nI k) (nI c) = some (nI k, sS, sP, sX, mD', mZ', mP', mX', sD)) ∨ ((∀ x ∈ cdr (canT n stg knd onn b) (stpT wet knd b) k C 0 (-1) (R c j), ¬ x.1.2.2.1 b = g) ∧ f_X8_comesNow_h28 kk wet stg (nI n) mK mO (nI b) g fu sS sP sX mD mZ mP mX sD (nI k) (nI c) = kk sS sP sX mD' mZ' mP' mX' sD (nI (k + 1)))) := by
  have p4 := p4_le k hk
  have hb := hG.1.2.1
  intro j
  induction j with
  | zero =>
    intro c fu mD mZ mP mX h hf hM
    obtain ⟨fu, rfl⟩ : ∃ z, fu = z + 1 := ⟨fu - 1, by omega⟩
    rw [f_X8_comesNow_h28, pw_all k hk, Option.bind_some, show c = 4 ^ k by omega, if_pos (Int32.le_refl _), nI_1]
    exact ⟨mD, mZ, mP, mX, hM, Or.inr ⟨fun x hx => (List.not_mem_nil hx).elim, rfl⟩⟩
  | succ j ih =>
    intro c fu mD mZ mP mX h hf hM
    obtain ⟨fu, rfl⟩ : ∃ z, fu = z + 1 := ⟨fu - 1, by omega⟩
    have hc : c < 4 ^ k := by omega
    obtain ⟨y, D, mD1, mZ1, mP1, mX1, mD2, mZ2, mP2, mX2, f1, f2, f3, f4, f5, f6⟩ := v_try hw stg hk hc (by omega) hG hM hS
    have cge : ¬ nI (4 ^ k) ≤ nI c := nI_ge hc (by omega)
    obtain ⟨mD3, mZ3, mP3, mX3, g1, g2⟩ := ih (c + 1) fu mD2 mZ2 mP2 mX2 (by omega) (by omega) f3
    have hl : cdr (canT n stg knd onn b) (stpT wet knd b) k C 0 (-1) (R c (j + 1)) = nd1 (run (canT n stg knd onn b) (stpT wet knd b) k C c) (0 + k) (ff 0 (-1) k c) ++ cdr (canT n stg knd onn b) (stpT wet knd b) k C 0 (-1) (R (c + 1) j) := rfl
    rw [f_X8_comesNow_h28, pw_all k hk, Option.bind_some, if_neg cge, f1, Option.bind_some]
    dsimp only
    rw [if_pos (okT hb (by omega)), f2, Option.bind_some, Option.bind_some]
    dsimp only
    rw [nI_1 c, tnI (by omega), f5, hl]
    rcases f6 with ⟨f6, rfl⟩ | ⟨f6, rfl⟩
    · rw [if_neg i10, if_neg i10, f6]
      by_cases hp : D.2.2.1 b = g
      · rw [if_pos hp]
        exact ⟨mD2, mZ2, mP2, mX2, f3, Or.inl ⟨⟨_, List.mem_append_left _ (List.mem_singleton.mpr rfl), hp⟩, rfl⟩⟩
      · rw [if_neg hp]
        refine ⟨mD3, mZ3, mP3, mX3, g1, ?_⟩
        rcases g2 with ⟨⟨x, x1, x2⟩, g3⟩ | ⟨x1, g3⟩
        · exact Or.inl ⟨⟨x, List.mem_append_right _ x1, x2⟩, g3⟩
        · refine Or.inr ⟨fun x hx => ?_, g3⟩
          rcases List.mem_append.mp hx with hx | hx
          · rw [List.mem_singleton.mp hx]; exact hp
          · exact x1 x hx
    · rw [if_pos i00, if_pos i00, ite_self, f6]
      exact ⟨mD3, mZ3, mP3, mX3, g1, g2⟩
theorem m_A2 {n b : Nat} {w : Nat} {wet : Int32} (hw : w ≤ 9 ∧ wet = nI w) (stg : Int32) {knd : Nat → Nat} {onn mK mO : Nat → Int32} {B : Nat} {C : CS} (hB : B + 9 * 6 < 2 ^ 18) (hG : GD B n b knd onn C) {sS sP sX : Int32} {sD : Nat → Int32} (hS : SV b C sS sP sX sD) (g : Int32) : ∀ (j k fu : Nat) (mD mZ mP mX : Nat → Int32), k + j = 7 → j < fu → MR n b knd onn mK mO C mD mZ mP mX →
    ∃ (mD' mZ' mP' mX' : Nat → Int32), f_X8_comesNow_h19 wet stg (nI n) mK mO (nI b) g fu sS sP sX mD mZ mP mX sD (nI k) = some (List.foldl (mtA b g) (-1) (LV (fun k => lev (canT n stg knd onn b) (stpT wet knd b) k C 0 (-1)) (R k j)), sS, sP, sX, mD', mZ', mP', mX', sD) ∧ MR n b knd onn mK mO C mD' mZ' mP' mX' := by
  have hv : ∀ k : Nat, ∀ x ∈ lev (canT n stg knd onn b) (stpT wet knd b) k C 0 (-1), x.2.1 = k := fun k x hx => by have := lev_lvl _ _ k C 0 (-1) x hx; omega
  intro j
  induction j with
  | zero =>
    intro k fu mD mZ mP mX h hf hM
    obtain ⟨fu, rfl⟩ : ∃ z, fu = z + 1 := ⟨fu - 1, by omega⟩
    obtain rfl : k = 7 := by omega
    rw [f_X8_comesNow_h19, if_pos (show (6 : Int32) < nI 7 by decide)]
    exact ⟨mD, mZ, mP, mX, rfl, hM⟩
  | succ j ih =>
    intro k fu mD mZ mP mX h hf hM
    obtain ⟨fu, rfl⟩ : ∃ z, fu = z + 1 := ⟨fu - 1, by omega⟩
    have p4 := p4_le k (by omega)
    obtain ⟨mD1, mZ1, mP1, mX1, e1, e2⟩ := m_A1 hw stg (k := k) (by omega) hB hG hS g (fun m_savedSize m_savedPlace m_savedSticks m_depthOf m_sizeOf m_placeOf m_sticksOf m_savedDepth x3 => f_X8_comesNow_h19 wet stg (nI n) mK mO (nI b) g fu m_savedSize m_savedPlace m_savedSticks m_depthOf m_sizeOf m_placeOf m_sticksOf m_savedDepth x3) (4 ^ k) 0 4100 mD mZ mP mX (by omega) (by omega) hM
    rw [f_X8_comesNow_h19, if_neg (show ¬ (6 : Int32) < nI k from Int32.not_lt.mpr ((nI_leI (b := 6) (by omega) (by omega)).mpr (by omega)))]
    have hl : List.foldl (mtA b g) (-1) (LV (fun k => lev (canT n stg knd onn b) (stpT wet knd b) k C 0 (-1)) (R k (j + 1))) = List.foldl (mtA b g) (List.foldl (mtA b g) (-1) (lev (canT n stg knd onn b) (stpT wet knd b) k C 0 (-1))) (LV (fun k => lev (canT n stg knd onn b) (stpT wet knd b) k C 0 (-1)) (R (k + 1) j)) := by
      show List.foldl (mtA b g) (-1) (lev (canT n stg knd onn b) (stpT wet knd b) k C 0 (-1) ++ LV _ (R (k + 1) j)) = _
      rw [List.foldl_append]
    rw [cdr_lev] at e2
    rcases e2 with ⟨hx, e2⟩ | ⟨hx, e2⟩
    · refine ⟨mD1, mZ1, mP1, mX1, ?_, e1⟩
      rw [hl, mtA_yes (κ := k) (by omega) _ (hv k) hx, mtA_old (by omega) _ fun x hx => by
        have a1 := LV_lvl (g := fun k => lev (canT n stg knd onn b) (stpT wet knd b) k C 0 (-1)) (v := 0) (fun k x hx => by have := hv k x hx; omega) j (k + 1) x hx
        have a2 := LV_up (g := fun k => lev (canT n stg knd onn b) (stpT wet knd b) k C 0 (-1)) (v := 0) (fun k x hx => by have := hv k x hx; omega) j (k + 1) x hx
        omega]
      exact e2
    · obtain ⟨mD2, mZ2, mP2, mX2, f1, f2⟩ := ih (k + 1) fu mD1 mZ1 mP1 mX1 (by omega) (by omega) e1
      refine ⟨mD2, mZ2, mP2, mX2, ?_, f2⟩
      rw [hl, mtA_no _ (-1) hx]
      exact e2.trans f1
theorem m_G1 {n : Nat} {w : Nat} {wet : Int32} (hw : w ≤ 9 ∧ wet = nI w) (stg : Int32) {knd : Nat → Nat} {onn mK mO : Nat → Int32} {B k : Nat} {C : CS} (hk : k < 6) (hB : B + 9 * 6 < 2 ^ 18) (hG : GD B n 4 knd onn C) {sS sP sX : Int32} {sD : Nat → Int32} (hS : SV 4 C sS sP sX sD) (gz : Int32) : ∀ (j c fu : Nat) (u : Int32) (mD mZ mP mX : Nat → Int32), c + j = 4 ^ k → j < fu → MR n 4 knd onn mK mO C mD mZ mP mX →
    ∃ (mD' mZ' mP' mX' : Nat → Int32), f_X8_bookNow_h18 wet stg (nI n) (nI k) gz fu sS sP sX mD mK mZ mP mO mX sD u (nI c) = some (List.foldl (cnt 4 gz) u (cdr (canT n stg knd onn 4) (stpT wet knd 4) k C 0 (-1) (R c j)), sS, sP, sX, mD', mK, mZ', mP', mO, mX', sD) ∧ MR n 4 knd onn mK mO C mD' mZ' mP' mX' := by
  have p4 := p4_le k (by omega)
  have hb := hG.1.2.1
  intro j
  induction j with
  | zero =>
    intro c fu u mD mZ mP mX h hf hM
    obtain ⟨fu, rfl⟩ : ∃ z, fu = z + 1 := ⟨fu - 1, by omega⟩
    rw [f_X8_bookNow_h18, pw_all k (by omega), Option.bind_some, show c = 4 ^ k by omega, if_pos (Int32.le_refl _)]
    exact ⟨mD, mZ, mP, mX, rfl, hM⟩
  | succ j ih =>
    intro c fu u mD mZ mP mX h hf hM
    obtain ⟨fu, rfl⟩ : ∃ z, fu = z + 1 := ⟨fu - 1, by omega⟩
    have hc : c < 4 ^ k := by omega
    obtain ⟨y, D, mD1, mZ1, mP1, mX1, mD2, mZ2, mP2, mX2, f1, f2, f3, f4, f5, f6⟩ := v_try hw stg (show k < 7 by omega) hc (by omega) hG hM hS
    have cge : ¬ nI (4 ^ k) ≤ nI c := nI_ge hc (by omega)
    replace f1 : f_X8_rollsBy wet stg (nI n) mD mK mZ mP mO mX 4 (nI c) (nI k) = _ := f1
    replace f2 : f_X8_back sS sP sX mD1 mZ1 mP1 mX1 sD 4 = _ := f2
    have hl : cdr (canT n stg knd onn 4) (stpT wet knd 4) k C 0 (-1) (R c (j + 1)) = nd1 (run (canT n stg knd onn 4) (stpT wet knd 4) k C c) (0 + k) (ff 0 (-1) k c) ++ cdr (canT n stg knd onn 4) (stpT wet knd 4) k C 0 (-1) (R (c + 1) j) := rfl
    rw [f_X8_bookNow_h18, pw_all k (by omega), Option.bind_some, if_neg cge, f1, Option.bind_some]
    dsimp only
    rw [f2, Option.bind_some]
    dsimp only
    rw [nI_1 c, f4, hl, List.foldl_append, Int32.add_zero]
    rcases f6 with ⟨f6, rfl⟩ | ⟨f6, rfl⟩
    · rw [if_neg i10, f6]
      have hu : List.foldl (cnt 4 gz) u (nd1 (some D) (0 + k) (ff 0 (-1) k c)) = if D.2.1 4 = gz then u + 1 else u := rfl
      rw [hu]
      by_cases hz : D.2.1 4 = gz
      · rw [if_pos hz, if_pos hz]
        exact ih (c + 1) fu (u + 1) mD2 mZ2 mP2 mX2 (by omega) (by omega) f3
      · rw [if_neg hz, if_neg hz]
        exact ih (c + 1) fu u mD2 mZ2 mP2 mX2 (by omega) (by omega) f3
    · rw [if_pos i00, f6]
      exact ih (c + 1) fu u mD2 mZ2 mP2 mX2 (by omega) (by omega) f3
