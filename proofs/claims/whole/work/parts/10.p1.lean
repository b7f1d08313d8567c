/-! numbers and loops of the pure functions -/
theorem okT {i n : Nat} (h : i < n) (hn : n < 2 ^ 31) : ok (nI i) n = true := by
  unfold ok
  exact decide_eq_true (nI_in h hn)
theorem tnI {n : Nat} (h : n < 2 ^ 31) : (nI n).toNatClampNeg = n := nI_clamp h
theorem ok_of {x : Int32} {n : Nat} (hn : n < 2 ^ 31) (h : ok x n = true) : ∃ j, j < n ∧ x = nI j := vp_in_of (ok_in h) hn
theorem nI_m1 {n : Nat} (h : n < 2 ^ 31) : ¬ nI n = -1 := by
  intro q
  have h1 := congrArg Int32.toInt q
  rw [nI_toInt h] at h1
  have h2 : Int32.toInt (-1) = -1 := by decide
  rw [h2] at h1
  omega
abbrev R (i j : Nat) : List Nat := List.range' i j
theorem R_cons (i j : Nat) : R i (j + 1) = i :: R (i + 1) j := rfl
theorem R_mem {i j q : Nat} : q ∈ R i j ↔ i ≤ q ∧ q < i + j := by
  rw [List.mem_range']
  constructor
  · rintro ⟨a, h1, rfl⟩; omega
  · intro h; exact ⟨q - i, by omega, by omega⟩
theorem R0 {n q : Nat} : q ∈ R 0 n ↔ q < n := by rw [R_mem]; omega
/-- a sum over a list of places -/
def sumL (f : Nat → Int32) : List Nat → Int32
  | [] => 0
  | a :: l => f a + sumL f l
def lastL (P : Nat → Prop) [DecidablePred P] : List Nat → Int32 → Int32
  | [], x => x
  | a :: l, x => lastL P l (if P a then nI a else x)
def firstL (P : Nat → Prop) [DecidablePred P] : List Nat → Int32
  | [] => -1
  | a :: l => if P a then nI a else firstL P l
theorem sumL_congr {f g : Nat → Int32} : ∀ {l : List Nat}, (∀ q ∈ l, f q = g q) → sumL f l = sumL g l
  | [], _ => rfl
  | a :: l, h => by
    show f a + sumL f l = g a + sumL g l
    rw [h a List.mem_cons_self, sumL_congr (fun q hq => h q (List.mem_cons_of_mem _ hq))]
theorem lastL_congr {P Q : Nat → Prop} [DecidablePred P] [DecidablePred Q] : ∀ {l : List Nat} {x : Int32}, (∀ q ∈ l, P q ↔ Q q) → lastL P l x = lastL Q l x
  | [], _, _ => rfl
  | a :: l, x, h => by
    show lastL P l _ = lastL Q l _
    have h1 := h a List.mem_cons_self
    rw [lastL_congr (fun q hq => h q (List.mem_cons_of_mem _ hq))]
    by_cases hp : P a
    · rw [if_pos hp, if_pos (h1.mp hp)]
    · rw [if_neg hp, if_neg (fun z => hp (h1.mpr z))]
theorem i32_assoc (a b c : Int32) : a + b + c = a + (b + c) := Int32.add_assoc a b c
theorem i32_0 (a : Int32) : a + 0 = a := Int32.add_zero a
theorem n4 {n : Nat} (h : n ≤ 4) : n < 2 ^ 31 := by omega

theorem l_allDepths (dep : Nat → Int32) : ∀ (j i k : Nat) (x : Int32), i + j = 20 → j < k → f_X4_allDepths_h13 dep k x 20 (nI i) = some (x + sumL dep (R i j)) := by
  intro j
  induction j with
  | zero =>
    intro i k x h hk
    obtain ⟨k, rfl⟩ : ∃ z, k = z + 1 := ⟨k - 1, by omega⟩
    have hin : i = 20 := by omega
    subst hin
    rw [f_X4_allDepths_h13, if_pos (show (20 : Int32) ≤ nI 20 from Int32.le_refl _)]
    exact congrArg some (i32_0 x).symm
  | succ j ih =>
    intro i k x h hk
    obtain ⟨k, rfl⟩ : ∃ z, k = z + 1 := ⟨k - 1, by omega⟩
    have hi : i < 20 := by omega
    have cge : ¬ (20 : Int32) ≤ nI i := nI_ge (a := i) (b := 20) hi (by omega)
    have cok : ok (nI i) 20 = true := okT (by omega) (by omega)
    have ctn : (nI i).toNatClampNeg = i := tnI (by omega)
    rw [f_X4_allDepths_h13, if_neg cge]
    rw [if_pos cok, ctn, nI_1, ih (i + 1) k _ (by omega) (by omega), R_cons]
    exact congrArg some (i32_assoc _ _ _)

theorem v_allDepths (dep : Nat → Int32) : f_X4_allDepths dep = some (sumL dep (R 0 20)) := by
  rw [f_X4_allDepths]
  exact (l_allDepths dep 20 0 70 0 rfl (by omega)).trans (congrArg some (Int32.zero_add _))
theorem l_depthAll (dep : Nat → Int32) : ∀ (j i k : Nat) (x : Int32), i + j = 20 → j < k → f_X8_depthAll_h4 1 dep k x (nI i) = some (x + sumL dep (R i j)) := by
  intro j
  induction j with
  | zero =>
    intro i k x h hk
    obtain ⟨k, rfl⟩ : ∃ z, k = z + 1 := ⟨k - 1, by omega⟩
    have hin : i = 20 := by omega
    subst hin
    rw [f_X8_depthAll_h4, if_pos (show (20 : Int32) ≤ nI 20 from Int32.le_refl _)]
    exact congrArg some (i32_0 x).symm
  | succ j ih =>
    intro i k x h hk
    obtain ⟨k, rfl⟩ : ∃ z, k = z + 1 := ⟨k - 1, by omega⟩
    have hi : i < 20 := by omega
    have cge : ¬ (20 : Int32) ≤ nI i := nI_ge (a := i) (b := 20) hi (by omega)
    have cok : ok (nI i) 20 = true := okT (by omega) (by omega)
    have ctn : (nI i).toNatClampNeg = i := tnI (by omega)
    rw [f_X8_depthAll_h4, if_neg cge]
    rw [if_neg (show ¬ (1 : Int32) = 0 by decide), if_pos cok, ctn, nI_1, ih (i + 1) k _ (by omega) (by omega), R_cons]
    exact congrArg some (i32_assoc _ _ _)

theorem v_depthAll (dep : Nat → Int32) : f_X8_depthAll 1 dep = some (sumL dep (R 0 20)) := by
  rw [f_X8_depthAll]
  exact (l_depthAll dep 20 0 70 0 rfl (by omega)).trans (congrArg some (Int32.zero_add _))
theorem l_depthAll0 (dep : Nat → Int32) : ∀ (j i k : Nat) (x : Int32), i + j = 20 → j < k → f_X8_depthAll_h4 0 dep k x (nI i) = some x := by
  intro j
  induction j with
  | zero =>
    intro i k x h hk
    obtain ⟨k, rfl⟩ : ∃ z, k = z + 1 := ⟨k - 1, by omega⟩
    have hin : i = 20 := by omega
    subst hin
    rw [f_X8_depthAll_h4, if_pos (show (20 : Int32) ≤ nI 20 from Int32.le_refl _)]
    
  | succ j ih =>
    intro i k x h hk
    obtain ⟨k, rfl⟩ : ∃ z, k = z + 1 := ⟨k - 1, by omega⟩
    have hi : i < 20 := by omega
    have cge : ¬ (20 : Int32) ≤ nI i := nI_ge (a := i) (b := 20) hi (by omega)
    have cok : ok (nI i) 20 = true := okT (by omega) (by omega)
    have ctn : (nI i).toNatClampNeg = i := tnI (by omega)
    rw [f_X8_depthAll_h4, if_neg cge]
    rw [if_pos (show (0 : Int32) = 0 from rfl), nI_1, ih (i + 1) k _ (by omega) (by omega), i32_0]

theorem v_depthAll0 (dep : Nat → Int32) : f_X8_depthAll 0 dep = some 0 := by
  rw [f_X8_depthAll]
  exact l_depthAll0 dep 20 0 70 0 rfl (by omega)
theorem l_manyAt {n : Nat} (hn : n ≤ 4) (plc : Nat → Int32) (a : Int32) : ∀ (j i k : Nat) (x : Int32), i + j = n → j < k → f_X4_manyAt_h4 (nI n) plc a k x (nI i) = some (x + sumL (fun q => if plc q = a then (1 : Int32) else 0) (R i j)) := by
  intro j
  induction j with
  | zero =>
    intro i k x h hk
    obtain ⟨k, rfl⟩ : ∃ z, k = z + 1 := ⟨k - 1, by omega⟩
    have hin : n = i := by omega
    subst hin
    rw [f_X4_manyAt_h4, if_pos (show (nI n : Int32) ≤ nI n from Int32.le_refl _)]
    exact congrArg some (i32_0 x).symm
  | succ j ih =>
    intro i k x h hk
    obtain ⟨k, rfl⟩ : ∃ z, k = z + 1 := ⟨k - 1, by omega⟩
    have hi : i < n := by omega
    have cge : ¬ (nI n : Int32) ≤ nI i := nI_ge (a := i) (b := n) hi (by omega)
    have cok : ok (nI i) 5 = true := okT (by omega) (by omega)
    have ctn : (nI i).toNatClampNeg = i := tnI (by omega)
    rw [f_X4_manyAt_h4, if_neg cge]
    rw [if_pos cok, ctn, R_cons]
    by_cases hp : plc i = a
    · rw [if_pos hp, nI_1, ih (i + 1) k _ (by omega) (by omega)]
      show _ = some (x + ((if plc i = a then (1 : Int32) else 0) + _))
      rw [if_pos hp, i32_assoc]
    · rw [if_neg hp, nI_1, ih (i + 1) k _ (by omega) (by omega)]
      show _ = some (x + ((if plc i = a then (1 : Int32) else 0) + _))
      rw [if_neg hp, i32_assoc]

theorem v_manyAt {n : Nat} (hn : n ≤ 4) (plc : Nat → Int32) (a : Int32) : f_X4_manyAt (nI n) plc a = some (sumL (fun q => if plc q = a then (1 : Int32) else 0) (R 0 n)) := by
  rw [f_X4_manyAt]
  exact (l_manyAt hn plc a n 0 70 0 (by omega) (by omega)).trans (congrArg some (Int32.zero_add _))
theorem l_standMany {n : Nat} (hn : n ≤ 4) (plc : Nat → Int32) (a : Int32) : ∀ (j i k : Nat) (x : Int32), i + j = n → j < k → f_X8_standMany_h4 (nI n) plc a k x (nI i) = some (x + sumL (fun q => if plc q = a then (1 : Int32) else 0) (R i j)) := by
  intro j
  induction j with
  | zero =>
    intro i k x h hk
    obtain ⟨k, rfl⟩ : ∃ z, k = z + 1 := ⟨k - 1, by omega⟩
    have hin : n = i := by omega
    subst hin
    rw [f_X8_standMany_h4, if_pos (show (nI n : Int32) ≤ nI n from Int32.le_refl _)]
    exact congrArg some (i32_0 x).symm
  | succ j ih =>
    intro i k x h hk
    obtain ⟨k, rfl⟩ : ∃ z, k = z + 1 := ⟨k - 1, by omega⟩
    have hi : i < n := by omega
    have cge : ¬ (nI n : Int32) ≤ nI i := nI_ge (a := i) (b := n) hi (by omega)
    have cok : ok (nI i) 5 = true := okT (by omega) (by omega)
    have ctn : (nI i).toNatClampNeg = i := tnI (by omega)
    rw [f_X8_standMany_h4, if_neg cge]
    rw [if_pos cok, ctn, R_cons]
    by_cases hp : plc i = a
    · rw [if_pos hp, nI_1, ih (i + 1) k _ (by omega) (by omega)]
      show _ = some (x + ((if plc i = a then (1 : Int32) else 0) + _))
      rw [if_pos hp, i32_assoc]
    · rw [if_neg hp, nI_1, ih (i + 1) k _ (by omega) (by omega)]
      show _ = some (x + ((if plc i = a then (1 : Int32) else 0) + _))
      rw [if_neg hp, i32_assoc]

theorem v_standMany {n : Nat} (hn : n ≤ 4) (plc : Nat → Int32) (a : Int32) : f_X8_standMany (nI n) plc a = some (sumL (fun q => if plc q = a then (1 : Int32) else 0) (R 0 n)) := by
  rw [f_X8_standMany]
  exact (l_standMany hn plc a n 0 70 0 (by omega) (by omega)).trans (congrArg some (Int32.zero_add _))
theorem l_allSizes {n : Nat} (hn : n ≤ 4) (siz : Nat → Int32) : ∀ (j i k : Nat) (x : Int32), i + j = n → j < k → f_X4_allSizes_h4 (nI n) siz k x (nI i) = some (x + sumL (fun q => siz q) (R i j)) := by
  intro j
  induction j with
  | zero =>
    intro i k x h hk
    obtain ⟨k, rfl⟩ : ∃ z, k = z + 1 := ⟨k - 1, by omega⟩
    have hin : n = i := by omega
    subst hin
    rw [f_X4_allSizes_h4, if_pos (show (nI n : Int32) ≤ nI n from Int32.le_refl _)]
    exact congrArg some (i32_0 x).symm
  | succ j ih =>
    intro i k x h hk
    obtain ⟨k, rfl⟩ : ∃ z, k = z + 1 := ⟨k - 1, by omega⟩
    have hi : i < n := by omega
    have cge : ¬ (nI n : Int32) ≤ nI i := nI_ge (a := i) (b := n) hi (by omega)
    have cok : ok (nI i) 5 = true := okT (by omega) (by omega)
    have ctn : (nI i).toNatClampNeg = i := tnI (by omega)
    rw [f_X4_allSizes_h4, if_neg cge]
    rw [if_pos cok, ctn, nI_1, ih (i + 1) k _ (by omega) (by omega), R_cons]
    exact congrArg some (i32_assoc _ _ _)

theorem v_allSizes {n : Nat} (hn : n ≤ 4) (siz : Nat → Int32) : f_X4_allSizes (nI n) siz = some (sumL (fun q => siz q) (R 0 n)) := by
  rw [f_X4_allSizes]
  exact (l_allSizes hn siz n 0 70 0 (by omega) (by omega)).trans (congrArg some (Int32.zero_add _))
theorem l_sizeAll {n : Nat} (hn : n ≤ 4) (siz : Nat → Int32) : ∀ (j i k : Nat) (x : Int32), i + j = n → j < k → f_X8_sizeAll_h4 (nI n) siz k x (nI i) = some (x + sumL (fun q => siz q) (R i j)) := by
  intro j
  induction j with
  | zero =>
    intro i k x h hk
    obtain ⟨k, rfl⟩ : ∃ z, k = z + 1 := ⟨k - 1, by omega⟩
    have hin : n = i := by omega
    subst hin
    rw [f_X8_sizeAll_h4, if_pos (show (nI n : Int32) ≤ nI n from Int32.le_refl _)]
    exact congrArg some (i32_0 x).symm
  | succ j ih =>
    intro i k x h hk
    obtain ⟨k, rfl⟩ : ∃ z, k = z + 1 := ⟨k - 1, by omega⟩
    have hi : i < n := by omega
    have cge : ¬ (nI n : Int32) ≤ nI i := nI_ge (a := i) (b := n) hi (by omega)
    have cok : ok (nI i) 5 = true := okT (by omega) (by omega)
    have ctn : (nI i).toNatClampNeg = i := tnI (by omega)
    rw [f_X8_sizeAll_h4, if_neg cge]
    rw [if_pos cok, ctn, nI_1, ih (i + 1) k _ (by omega) (by omega), R_cons]
    exact congrArg some (i32_assoc _ _ _)

theorem v_sizeAll {n : Nat} (hn : n ≤ 4) (siz : Nat → Int32) : f_X8_sizeAll (nI n) siz = some (sumL (fun q => siz q) (R 0 n)) := by
  rw [f_X8_sizeAll]
  exact (l_sizeAll hn siz n 0 70 0 (by omega) (by omega)).trans (congrArg some (Int32.zero_add _))
theorem l_goneBalls {n : Nat} (hn : n ≤ 4) (siz : Nat → Int32) : ∀ (j i k : Nat) (x : Int32), i + j = n → j < k → f_X4_goneBalls_h4 (nI n) siz k x (nI i) = some (x + sumL (fun q => if 0 < siz q then (0 : Int32) else 1) (R i j)) := by
  intro j
  induction j with
  | zero =>
    intro i k x h hk
    obtain ⟨k, rfl⟩ : ∃ z, k = z + 1 := ⟨k - 1, by omega⟩
    have hin : n = i := by omega
    subst hin
    rw [f_X4_goneBalls_h4, if_pos (show (nI n : Int32) ≤ nI n from Int32.le_refl _)]
    exact congrArg some (i32_0 x).symm
  | succ j ih =>
    intro i k x h hk
    obtain ⟨k, rfl⟩ : ∃ z, k = z + 1 := ⟨k - 1, by omega⟩
    have hi : i < n := by omega
    have cge : ¬ (nI n : Int32) ≤ nI i := nI_ge (a := i) (b := n) hi (by omega)
    have cok : ok (nI i) 5 = true := okT (by omega) (by omega)
    have ctn : (nI i).toNatClampNeg = i := tnI (by omega)
    rw [f_X4_goneBalls_h4, if_neg cge]
    rw [if_pos cok, ctn, R_cons, f_X1_isGone]
    by_cases hp : 0 < siz i
    · rw [if_pos hp, Option.bind_some, if_pos rfl, nI_1, ih (i + 1) k _ (by omega) (by omega)]
      show _ = some (x + ((if 0 < siz i then (0 : Int32) else 1) + _))
      rw [if_pos hp, i32_assoc]
    · rw [if_neg hp, Option.bind_some, if_neg (by decide), nI_1, ih (i + 1) k _ (by omega) (by omega)]
      show _ = some (x + ((if 0 < siz i then (0 : Int32) else 1) + _))
      rw [if_neg hp, i32_assoc]

theorem v_goneBalls {n : Nat} (hn : n ≤ 4) (siz : Nat → Int32) : f_X4_goneBalls (nI n) siz = some (sumL (fun q => if 0 < siz q then (0 : Int32) else 1) (R 0 n)) := by
  rw [f_X4_goneBalls]
  exact (l_goneBalls hn siz n 0 70 0 (by omega) (by omega)).trans (congrArg some (Int32.zero_add _))
theorem l_goneMany {n : Nat} (hn : n ≤ 4) (plc : Nat → Int32) : ∀ (j i k : Nat) (x : Int32), i + j = n → j < k → f_X8_goneMany_h4 (nI n) plc k x (nI i) = some (x + sumL (fun q => if plc q = -1 then (1 : Int32) else 0) (R i j)) := by
  intro j
  induction j with
  | zero =>
    intro i k x h hk
    obtain ⟨k, rfl⟩ : ∃ z, k = z + 1 := ⟨k - 1, by omega⟩
    have hin : n = i := by omega
    subst hin
    rw [f_X8_goneMany_h4, if_pos (show (nI n : Int32) ≤ nI n from Int32.le_refl _)]
    exact congrArg some (i32_0 x).symm
  | succ j ih =>
    intro i k x h hk
    obtain ⟨k, rfl⟩ : ∃ z, k = z + 1 := ⟨k - 1, by omega⟩
    have hi : i < n := by omega
    have cge : ¬ (nI n : Int32) ≤ nI i := nI_ge (a := i) (b := n) hi (by omega)
    have cok : ok (nI i) 5 = true := okT (by omega) (by omega)
    have ctn : (nI i).toNatClampNeg = i := tnI (by omega)
    rw [f_X8_goneMany_h4, if_neg cge]
    rw [if_pos cok, ctn, R_cons]
    by_cases hp : plc i = -1
    · rw [if_pos hp, nI_1, ih (i + 1) k _ (by omega) (by omega)]
      show _ = some (x + ((if plc i = -1 then (1 : Int32) else 0) + _))
      rw [if_pos hp, i32_assoc]
    · rw [if_neg hp, nI_1, ih (i + 1) k _ (by omega) (by omega)]
      show _ = some (x + ((if plc i = -1 then (1 : Int32) else 0) + _))
      rw [if_neg hp, i32_assoc]

theorem v_goneMany {n : Nat} (hn : n ≤ 4) (plc : Nat → Int32) : f_X8_goneMany (nI n) plc = some (sumL (fun q => if plc q = -1 then (1 : Int32) else 0) (R 0 n)) := by
  rw [f_X8_goneMany]
  exact (l_goneMany hn plc n 0 70 0 (by omega) (by omega)).trans (congrArg some (Int32.zero_add _))
theorem l_green (dep : Nat → Int32) : ∀ (j i k : Nat) (x : Int32), i + j = 20 → j < k → f_X4_greenPlaces_h13 dep k x 20 (nI i) = some (x + sumL (fun q => if dep q = 0 then (1 : Int32) else 0) (R i j)) := by
  intro j
  induction j with
  | zero =>
    intro i k x h hk
    obtain ⟨k, rfl⟩ : ∃ z, k = z + 1 := ⟨k - 1, by omega⟩
    have hin : i = 20 := by omega
    subst hin
    rw [f_X4_greenPlaces_h13, if_pos (show (20 : Int32) ≤ nI 20 from Int32.le_refl _)]
    exact congrArg some (i32_0 x).symm
  | succ j ih =>
    intro i k x h hk
    obtain ⟨k, rfl⟩ : ∃ z, k = z + 1 := ⟨k - 1, by omega⟩
    have hi : i < 20 := by omega
    have cge : ¬ (20 : Int32) ≤ nI i := nI_ge (a := i) (b := 20) hi (by omega)
    have cok : ok (nI i) 20 = true := okT (by omega) (by omega)
    have ctn : (nI i).toNatClampNeg = i := tnI (by omega)
    rw [f_X4_greenPlaces_h13, if_neg cge]
    rw [if_pos cok, ctn, R_cons]
    by_cases hp : dep i = 0
    · rw [if_pos hp, nI_1, ih (i + 1) k _ (by omega) (by omega)]
      show _ = some (x + ((if dep i = 0 then (1 : Int32) else 0) + _))
      rw [if_pos hp, i32_assoc]
    · rw [if_neg hp, nI_1, ih (i + 1) k _ (by omega) (by omega)]
      show _ = some (x + ((if dep i = 0 then (1 : Int32) else 0) + _))
      rw [if_neg hp, i32_assoc]

theorem v_green (dep : Nat → Int32) : f_X4_greenPlaces dep = some (sumL (fun q => if dep q = 0 then (1 : Int32) else 0) (R 0 20)) := by
  rw [f_X4_greenPlaces]
  exact (l_green dep 20 0 70 0 rfl (by omega)).trans (congrArg some (Int32.zero_add _))
theorem l_green8 (dep : Nat → Int32) : ∀ (j i k : Nat) (x : Int32), i + j = 20 → j < k → f_X8_greenMany_h4 1 dep k x (nI i) = some (x + sumL (fun q => if dep q = 0 then (1 : Int32) else 0) (R i j)) := by
  intro j
  induction j with
  | zero =>
    intro i k x h hk
    obtain ⟨k, rfl⟩ : ∃ z, k = z + 1 := ⟨k - 1, by omega⟩
    have hin : i = 20 := by omega
    subst hin
    rw [f_X8_greenMany_h4, if_pos (show (20 : Int32) ≤ nI 20 from Int32.le_refl _)]
    exact congrArg some (i32_0 x).symm
  | succ j ih =>
    intro i k x h hk
    obtain ⟨k, rfl⟩ : ∃ z, k = z + 1 := ⟨k - 1, by omega⟩
    have hi : i < 20 := by omega
    have cge : ¬ (20 : Int32) ≤ nI i := nI_ge (a := i) (b := 20) hi (by omega)
    have cok : ok (nI i) 20 = true := okT (by omega) (by omega)
    have ctn : (nI i).toNatClampNeg = i := tnI (by omega)
    rw [f_X8_greenMany_h4, if_neg cge]
    rw [if_neg (show ¬ (1 : Int32) = 0 by decide)]
    rw [if_pos cok, ctn, R_cons]
    by_cases hp : dep i = 0
    · rw [if_pos hp, nI_1, ih (i + 1) k _ (by omega) (by omega)]
      show _ = some (x + ((if dep i = 0 then (1 : Int32) else 0) + _))
      rw [if_pos hp, i32_assoc]
    · rw [if_neg hp, nI_1, ih (i + 1) k _ (by omega) (by omega)]
      show _ = some (x + ((if dep i = 0 then (1 : Int32) else 0) + _))
      rw [if_neg hp, i32_assoc]

theorem v_green8 (dep : Nat → Int32) : f_X8_greenMany 1 dep = some (sumL (fun q => if dep q = 0 then (1 : Int32) else 0) (R 0 20)) := by
  rw [f_X8_greenMany]
  exact (l_green8 dep 20 0 70 0 rfl (by omega)).trans (congrArg some (Int32.zero_add _))
theorem l_green80 (dep : Nat → Int32) : ∀ (j i k : Nat) (x : Int32), i + j = 20 → j < k → f_X8_greenMany_h4 0 dep k x (nI i) = some x := by
  intro j
  induction j with
  | zero =>
    intro i k x h hk
    obtain ⟨k, rfl⟩ : ∃ z, k = z + 1 := ⟨k - 1, by omega⟩
    have hin : i = 20 := by omega
    subst hin
    rw [f_X8_greenMany_h4, if_pos (show (20 : Int32) ≤ nI 20 from Int32.le_refl _)]
    
  | succ j ih =>
    intro i k x h hk
    obtain ⟨k, rfl⟩ : ∃ z, k = z + 1 := ⟨k - 1, by omega⟩
    have hi : i < 20 := by omega
    have cge : ¬ (20 : Int32) ≤ nI i := nI_ge (a := i) (b := 20) hi (by omega)
    have cok : ok (nI i) 20 = true := okT (by omega) (by omega)
    have ctn : (nI i).toNatClampNeg = i := tnI (by omega)
    rw [f_X8_greenMany_h4, if_neg cge]
    rw [if_pos (show (0 : Int32) = 0 from rfl), nI_1, ih (i + 1) k _ (by omega) (by omega), i32_0]

theorem v_green80 (dep : Nat → Int32) : f_X8_greenMany 0 dep = some 0 := by
  rw [f_X8_greenMany]
  exact l_green80 dep 20 0 70 0 rfl (by omega)
theorem l_lowestAt {n : Nat} (hn : n ≤ 4) (plc onn : Nat → Int32) (a : Int32) : ∀ (j i k : Nat), i + j = n → j < k → f_X4_lowestAt_h2 (nI n) plc onn a k (nI i) = some (firstL (fun q => plc q = a ∧ onn q = -1) (R i j)) := by
  intro j
  induction j with
  | zero =>
    intro i k  h hk
    obtain ⟨k, rfl⟩ : ∃ z, k = z + 1 := ⟨k - 1, by omega⟩
    have hin : n = i := by omega
    subst hin
    rw [f_X4_lowestAt_h2, if_pos (show (nI n : Int32) ≤ nI n from Int32.le_refl _)]
    rfl
  | succ j ih =>
    intro i k  h hk
    obtain ⟨k, rfl⟩ : ∃ z, k = z + 1 := ⟨k - 1, by omega⟩
    have hi : i < n := by omega
    have cge : ¬ (nI n : Int32) ≤ nI i := nI_ge (a := i) (b := n) hi (by omega)
    have cok : ok (nI i) 5 = true := okT (by omega) (by omega)
    have ctn : (nI i).toNatClampNeg = i := tnI (by omega)
    rw [f_X4_lowestAt_h2, if_neg cge]
    rw [if_pos cok, ctn, nI_1, R_cons]
    show _ = some (if plc i = a ∧ onn i = -1 then nI i else firstL (fun q => plc q = a ∧ onn q = -1) (R (i + 1) j))
    by_cases hp : plc i = a
    · rw [if_pos hp]
      by_cases hq : onn i = -1
      · rw [if_pos hq, if_pos ⟨hp, hq⟩]
      · rw [if_neg hq, if_neg (fun z => hq z.2), ih (i + 1) k (by omega) (by omega)]
    · rw [if_neg hp, if_neg (fun z => hp z.1), ih (i + 1) k (by omega) (by omega)]

theorem v_lowestAt {n : Nat} (hn : n ≤ 4) (plc onn : Nat → Int32) (a : Int32) : f_X4_lowestAt (nI n) plc onn a = some (firstL (fun q => plc q = a ∧ onn q = -1) (R 0 n)) := by
  rw [f_X4_lowestAt]
  exact l_lowestAt hn plc onn a n 0 70 (by omega) (by omega)
theorem l_standsOn {n : Nat} (hn : n ≤ 4) (plc onn : Nat → Int32) (a : Int32) : ∀ (j i k : Nat) (x : Int32), i + j = n → j < k → f_X8_standsOn_h4 (nI n) plc onn a k x (nI i) = some (lastL (fun q => plc q = a ∧ onn q = -1) (R i j) x) := by
  intro j
  induction j with
  | zero =>
    intro i k x h hk
    obtain ⟨k, rfl⟩ : ∃ z, k = z + 1 := ⟨k - 1, by omega⟩
    have hin : n = i := by omega
    subst hin
    rw [f_X8_standsOn_h4, if_pos (show (nI n : Int32) ≤ nI n from Int32.le_refl _)]
    rfl
  | succ j ih =>
    intro i k x h hk
    obtain ⟨k, rfl⟩ : ∃ z, k = z + 1 := ⟨k - 1, by omega⟩
    have hi : i < n := by omega
    have cge : ¬ (nI n : Int32) ≤ nI i := nI_ge (a := i) (b := n) hi (by omega)
    have cok : ok (nI i) 5 = true := okT (by omega) (by omega)
    have ctn : (nI i).toNatClampNeg = i := tnI (by omega)
    rw [f_X8_standsOn_h4, if_neg cge]
    rw [if_pos cok, ctn, nI_1, R_cons]
    show _ = some (lastL (fun q => plc q = a ∧ onn q = -1) (R (i + 1) j) (if plc i = a ∧ onn i = -1 then nI i else x))
    by_cases hp : plc i = a
    · rw [if_pos hp]
      by_cases hq : onn i = -1
      · rw [if_pos hq, if_pos ⟨hp, hq⟩, ih (i + 1) k _ (by omega) (by omega)]
      · rw [if_neg hq, if_neg (fun z => hq z.2), ih (i + 1) k _ (by omega) (by omega)]
    · rw [if_neg hp, if_neg (fun z => hp z.1), ih (i + 1) k _ (by omega) (by omega)]

theorem v_standsOn {n : Nat} (hn : n ≤ 4) (plc onn : Nat → Int32) (a : Int32) : f_X8_standsOn (nI n) plc onn a = some (lastL (fun q => plc q = a ∧ onn q = -1) (R 0 n) (-1)) := by
  rw [f_X8_standsOn]
  exact l_standsOn hn plc onn a n 0 70 (-1) (by omega) (by omega)
theorem l_above {n : Nat} (hn : n ≤ 4) (plc onn : Nat → Int32) (a : Int32) : ∀ (j i k : Nat) (x : Int32), i + j = n → j < k → f_X8_above_h4 (nI n) plc onn a k x (nI i) = some (lastL (fun q => onn q = a ∧ ¬ plc q = -1) (R i j) x) := by
  intro j
  induction j with
  | zero =>
    intro i k x h hk
    obtain ⟨k, rfl⟩ : ∃ z, k = z + 1 := ⟨k - 1, by omega⟩
    have hin : n = i := by omega
    subst hin
    rw [f_X8_above_h4, if_pos (show (nI n : Int32) ≤ nI n from Int32.le_refl _)]
    rfl
  | succ j ih =>
    intro i k x h hk
    obtain ⟨k, rfl⟩ : ∃ z, k = z + 1 := ⟨k - 1, by omega⟩
    have hi : i < n := by omega
    have cge : ¬ (nI n : Int32) ≤ nI i := nI_ge (a := i) (b := n) hi (by omega)
    have cok : ok (nI i) 5 = true := okT (by omega) (by omega)
    have ctn : (nI i).toNatClampNeg = i := tnI (by omega)
    rw [f_X8_above_h4, if_neg cge]
    rw [if_pos cok, ctn, nI_1, R_cons]
    show _ = some (lastL (fun q => onn q = a ∧ ¬ plc q = -1) (R (i + 1) j) (if onn i = a ∧ ¬ plc i = -1 then nI i else x))
    by_cases hp : onn i = a
    · rw [if_pos hp]
      by_cases hq : plc i = -1
      · rw [if_pos hq, if_neg (fun z => z.2 hq), ih (i + 1) k _ (by omega) (by omega)]
      · rw [if_neg hq, if_pos ⟨hp, hq⟩, ih (i + 1) k _ (by omega) (by omega)]
    · rw [if_neg hp, if_neg (fun z => hp z.1), ih (i + 1) k _ (by omega) (by omega)]

theorem v_above {n : Nat} (hn : n ≤ 4) (plc onn : Nat → Int32) (a : Int32) : f_X8_above (nI n) plc onn a = some (lastL (fun q => onn q = a ∧ ¬ plc q = -1) (R 0 n) (-1)) := by
  rw [f_X8_above]
  exact l_above hn plc onn a n 0 70 (-1) (by omega) (by omega)
theorem l_isTopped {n : Nat} (hn : n ≤ 4) (onn : Nat → Int32) (a : Int32) : ∀ (j i k : Nat), i + j = n → j < k → f_X4_isTopped_h2 (nI n) onn a k (nI i) = some (if ∃ q ∈ R i j, onn q = a then (1 : Int32) else 0) := by
  intro j
  induction j with
  | zero =>
    intro i k  h hk
    obtain ⟨k, rfl⟩ : ∃ z, k = z + 1 := ⟨k - 1, by omega⟩
    have hin : n = i := by omega
    subst hin
    rw [f_X4_isTopped_h2, if_pos (show (nI n : Int32) ≤ nI n from Int32.le_refl _)]
    rw [if_neg (fun ⟨q, hq, _⟩ => by cases hq)]
  | succ j ih =>
    intro i k  h hk
    obtain ⟨k, rfl⟩ : ∃ z, k = z + 1 := ⟨k - 1, by omega⟩
    have hi : i < n := by omega
    have cge : ¬ (nI n : Int32) ≤ nI i := nI_ge (a := i) (b := n) hi (by omega)
    have cok : ok (nI i) 5 = true := okT (by omega) (by omega)
    have ctn : (nI i).toNatClampNeg = i := tnI (by omega)
    rw [f_X4_isTopped_h2, if_neg cge]
    rw [if_pos cok, ctn, nI_1, R_cons]
    by_cases hp : onn i = a
    · rw [if_pos hp, if_pos ⟨i, List.mem_cons_self, hp⟩]
    · rw [if_neg hp, ih (i + 1) k (by omega) (by omega)]
      have hiff : (∃ q ∈ R (i + 1) j, onn q = a) ↔ (∃ q ∈ i :: R (i + 1) j, onn q = a) := by
        constructor
        · rintro ⟨q, hq, e⟩; exact ⟨q, List.mem_cons_of_mem _ hq, e⟩
        · rintro ⟨q, hq, e⟩
          rcases List.mem_cons.mp hq with rfl | hq
          · exact absurd e hp
          · exact ⟨q, hq, e⟩
      by_cases hx : ∃ q ∈ R (i + 1) j, onn q = a
      · rw [if_pos hx, if_pos (hiff.mp hx)]
      · rw [if_neg hx, if_neg (fun z => hx (hiff.mpr z))]

theorem v_isTopped {n : Nat} (hn : n ≤ 4) (onn : Nat → Int32) (a : Int32) : f_X4_isTopped (nI n) onn a = some (if ∃ q ∈ R 0 n, onn q = a then (1 : Int32) else 0) := by
  rw [f_X4_isTopped]
  exact l_isTopped hn onn a n 0 70 (by omega) (by omega)
/-! roots -/
theorem root_same (v : Int32) : ∀ (k n : Nat), n + k ≤ 1000 → f_X7_rootOf_h4 v k (nI n) (nI n + 1) = f_X8_root_h2 v k (nI n) := by
  intro k
  induction k with
  | zero => intro n hn; rw [f_X7_rootOf_h4, f_X8_root_h2]
  | succ k ih =>
    intro n hn
    rw [f_X7_rootOf_h4, f_X8_root_h2]
    have e : (1000 : Int32) = nI 1000 := by decide +kernel
    have hb : ¬ (1000 : Int32) < nI n + 1 := by
      rw [e, nI_1]
      exact nI_nlt (by omega) (by omega)
    rw [if_neg hb]
    by_cases h : v < (nI n + 1) * (nI n + 1)
    · rw [if_pos h, if_pos h]
    · rw [if_neg h, if_neg h, nI_1]
      exact ih (n + 1) (by omega)
theorem root_eq (v : Int32) : f_X7_rootOf v = f_X8_root v := by
  rw [f_X7_rootOf, f_X8_root]
  exact root_same v 70 0 (by omega)
theorem l_root (v : Nat) (hv : v < 4000) : ∀ (j i k : Nat), i + j = 64 → j < k → i * i ≤ v → ∃ r, r < 64 ∧ f_X8_root_h2 (nI v) k (nI i) = some (nI r) := by
  intro j
  induction j with
  | zero => intro i k h hk h2; obtain rfl : i = 64 := by omega
            exact absurd h2 (by omega)
  | succ j ih =>
    intro i k h hk h2
    obtain ⟨k, rfl⟩ : ∃ z, k = z + 1 := ⟨k - 1, by omega⟩
    rw [f_X8_root_h2]
    have hm : (i + 1) * (i + 1) ≤ 64 * 64 := Nat.mul_le_mul (by omega) (by omega)
    by_cases hlt : v < (i + 1) * (i + 1)
    · refine ⟨i, by omega, ?_⟩
      rw [if_pos]
      rw [nI_1, pk_mul]
      exact nI_lt hlt (by omega)
    · rw [if_neg]
      · rw [nI_1]
        exact ih (i + 1) k (by omega) (by omega) (by omega)
      · rw [nI_1, pk_mul]
        exact nI_nlt (by omega) (by omega)
def rt (v : Int32) : Int32 := ((f_X8_root v).getD 0)
theorem v_root8 {s : Nat} (hs : s < 4000) : ∃ r, r < 64 ∧ rt (nI s) = nI r ∧ f_X8_root (nI s) = some (rt (nI s)) := by
  obtain ⟨r, h1, h2⟩ := l_root s hs 64 0 70 rfl (by omega) (by omega)
  have h3 : f_X8_root (nI s) = some (nI r) := by rw [f_X8_root]; exact h2
  exact ⟨r, h1, by rw [rt, h3]; rfl, by rw [rt, h3]; rfl⟩
theorem v_root {s : Nat} (hs : s < 4000) : f_X7_rootOf (nI s) = some (rt (nI s)) := by
  obtain ⟨r, -, -, h⟩ := v_root8 hs
  rw [root_eq, h]

theorem l_heightAt {n : Nat} (hn : n ≤ 4) (siz plc : Nat → Int32) (hs : ∀ q, q < n → ∃ s, s < 4000 ∧ siz q = nI s) (a : Int32) : ∀ (j i k : Nat) (x : Int32), i + j = n → j < k → f_X4_heightAt_h4 (nI n) siz plc a k x (nI i) = some (x + sumL (fun q => if plc q = a then rt (siz q) else 0) (R i j)) := by
  intro j
  induction j with
  | zero =>
    intro i k x h hk
    obtain ⟨k, rfl⟩ : ∃ z, k = z + 1 := ⟨k - 1, by omega⟩
    have hin : n = i := by omega
    subst hin
    rw [f_X4_heightAt_h4, if_pos (show (nI n : Int32) ≤ nI n from Int32.le_refl _)]
    exact congrArg some (i32_0 x).symm
  | succ j ih =>
    intro i k x h hk
    obtain ⟨k, rfl⟩ : ∃ z, k = z + 1 := ⟨k - 1, by omega⟩
    have hi : i < n := by omega
    have cge : ¬ (nI n : Int32) ≤ nI i := nI_ge (a := i) (b := n) hi (by omega)
    have cok : ok (nI i) 5 = true := okT (by omega) (by omega)
    have ctn : (nI i).toNatClampNeg = i := tnI (by omega)
    rw [f_X4_heightAt_h4, if_neg cge]
    rw [if_pos cok, ctn, R_cons]
    obtain ⟨s, hs1, hs2⟩ := hs i hi
    by_cases hp : plc i = a
    · rw [if_pos hp, hs2, v_root hs1, Option.bind_some, nI_1, ih (i + 1) k _ (by omega) (by omega)]
      show _ = some (x + ((if plc i = a then rt (siz i) else 0) + _))
      rw [if_pos hp, i32_assoc, hs2]
    · rw [if_neg hp, nI_1, ih (i + 1) k _ (by omega) (by omega)]
      show _ = some (x + ((if plc i = a then rt (siz i) else 0) + _))
      rw [if_neg hp, Int32.zero_add]

theorem v_heightAt {n : Nat} (hn : n ≤ 4) (siz plc : Nat → Int32) (hs : ∀ q, q < n → ∃ s, s < 4000 ∧ siz q = nI s) (a : Int32) : f_X4_heightAt (nI n) siz plc a = some (sumL (fun q => if plc q = a then rt (siz q) else 0) (R 0 n)) := by
  rw [f_X4_heightAt]
  exact (l_heightAt hn siz plc hs a n 0 70 0 (by omega) (by omega)).trans (congrArg some (Int32.zero_add _))
theorem l_heightOf {n : Nat} (hn : n ≤ 4) (siz plc : Nat → Int32) (hs : ∀ q, q < n → ∃ s, s < 4000 ∧ siz q = nI s) (a : Int32) : ∀ (j i k : Nat) (x : Int32), i + j = n → j < k → f_X8_heightOf_h4 (nI n) siz plc a k x (nI i) = some (x + sumL (fun q => if plc q = a then rt (siz q) else 0) (R i j)) := by
  intro j
  induction j with
  | zero =>
    intro i k x h hk
    obtain ⟨k, rfl⟩ : ∃ z, k = z + 1 := ⟨k - 1, by omega⟩
    have hin : n = i := by omega
    subst hin
    rw [f_X8_heightOf_h4, if_pos (show (nI n : Int32) ≤ nI n from Int32.le_refl _)]
    exact congrArg some (i32_0 x).symm
  | succ j ih =>
    intro i k x h hk
    obtain ⟨k, rfl⟩ : ∃ z, k = z + 1 := ⟨k - 1, by omega⟩
    have hi : i < n := by omega
    have cge : ¬ (nI n : Int32) ≤ nI i := nI_ge (a := i) (b := n) hi (by omega)
    have cok : ok (nI i) 5 = true := okT (by omega) (by omega)
    have ctn : (nI i).toNatClampNeg = i := tnI (by omega)
    rw [f_X8_heightOf_h4, if_neg cge]
    rw [if_pos cok, ctn, R_cons]
    obtain ⟨s, hs1, hs2⟩ := hs i hi
    by_cases hp : plc i = a
    · rw [if_pos hp, hs2, (v_root8 hs1).choose_spec.2.2, Option.bind_some, nI_1, ih (i + 1) k _ (by omega) (by omega)]
      show _ = some (x + ((if plc i = a then rt (siz i) else 0) + _))
      rw [if_pos hp, i32_assoc, hs2]
    · rw [if_neg hp, nI_1, ih (i + 1) k _ (by omega) (by omega)]
      show _ = some (x + ((if plc i = a then rt (siz i) else 0) + _))
      rw [if_neg hp, i32_0, Int32.zero_add]

theorem v_heightOf {n : Nat} (hn : n ≤ 4) (siz plc : Nat → Int32) (hs : ∀ q, q < n → ∃ s, s < 4000 ∧ siz q = nI s) (a : Int32) : f_X8_heightOf (nI n) siz plc a = some (sumL (fun q => if plc q = a then rt (siz q) else 0) (R 0 n)) := by
  rw [f_X8_heightOf]
  exact (l_heightOf hn siz plc hs a n 0 70 0 (by omega) (by omega)).trans (congrArg some (Int32.zero_add _))
