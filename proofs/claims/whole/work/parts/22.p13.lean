/-! the highest of three -/
theorem isIn_all : ∀ s, s < 16 → ∀ p, p < 5 → f_X4_isIn (nI s) (nI p) = some (if Nat.testBit s p = true then 1 else 0) := by decide +kernel
def wOK (stg : Int32) (knd : Nat → Nat) (siz : Nat → Int32) (q : Nat) : Prop := ¬ stg < 2 * (siz q * kf_weightTimes (knd q))
/-- a ball joins the others of a set, those from i on not looked at yet -/
def PJ (n s m : Nat) (stg : Int32) (knd : Nat → Nat) (siz : Nat → Int32) (i : Nat) (E : Prop) : Prop :=
  (∀ x : Nat, i ≤ x → x < n → x ≠ m → Nat.testBit s x = true → ¬ siz x = siz m) ∧ ((E ∨ ∃ x : Nat, i ≤ x ∧ x < n ∧ x ≠ m ∧ Nat.testBit s x = true ∧ siz m < siz x) → wOK stg knd siz m)
theorem PJ.step {n s m : Nat} {stg : Int32} {knd : Nat → Nat} {siz : Nat → Int32} {i : Nat} {E : Prop} (hi : i < n) : PJ n s m stg knd siz i E ↔ ((i ≠ m → Nat.testBit s i = true → ¬ siz i = siz m) ∧ PJ n s m stg knd siz (i + 1) (E ∨ (i ≠ m ∧ Nat.testBit s i = true ∧ siz m < siz i))) := by
  constructor
  · intro ⟨h1, h2⟩
    refine ⟨h1 i (Nat.le_refl _) hi, fun x hx => h1 x (by omega), fun h => h2 ?_⟩
    rcases h with (h | ⟨a, b, c⟩) | ⟨x, x1, x2⟩
    · exact Or.inl h
    · exact Or.inr ⟨i, Nat.le_refl _, hi, a, b, c⟩
    · exact Or.inr ⟨x, by omega, x2⟩
  · intro ⟨h1, h2, h3⟩
    refine ⟨fun x hx => ?_, fun h => h3 ?_⟩
    · by_cases hxi : x = i
      · subst hxi; exact fun _ => h1
      · exact h2 x (by omega)
    · rcases h with h | ⟨x, x1, x2, x3⟩
      · exact Or.inl (Or.inl h)
      · by_cases hxi : x = i
        · subst hxi; exact Or.inl (Or.inr x3)
        · exact Or.inr ⟨x, by omega, x2, x3⟩
theorem PJ.congr {n s m : Nat} {stg : Int32} {knd : Nat → Nat} {siz : Nat → Int32} {i : Nat} {E F : Prop} (h : E ↔ F) : PJ n s m stg knd siz i E ↔ PJ n s m stg knd siz i F := by rw [h]
theorem l_join {n s m : Nat} (hn : n ≤ 4) (hs : s < 16) (hm : m < n) (stg : Int32) (knd : Nat → Nat) (siz : Nat → Int32) (hk : knd m < 5) : ∀ (j i k : Nat) (x : Int32), i + j = n → j < k → (x = 0 ∨ x = 1) → (PJ n s m stg knd siz i (x = 0) → f_X4_couldJoin_h5 (nI n) stg knd siz (nI s) (nI m) k x (nI i) = some 1) ∧ (¬ PJ n s m stg knd siz i (x = 0) → f_X4_couldJoin_h5 (nI n) stg knd siz (nI s) (nI m) k x (nI i) = some 0) := by
  intro j
  induction j with
  | zero =>
    intro i k x h hk1 hx
    obtain ⟨k, rfl⟩ : ∃ z, k = z + 1 := ⟨k - 1, by omega⟩
    have hin : n = i := by omega
    subst hin
    have cok : ok (nI m) 5 = true := okT (by omega) (by omega)
    rw [f_X4_couldJoin_h5, if_pos (Int32.le_refl _)]
    by_cases h0 : x = 0
    · rw [if_pos h0, if_pos cok, tnI (by omega), v_weightX hk, Option.bind_some]
      constructor
      · intro hp
        exact if_neg (hp.2 (Or.inl h0))
      · intro hp
        refine if_pos (Classical.byContradiction fun hc => hp ⟨fun x h1 h2 => absurd h2 (by omega), fun _ => hc⟩)
    · rw [if_neg h0]
      refine ⟨fun _ => rfl, fun hp => absurd ⟨fun x h1 h2 => absurd h2 (by omega), fun h => ?_⟩ hp⟩
      rcases h with h | ⟨x, x1, x2, -⟩
      · exact absurd h h0
      · omega
  | succ j ih =>
    intro i k x h hk1 hx
    obtain ⟨k, rfl⟩ : ∃ z, k = z + 1 := ⟨k - 1, by omega⟩
    have hi : i < n := by omega
    have cge : ¬ nI n ≤ nI i := nI_ge hi (by omega)
    have cok : ok (nI i) 5 = true := okT (by omega) (by omega)
    have cokm : ok (nI m) 5 = true := okT (by omega) (by omega)
    have I0 := ih (i + 1) k x (by omega) (by omega) hx
    have I1 := ih (i + 1) k 0 (by omega) (by omega) (Or.inl rfl)
    rw [f_X4_couldJoin_h5, if_neg cge, nI_1, PJ.step hi]
    by_cases him : i = m
    · subst him
      have e : ((i ≠ i → Nat.testBit s i = true → ¬ siz i = siz i) ∧ PJ n s i stg knd siz (i + 1) (x = 0 ∨ (i ≠ i ∧ Nat.testBit s i = true ∧ siz i < siz i))) ↔ PJ n s i stg knd siz (i + 1) (x = 0) :=
        ⟨fun h => (PJ.congr ⟨fun q => q.resolve_right fun z => z.1 rfl, Or.inl⟩).mp h.2, fun h => ⟨fun q => absurd rfl q, (PJ.congr ⟨fun q => q.resolve_right fun z => z.1 rfl, Or.inl⟩).mpr h⟩⟩
      rw [if_pos rfl, e]; exact I0
    · have hne : ¬ nI i = nI m := fun q => him ((nI_eq (by omega) (by omega)).mp q)
      rw [if_neg hne, isIn_all s hs i (by omega), Option.bind_some]
      by_cases hb : Nat.testBit s i = true
      · rw [if_pos hb, if_neg i10, if_pos cok, if_pos cokm, tnI (by omega), tnI (by omega)]
        by_cases he : siz i = siz m
        · rw [if_pos he]
          exact ⟨fun q => absurd he (q.1 him hb), fun _ => rfl⟩
        · rw [if_neg he]
          by_cases hl : siz i ≤ siz m
          · rw [if_pos hl]
            have hnl : ¬ siz m < siz i := Int32.not_lt.mpr hl
            have e : ((i ≠ m → Nat.testBit s i = true → ¬ siz i = siz m) ∧ PJ n s m stg knd siz (i + 1) (x = 0 ∨ (i ≠ m ∧ Nat.testBit s i = true ∧ siz m < siz i))) ↔ PJ n s m stg knd siz (i + 1) (x = 0) :=
              ⟨fun h => (PJ.congr ⟨fun q => q.resolve_right fun z => hnl z.2.2, Or.inl⟩).mp h.2, fun h => ⟨fun _ _ => he, (PJ.congr ⟨fun q => q.resolve_right fun z => hnl z.2.2, Or.inl⟩).mpr h⟩⟩
            rw [e]; exact I0
          · rw [if_neg hl]
            have hll : siz m < siz i := Int32.not_le.mp hl
            have e : ((i ≠ m → Nat.testBit s i = true → ¬ siz i = siz m) ∧ PJ n s m stg knd siz (i + 1) (x = 0 ∨ (i ≠ m ∧ Nat.testBit s i = true ∧ siz m < siz i))) ↔ PJ n s m stg knd siz (i + 1) ((0 : Int32) = 0) :=
              ⟨fun h => (PJ.congr ⟨fun _ => rfl, fun _ => Or.inr ⟨him, hb, hll⟩⟩).mp h.2, fun h => ⟨fun _ _ => he, (PJ.congr ⟨fun _ => rfl, fun _ => Or.inr ⟨him, hb, hll⟩⟩).mpr h⟩⟩
            rw [e]; exact I1
      · rw [if_neg hb, if_pos i00]
        have e : ((i ≠ m → Nat.testBit s i = true → ¬ siz i = siz m) ∧ PJ n s m stg knd siz (i + 1) (x = 0 ∨ (i ≠ m ∧ Nat.testBit s i = true ∧ siz m < siz i))) ↔ PJ n s m stg knd siz (i + 1) (x = 0) :=
          ⟨fun h => (PJ.congr ⟨fun q => q.resolve_right fun z => hb z.2.1, Or.inl⟩).mp h.2, fun h => ⟨fun _ q => absurd q hb, (PJ.congr ⟨fun q => q.resolve_right fun z => hb z.2.1, Or.inl⟩).mpr h⟩⟩
        rw [e]; exact I0
/-- a set stacks, as the program asks it -/
def PS (n s : Nat) (stg : Int32) (knd : Nat → Nat) (siz : Nat → Int32) (i : Nat) : Prop := ∀ p : Nat, i ≤ p → p < n → Nat.testBit s p = true → 0 < siz p ∧ PJ n s p stg knd siz 0 ((1 : Int32) = 0)
theorem l_stack {n s : Nat} (hn : n ≤ 4) (hs : s < 16) (stg : Int32) (knd : Nat → Nat) (siz : Nat → Int32) (hk : ∀ q : Nat, q < n → knd q < 5) : ∀ (j i k : Nat), i + j = n → j < k → (PS n s stg knd siz i → f_X4_couldStack_h2 (nI n) stg knd siz (nI s) k (nI i) = some 1) ∧ (¬ PS n s stg knd siz i → f_X4_couldStack_h2 (nI n) stg knd siz (nI s) k (nI i) = some 0) := by
  intro j
  induction j with
  | zero =>
    intro i k h hk1
    obtain ⟨k, rfl⟩ : ∃ z, k = z + 1 := ⟨k - 1, by omega⟩
    have hin : n = i := by omega
    subst hin
    rw [f_X4_couldStack_h2, if_pos (Int32.le_refl _)]
    exact ⟨fun _ => rfl, fun hp => absurd (fun p h1 h2 => absurd h2 (by omega)) hp⟩
  | succ j ih =>
    intro i k h hk1
    obtain ⟨k, rfl⟩ : ∃ z, k = z + 1 := ⟨k - 1, by omega⟩
    have hi : i < n := by omega
    have cge : ¬ nI n ≤ nI i := nI_ge hi (by omega)
    have cok : ok (nI i) 5 = true := okT (by omega) (by omega)
    have I0 := ih (i + 1) k (by omega) (by omega)
    have st : PS n s stg knd siz i ↔ ((Nat.testBit s i = true → 0 < siz i ∧ PJ n s i stg knd siz 0 ((1 : Int32) = 0)) ∧ PS n s stg knd siz (i + 1)) :=
      ⟨fun h => ⟨h i (Nat.le_refl _) hi, fun p hp => h p (by omega)⟩, fun h p hp hpn => by
        by_cases hpi : p = i
        · subst hpi; exact h.1
        · exact h.2 p (by omega) hpn⟩
    rw [f_X4_couldStack_h2, if_neg cge, isIn_all s hs i (by omega), Option.bind_some, nI_1, st]
    by_cases hb : Nat.testBit s i = true
    · rw [if_pos hb, if_neg i10, if_pos cok, tnI (by omega), v_isGone, Option.bind_some]
      by_cases hz : 0 < siz i
      · have J := l_join hn hs hi stg knd siz (hk i hi) n 0 70 1 (by omega) (by omega) (Or.inr rfl)
        rw [if_pos hz, if_pos i00, f_X4_couldJoin]
        by_cases hj : PJ n s i stg knd siz 0 ((1 : Int32) = 0)
        · have e := J.1 hj
          replace e : f_X4_couldJoin_h5 (nI n) stg knd siz (nI s) (nI i) 70 1 0 = some 1 := e
          rw [e, Option.bind_some, if_neg i10]
          exact ⟨fun h => I0.1 h.2, fun h => I0.2 fun q => h ⟨fun _ => ⟨hz, hj⟩, q⟩⟩
        · have e := J.2 hj
          replace e : f_X4_couldJoin_h5 (nI n) stg knd siz (nI s) (nI i) 70 1 0 = some 0 := e
          rw [e, Option.bind_some, if_pos i00]
          exact ⟨fun h => absurd (h.1 hb).2 hj, fun _ => rfl⟩
      · rw [if_neg hz, if_neg i10]
        exact ⟨fun h => absurd (h.1 hb).1 hz, fun _ => rfl⟩
    · rw [if_neg hb, if_pos i00]
      exact ⟨fun h => I0.1 h.2, fun h => I0.2 fun q => h ⟨fun z => absurd z hb, q⟩⟩
theorem v_stack {n s : Nat} (hn : n ≤ 4) (hs : s < 16) (stg : Int32) (knd : Nat → Nat) (siz : Nat → Int32) (hk : ∀ q : Nat, q < n → knd q < 5) : (PS n s stg knd siz 0 → f_X4_couldStack (nI n) stg knd siz (nI s) = some 1) ∧ (¬ PS n s stg knd siz 0 → f_X4_couldStack (nI n) stg knd siz (nI s) = some 0) :=
  l_stack hn hs stg knd siz hk n 0 70 (by omega) (by omega)
/-- a set's height -/
def hN (s : Nat) (r : Nat → Nat) : List Nat → Nat
  | [] => 0
  | q :: l => (if Nat.testBit s q = true then r q else 0) + hN s r l
theorem l_heightAll {n s : Nat} (hn : n ≤ 4) (hs : s < 16) {siz : Nat → Int32} {r : Nat → Nat} (hr : ∀ q : Nat, q < n → f_X7_rootOf (siz q) = some (nI (r q))) : ∀ (j i k x : Nat), i + j = n → j < k → f_X4_heightOfAll_h4 (nI n) siz (nI s) k (nI x) (nI i) = some (nI (x + hN s r (R i j))) := by
  intro j
  induction j with
  | zero =>
    intro i k x h hk1
    obtain ⟨k, rfl⟩ : ∃ z, k = z + 1 := ⟨k - 1, by omega⟩
    have hin : n = i := by omega
    subst hin
    rw [f_X4_heightOfAll_h4, if_pos (Int32.le_refl _)]; rfl
  | succ j ih =>
    intro i k x h hk1
    obtain ⟨k, rfl⟩ : ∃ z, k = z + 1 := ⟨k - 1, by omega⟩
    have hi : i < n := by omega
    have cge : ¬ nI n ≤ nI i := nI_ge hi (by omega)
    have cok : ok (nI i) 5 = true := okT (by omega) (by omega)
    rw [f_X4_heightOfAll_h4, if_neg cge, isIn_all s hs i (by omega), Option.bind_some, nI_1, R_cons, hN]
    by_cases hb : Nat.testBit s i = true
    · rw [if_pos hb, if_pos hb, if_neg i10, if_pos cok, tnI (by omega), hr i hi, Option.bind_some, nI_add, ih (i + 1) k _ (by omega) (by omega), Nat.add_assoc]
    · rw [if_neg hb, if_neg hb, if_pos i00, ih (i + 1) k _ (by omega) (by omega), Nat.zero_add]
theorem v_heightAll {n s : Nat} (hn : n ≤ 4) (hs : s < 16) {siz : Nat → Int32} {r : Nat → Nat} (hr : ∀ q : Nat, q < n → f_X7_rootOf (siz q) = some (nI (r q))) : f_X4_heightOfAll (nI n) siz (nI s) = some (nI (hN s r (R 0 n))) := by
  have e := l_heightAll hn hs hr n 0 70 0 (by omega) (by omega)
  rw [Nat.zero_add] at e
  rw [f_X4_heightOfAll]; exact e
def c3 (s : Nat) : Prop := f_J6_bitCount_0f7a4 (nI s) = some 3
theorem c3_all : ∀ s, s < 16 → (∃ c, c < 5 ∧ f_J6_bitCount_0f7a4 (nI s) = some (nI c) ∧ (c = 3 ↔ s = 7 ∨ s = 11 ∨ s = 13 ∨ s = 14)) := by decide +kernel
theorem sh_all : ∀ n, n < 5 → ((1 : Int32) <<< (nI n &&& 31)) = nI (2 ^ n) := by decide +kernel
def QS (n : Nat) (stg : Int32) (knd : Nat → Nat) (siz : Nat → Int32) (s : Nat) : Prop := (s = 7 ∨ s = 11 ∨ s = 13 ∨ s = 14) ∧ s < 2 ^ n ∧ PS n s stg knd siz 0
def BX (n : Nat) (stg : Int32) (knd : Nat → Nat) (siz : Nat → Int32) (r : Nat → Nat) (i : Nat) (x1 x2 : Int32) : Prop :=
  (x1 = -1 ∧ ∀ s : Nat, s < i → ¬ QS n stg knd siz s) ∨ ∃ s : Nat, s < i ∧ QS n stg knd siz s ∧ x1 = nI s ∧ x2 = nI (hN s r (R 0 n)) ∧ ∀ d : Nat, d < i → QS n stg knd siz d → hN d r (R 0 n) < hN s r (R 0 n) ∨ (hN d r (R 0 n) = hN s r (R 0 n) ∧ s ≤ d)
theorem hN_lt {s : Nat} {r : Nat → Nat} {M : Nat} : ∀ {l : List Nat}, (∀ q ∈ l, r q < M) → hN s r l ≤ l.length * M
  | [], _ => Nat.zero_le _
  | q :: l, h => by
    have h1 := hN_lt (s := s) (r := r) (M := M) (l := l) fun q hq => h q (List.mem_cons_of_mem _ hq)
    have h2 := h q (List.mem_cons_self ..)
    rw [hN, List.length_cons, Nat.add_mul, Nat.one_mul]
    split <;> omega
theorem R_len (i j : Nat) : (R i j).length = j := by
  induction j generalizing i with
  | zero => rfl
  | succ j ih => rw [R_cons, List.length_cons, ih]
theorem l_high {n : Nat} (hn : n ≤ 4) {stg : Int32} {knd : Nat → Nat} {siz : Nat → Int32} (hk : ∀ q : Nat, q < n → knd q < 5) {r : Nat → Nat} (hr : ∀ q : Nat, q < n → f_X7_rootOf (siz q) = some (nI (r q)) ∧ r q < 64) : ∀ (j i k : Nat) (x1 x2 : Int32), i + j = 2 ^ n → j < k → BX n stg knd siz r i x1 x2 → ∃ y1 y2 : Int32, f_X4_highestThree_h6 (nI n) stg knd siz k x1 x2 (nI i) = some y1 ∧ BX n stg knd siz r (2 ^ n) y1 y2 := by
  have p16 : 2 ^ n ≤ 16 := Nat.pow_le_pow_right (n := 2) (by decide) hn
  intro j
  induction j with
  | zero =>
    intro i k x1 x2 h hk1 hB
    obtain ⟨k, rfl⟩ : ∃ z, k = z + 1 := ⟨k - 1, by omega⟩
    have hin : i = 2 ^ n := by omega
    rw [f_X4_highestThree_h6, sh_all n (by omega), hin, if_pos (Int32.le_refl _)]
    exact ⟨x1, x2, rfl, hin ▸ hB⟩
  | succ j ih =>
    intro i k x1 x2 h hk1 hB
    obtain ⟨k, rfl⟩ : ∃ z, k = z + 1 := ⟨k - 1, by omega⟩
    have hi : i < 2 ^ n := by omega
    have cge : ¬ nI (2 ^ n) ≤ nI i := nI_ge hi (by omega)
    obtain ⟨c, c5, hc, hc3⟩ := c3_all i (by omega)
    have keep : ¬ QS n stg knd siz i → BX n stg knd siz r (i + 1) x1 x2 := fun hq => by
      rcases hB with ⟨b1, b2⟩ | ⟨s, s1, s2, s3, s4, s5⟩
      · refine Or.inl ⟨b1, fun s hs => ?_⟩
        by_cases hsi : s = i
        · subst hsi; exact hq
        · exact b2 s (by omega)
      · refine Or.inr ⟨s, by omega, s2, s3, s4, fun d hd => ?_⟩
        by_cases hsi : d = i
        · subst hsi; exact fun z => absurd z hq
        · exact s5 d (by omega)
    rw [f_X4_highestThree_h6, sh_all n (by omega), if_neg cge, hc, Option.bind_some, nI_1]
    by_cases h3 : c = 3
    · rw [if_pos (show nI c = 3 by rw [h3]; rfl)]
      have S := v_stack (s := i) hn (by omega) stg knd siz hk
      by_cases hp : PS n i stg knd siz 0
      · have hQ : QS n stg knd siz i := ⟨hc3.mp h3, hi, hp⟩
        have hB2 : hN i r (R 0 n) < 2 ^ 20 := by
          have := hN_lt (s := i) (r := r) (M := 64) (l := R 0 n) fun q hq => (hr q (R0.mp hq)).2
          rw [R_len] at this
          omega
        have new : (∀ d : Nat, d < i → QS n stg knd siz d → hN d r (R 0 n) < hN i r (R 0 n)) → BX n stg knd siz r (i + 1) (nI i) (nI (hN i r (R 0 n))) := fun hh => by
          refine Or.inr ⟨i, by omega, hQ, rfl, rfl, fun d hd hq => ?_⟩
          by_cases hdi : d = i
          · subst hdi; exact Or.inr ⟨rfl, Nat.le_refl _⟩
          · exact Or.inl (hh d (by omega) hq)
        rw [S.1 hp, Option.bind_some, if_neg i10, v_heightAll hn (by omega) fun q hq => (hr q hq).1, Option.bind_some]
        rcases hB with ⟨b1, b2⟩ | ⟨s, s1, s2, s3, s4, s5⟩
        · rw [if_pos b1]
          exact ih (i + 1) k _ _ (by omega) (by omega) (new fun d hd hq => absurd hq (b2 d hd))
        · have hsB : hN s r (R 0 n) < 2 ^ 20 := by
            have := hN_lt (s := s) (r := r) (M := 64) (l := R 0 n) fun q hq => (hr q (R0.mp hq)).2
            rw [R_len] at this
            omega
          subst s3; subst s4
          rw [if_neg (nI_m1 (by omega))]
          by_cases hle : hN i r (R 0 n) ≤ hN s r (R 0 n)
          · rw [if_pos ((nI_leI (by omega) (by omega)).mpr hle)]
            refine ih (i + 1) k _ _ (by omega) (by omega) (Or.inr ⟨s, by omega, s2, rfl, rfl, fun d hd hq => ?_⟩)
            by_cases hdi : d = i
            · subst hdi; omega
            · exact s5 d (by omega) hq
          · rw [if_neg (fun z => hle ((nI_leI (by omega) (by omega)).mp z))]
            refine ih (i + 1) k _ _ (by omega) (by omega) (new fun d hd hq => ?_)
            rcases s5 d hd hq with z | z <;> omega
      · rw [S.2 hp, Option.bind_some, if_pos i00]
        exact ih (i + 1) k _ _ (by omega) (by omega) (keep fun q => hp q.2.2)
    · rw [if_neg (show ¬ nI c = 3 from fun q => h3 ((nI_eq (b := 3) (by omega) (by omega)).mp q))]
      exact ih (i + 1) k _ _ (by omega) (by omega) (keep fun q => h3 (hc3.mpr q.1))
