/-! what a state of the balls is to be like; rolling -/
theorem upd_same (f : Nat → Int32) (k : Nat) (x : Int32) : upd f k x k = x := pk_us
theorem upd_ne (f : Nat → Int32) {k j : Nat} (x : Int32) (h : j ≠ k) : upd f k x j = f j := pk_un h
theorem upd_upd (f : Nat → Int32) (k : Nat) (x y : Int32) : upd (upd f k x) k y = upd f k y := by
  funext j
  by_cases h : j = k
  · subst h; rw [upd_same, upd_same]
  · rw [upd_ne _ _ h, upd_ne _ _ h, upd_ne _ _ h]
theorem upd_id (f : Nat → Int32) (k : Nat) (x : Int32) (h : f k = x) : upd f k x = f := by
  funext j
  by_cases hj : j = k
  · subst hj; rw [upd_same, h]
  · rw [upd_ne _ _ hj]
def BOK (B k : Nat) (z p o x : Int32) : Prop := k < 5 ∧ ((z = 0 ∧ p = -1 ∧ o = -1) ∨ (∃ s q : Nat, 0 < s ∧ s ≤ B ∧ z = nI s ∧ q < 20 ∧ p = nI q)) ∧ (x = -1 ∨ (k = 1 ∧ (x = 0 ∨ x = 1)))
def AG (S : Nat → Prop) (knd : Nat → Nat) (siz plc onn axs mK mZ mP mO mX : Nat → Int32) : Prop := ∀ i : Nat, S i → mK i = nI (knd i) ∧ mZ i = siz i ∧ mP i = plc i ∧ mO i = onn i ∧ mX i = axs i
def DOK (dep mD : Nat → Int32) : Prop := ∀ p : Nat, p < 20 → ∃ d : Nat, d ≤ 9 ∧ dep p = nI d ∧ mD p = nI d
/-- balls one on the other: whom one stands on is there, at the same place; no ring; one on each at most; one at the bottom of a place at most -/
def STK (n : Nat) (plc onn : Nat → Int32) : Prop :=
  (∀ i : Nat, i < n → ¬ onn i = -1 → ∃ j : Nat, j < n ∧ onn i = nI j ∧ plc j = plc i ∧ ¬ plc i = -1) ∧
  (∃ r : Nat → Nat, ∀ i j : Nat, i < n → j < n → onn i = nI j → r j < r i) ∧
  (∀ i j : Nat, i < n → j < n → ¬ onn i = -1 → onn i = onn j → i = j) ∧
  (∀ i j : Nat, i < n → j < n → onn i = -1 → onn j = -1 → ¬ plc i = -1 → plc i = plc j → i = j)
theorem BOK.alive {B k : Nat} {z p o x : Int32} (h : BOK B k z p o x) (hB : B < 2 ^ 31) : 0 < z ↔ ¬ p = -1 := by
  obtain ⟨-, h | ⟨s, q, h1, h2, h3, h4, h5⟩, -⟩ := h
  · obtain ⟨h1, h2, -⟩ := h
    subst h1; subst h2
    exact ⟨fun q => absurd q (by decide), fun q => absurd rfl q⟩
  · subst h3; subst h5
    exact ⟨fun _ => nI_m1 (by omega), fun _ => nI_lt (a := 0) (by omega) (by omega)⟩
theorem BOK.up {B B' k : Nat} {z p o x : Int32} (h : BOK B k z p o x) (hb : B ≤ B') : BOK B' k z p o x := by
  obtain ⟨h0, h1, h2⟩ := h
  refine ⟨h0, ?_, h2⟩
  rcases h1 with h | ⟨s, q, a, b, c⟩
  · exact Or.inl h
  · exact Or.inr ⟨s, q, a, by omega, c⟩
/-- the least bottom at a place where somebody is -/
theorem STK.bottom {n : Nat} {plc onn : Nat → Int32} (h : STK n plc onn) {i : Nat} (hi : i < n) (hp : ¬ plc i = -1) : ∃ b : Nat, b < n ∧ plc b = plc i ∧ onn b = -1 := by
  obtain ⟨h1, ⟨r, hr⟩, -, -⟩ := h
  have key : ∀ (m : Nat) (i : Nat), r i < m → i < n → ¬ plc i = -1 → ∃ b : Nat, b < n ∧ plc b = plc i ∧ onn b = -1 := by
    intro m
    induction m with
    | zero => intro i h; exact absurd h (by omega)
    | succ m ih =>
      intro i hm hi hp
      by_cases ho : onn i = -1
      · exact ⟨i, hi, rfl, ho⟩
      · obtain ⟨j, hj, e1, e2, e3⟩ := h1 i hi ho
        have hrj := hr i j hi hj e1
        obtain ⟨b, b1, b2, b3⟩ := ih j (by omega) hj (by rw [e2]; exact e3)
        exact ⟨b, b1, b2.trans e2, b3⟩
  exact key (r i + 1) i (by omega) hi hp
/-- one that stands alone: nobody else is at its place -/
theorem STK.alone {n : Nat} {plc onn : Nat → Int32} (h : STK n plc onn) {b : Nat} (hb : b < n) (ho : onn b = -1) (ht : ∀ q : Nat, q < n → ¬ onn q = nI b) (hp : ¬ plc b = -1) : ∀ i : Nat, i < n → plc i = plc b → i = b := by
  obtain ⟨h1, ⟨r, hr⟩, h3, h4⟩ := h
  have key : ∀ (m : Nat) (i : Nat), r i < m → i < n → plc i = plc b → i = b := by
    intro m
    induction m with
    | zero => intro i h; exact absurd h (by omega)
    | succ m ih =>
      intro i hm hi hpi
      by_cases hoi : onn i = -1
      · exact h4 i b hi hb hoi ho (by rw [hpi]; exact hp) hpi
      · obtain ⟨j, hj, e1, e2, e3⟩ := h1 i hi hoi
        have hrj := hr i j hi hj e1
        have hjb := ih j (by omega) hj (e2.trans hpi)
        subst hjb
        exact absurd e1 (ht i hi)
  exact fun i hi hpi => key (r i + 1) i (by omega) hi hpi
/-! what the loops over the balls say -/
theorem lastL_cases (P : Nat → Prop) [DecidablePred P] : ∀ (l : List Nat) (x : Int32), ((∀ q ∈ l, ¬ P q) ∧ lastL P l x = x) ∨ ∃ q ∈ l, P q ∧ lastL P l x = nI q
  | [], x => Or.inl ⟨fun q h => (List.not_mem_nil h).elim, rfl⟩
  | a :: l, x => by
    rcases lastL_cases P l (if P a then nI a else x) with ⟨h1, h2⟩ | ⟨q, h1, h2, h3⟩
    · by_cases hp : P a
      · right
        refine ⟨a, List.mem_cons_self, hp, ?_⟩
        show lastL P l (if P a then nI a else x) = _
        rw [h2, if_pos hp]
      · left
        refine ⟨fun q hq => ?_, ?_⟩
        · rcases List.mem_cons.mp hq with rfl | hq
          · exact hp
          · exact h1 q hq
        · show lastL P l (if P a then nI a else x) = _
          rw [h2, if_neg hp]
    · exact Or.inr ⟨q, List.mem_cons_of_mem _ h1, h2, h3⟩
theorem lastL_m1 (P : Nat → Prop) [DecidablePred P] {n : Nat} (hn : n ≤ 4) : lastL P (R 0 n) (-1) = -1 ↔ ∀ q : Nat, q < n → ¬ P q := by
  rcases lastL_cases P (R 0 n) (-1) with ⟨h1, h2⟩ | ⟨q, h1, h2, h3⟩
  · exact ⟨fun _ q hq => h1 q (R0.mpr hq), fun _ => h2⟩
  · refine ⟨fun h => ?_, fun h => absurd h2 (h q (R0.mp h1))⟩
    rw [h3] at h
    exact absurd h (nI_m1 (by have := R0.mp h1; omega))
theorem sum01 (P : Nat → Prop) [DecidablePred P] : ∀ (l : List Nat), ∃ c : Nat, c ≤ l.length ∧ sumL (fun q => if P q then (1 : Int32) else 0) l = nI c ∧ (c = 0 ↔ ∀ q ∈ l, ¬ P q)
  | [] => ⟨0, Nat.le_refl _, rfl, fun _ q h => (List.not_mem_nil h).elim, fun _ => rfl⟩
  | a :: l => by
    obtain ⟨c, h1, h2, h3⟩ := sum01 P l
    by_cases hp : P a
    · refine ⟨c + 1, by simpa using h1, ?_, fun h => absurd h (by omega), fun h => absurd hp (h a List.mem_cons_self)⟩
      show (if P a then (1 : Int32) else 0) + sumL _ l = _
      rw [if_pos hp, h2, Int32.add_comm, nI_1]
    · refine ⟨c, Nat.le_succ_of_le h1, ?_, fun h q hq => ?_, fun h => h3.mpr fun q hq => h q (List.mem_cons_of_mem _ hq)⟩
      · show (if P a then (1 : Int32) else 0) + sumL _ l = _
        rw [if_neg hp, h2, Int32.zero_add]
      · rcases List.mem_cons.mp hq with rfl | hq
        · exact hp
        · exact h3.mp h q hq
theorem v_isFree {n : Nat} (hn : n ≤ 4) (plc : Nat → Int32) (a : Int32) : ((∀ q : Nat, q < n → ¬ plc q = a) → f_X4_isFree (nI n) plc a = some 1) ∧ ((¬ ∀ q : Nat, q < n → ¬ plc q = a) → f_X4_isFree (nI n) plc a = some 0) := by
  obtain ⟨c, h1, h2, h3⟩ := sum01 (fun q => plc q = a) (R 0 n)
  have hl : c < 2 ^ 31 := by
    have : (R 0 n).length = n := List.length_range'
    omega
  constructor
  · intro h
    have hc : c = 0 := h3.mpr fun q hq => h q (R0.mp hq)
    rw [f_X4_isFree, v_manyAt hn, Option.bind_some, h2, hc, if_pos nI_0]
  · intro h
    have hc : ¬ c = 0 := fun z => h fun q hq => h3.mp z q (R0.mpr hq)
    rw [f_X4_isFree, v_manyAt hn, Option.bind_some, h2, if_neg (nI_ne0 (by omega) hl)]
/-! places beside -/
def bes (p s : Nat) : Int32 := (f_X8_beside (nI p) (nI s)).getD 0
theorem bes_all : ∀ p, p < 20 → ∀ s, s < 4 → f_X7_beside (nI p) (nI s) = some (bes p s) ∧ f_X8_beside (nI p) (nI s) = some (bes p s) ∧ (bes p s = -1 ∨ ∃ q, q < 20 ∧ q ≠ p ∧ bes p s = nI q) := by decide +kernel
theorem nI_even (s : Nat) (h : s < 4) : (nI s - nI s / 2 * 2 : Int32) = nI (s % 2) := pk_rem (d := 2) (by omega) (by decide) (by decide)
/-- whether it can be rolled -/
def CanR (n : Nat) (stg : Int32) (knd : Nat → Nat) (siz plc onn axs : Nat → Int32) (b s : Nat) : Prop :=
  0 < siz b ∧ onn b = -1 ∧ (∀ q : Nat, q < n → ¬ onn q = nI b) ∧ siz b * kf_weightTimes (knd b) ≤ stg ∧ (axs b = -1 ∨ axs b = nI (s % 2)) ∧ ∃ p t : Nat, p < 20 ∧ plc b = nI p ∧ t < 20 ∧ bes p s = nI t ∧ ∀ q : Nat, q < n → ¬ plc q = nI t
theorem v_weightX {knd : Nat → Nat} {siz : Nat → Int32} {b : Nat} (hk : knd b < 5) : f_X1_weight knd siz b = some (siz b * kf_weightTimes (knd b)) := by
  rw [f_X1_weight, if_pos hk, f_X2_weight, Option.bind_some]
theorem wT (z : Int32) : z * 1 = z := Int32.mul_one z
theorem v_weighs {knd : Nat → Nat} {mK mZ : Nat → Int32} {b : Nat} (hb : b < 5) (hk : knd b < 5) (hK : mK b = nI (knd b)) : f_X8_weighs mK mZ (nI b) = some (mZ b * kf_weightTimes (knd b)) := by
  rw [f_X8_weighs, if_pos (okT hb (by omega)), tnI (by omega), hK]
  generalize knd b = k at hk
  match k, hk with
  | 0, _ => rw [if_neg (by decide), if_neg (by decide)]; exact congrArg some (wT _).symm
  | 1, _ => rw [if_neg (by decide), if_neg (by decide)]; exact congrArg some (wT _).symm
  | 2, _ => rw [if_neg (by decide), if_neg (by decide)]; exact congrArg some (wT _).symm
  | 3, _ => rw [if_pos (by decide)]; exact congrArg some (Int32.mul_comm _ _)
  | 4, _ => rw [if_neg (by decide), if_pos (by decide)]; exact congrArg some (Int32.mul_comm _ _)
  | k + 5, h => exact absurd h (by omega)
theorem v_isGone (siz : Nat → Int32) (b : Nat) : f_X1_isGone siz b = some (if 0 < siz b then 0 else 1) := by
  rw [f_X1_isGone]
  by_cases h : 0 < siz b
  · rw [if_pos h, if_pos h]
  · rw [if_neg h, if_neg h]
theorem v_standsAlone {n : Nat} (hn : n ≤ 4) (siz onn : Nat → Int32) {b : Nat} (hb : b < 5) : ((0 < siz b ∧ onn b = -1 ∧ ∀ q : Nat, q < n → ¬ onn q = nI b) → f_X4_standsAlone (nI n) siz onn (nI b) = some 1) ∧ ((¬ (0 < siz b ∧ onn b = -1 ∧ ∀ q : Nat, q < n → ¬ onn q = nI b)) → f_X4_standsAlone (nI n) siz onn (nI b) = some 0) := by
  rw [f_X4_standsAlone, if_pos (okT hb (by omega)), tnI (by omega), v_isGone, Option.bind_some, v_isTopped hn, Option.bind_some]
  have hx : (∃ q ∈ R 0 n, onn q = nI b) ↔ ¬ ∀ q : Nat, q < n → ¬ onn q = nI b := by
    constructor
    · rintro ⟨q, h1, h2⟩ h; exact h q (R0.mp h1) h2
    · intro h
      refine Classical.byContradiction fun z => h fun q hq e => z ⟨q, R0.mpr hq, e⟩
  constructor
  · rintro ⟨h1, h2, h3⟩
    rw [if_pos h1, if_pos rfl, if_pos h2, if_neg (fun z => hx.mp z h3), if_pos rfl]
  · intro h
    by_cases h1 : 0 < siz b
    · rw [if_pos h1, if_pos rfl]
      by_cases h2 : onn b = -1
      · rw [if_pos h2, if_pos (hx.mpr fun z => h ⟨h1, h2, z⟩), if_neg (by decide)]
      · rw [if_neg h2]
    · rw [if_neg h1, if_neg (by decide)]
theorem v_canRoll {n : Nat} (hn : n ≤ 4) {B : Nat} (stg : Int32) (knd : Nat → Nat) (siz plc onn axs : Nat → Int32) {b s : Nat} (hb : b < 5) (hs : s < 4) (hB : BOK B (knd b) (siz b) (plc b) (onn b) (axs b)) (hBl : B < 2 ^ 31) :
    (CanR n stg knd siz plc onn axs b s → f_X4_canRoll (nI n) stg knd siz plc onn axs (nI b) (nI s) = some 1) ∧ (¬ CanR n stg knd siz plc onn axs b s → f_X4_canRoll (nI n) stg knd siz plc onn axs (nI b) (nI s) = some 0) := by
  rw [f_X4_canRoll, if_pos (okT hb (by omega)), tnI (by omega)]
  by_cases hA : 0 < siz b ∧ onn b = -1 ∧ ∀ q : Nat, q < n → ¬ onn q = nI b
  · rw [(v_standsAlone hn siz onn hb).1 hA, Option.bind_some, if_neg (by decide), v_weightX hB.1, Option.bind_some]
    by_cases hw : siz b * kf_weightTimes (knd b) ≤ stg
    · rw [if_neg (Int32.not_lt.mpr hw), f_X1_keepsTo, f_X7_axisOf, Option.bind_some, nI_even s hs]
      have hpl : ¬ plc b = -1 := (hB.alive hBl).mp hA.1
      obtain ⟨-, h | ⟨z, p, -, -, -, hp, e⟩, -⟩ := hB
      · exact absurd h.2.1 hpl
      · obtain ⟨b1, -, b3⟩ := bes_all p hp s hs
        by_cases hx : axs b = -1 ∨ axs b = nI (s % 2)
        · have hk1 : (if axs b = -1 then some (1 : Int32) else if axs b = nI (s % 2) then some 1 else some 0) = some 1 := by
            rcases hx with h | h
            · rw [if_pos h]
            · by_cases h1 : axs b = -1
              · rw [if_pos h1]
              · rw [if_neg h1, if_pos h]
          rw [hk1, Option.bind_some, if_neg (by decide), e, b1, Option.bind_some]
          rcases b3 with b3 | ⟨t, t1, t2, t3⟩
          · rw [if_pos b3]
            refine ⟨fun h => ?_, fun _ => rfl⟩
            obtain ⟨p', t', h1, h2, h3, h4, -⟩ := h.2.2.2.2.2
            have : p' = p := ((nI_eq (by omega) (by omega)).mp (h2.symm.trans e))
            subst this
            rw [b3] at h4
            exact absurd h4.symm (nI_m1 (by omega))
          · rw [if_neg (by rw [t3]; exact nI_m1 (by omega)), t3]
            by_cases hf : ∀ q : Nat, q < n → ¬ plc q = nI t
            · rw [(v_isFree hn plc (nI t)).1 hf, Option.bind_some, if_neg (by decide)]
              exact ⟨fun _ => rfl, fun h => absurd ⟨hA.1, hA.2.1, hA.2.2, hw, hx, p, t, hp, e, t1, t3, hf⟩ h⟩
            · rw [(v_isFree hn plc (nI t)).2 hf, Option.bind_some, if_pos rfl]
              refine ⟨fun h => ?_, fun _ => rfl⟩
              obtain ⟨p', t', h1, h2, h3, h4, h5⟩ := h.2.2.2.2.2
              have : p' = p := ((nI_eq (by omega) (by omega)).mp (h2.symm.trans e))
              subst this
              have : t' = t := ((nI_eq (by omega) (by omega)).mp (h4.symm.trans t3))
              subst this
              exact absurd h5 hf
        · have h1 : ¬ axs b = -1 := fun z => hx (Or.inl z)
          have h2 : ¬ axs b = nI (s % 2) := fun z => hx (Or.inr z)
          rw [if_neg h1, if_neg h2, Option.bind_some, if_pos rfl]
          exact ⟨fun h => absurd h.2.2.2.2.1 hx, fun _ => rfl⟩
    · rw [if_pos (Int32.not_le.mp hw)]
      exact ⟨fun h => absurd h.2.2.2.1 hw, fun _ => rfl⟩
  · rw [(v_standsAlone hn siz onn hb).2 hA, Option.bind_some, if_pos rfl]
    exact ⟨fun h => absurd ⟨h.1, h.2.1, h.2.2.1⟩ hA, fun _ => rfl⟩
