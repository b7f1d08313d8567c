/-! the reference's way of it -/
/-- what is to hold of the balls so that both sides speak of the same: n balls, and the one that is rolled -/
def OKS (B n b : Nat) (knd : Nat → Nat) (siz plc onn axs : Nat → Int32) : Prop :=
  n ≤ 4 ∧ b < 5 ∧ B < 2 ^ 20 ∧ (∀ i : Nat, (i < n ∨ i = b) → BOK B (knd i) (siz i) (plc i) (onn i) (axs i)) ∧ STK n plc onn
theorem v_above0 {B n b : Nat} {knd : Nat → Nat} {siz plc onn axs : Nat → Int32} (h : OKS B n b knd siz plc onn axs) {mK mZ mP mO mX : Nat → Int32} (hg : AG (fun i => i < n ∨ i = b) knd siz plc onn axs mK mZ mP mO mX) (a : Nat) (ha : a < 5) : ∃ x : Int32, f_X8_above (nI n) mP mO (nI a) = some x ∧ (x = -1 ↔ ∀ q : Nat, q < n → ¬ onn q = nI a) := by
  obtain ⟨hn, hb, hB, hk, -⟩ := h
  refine ⟨_, v_above hn mP mO (nI a), ?_⟩
  rw [lastL_m1 _ hn]
  constructor
  · intro h q hq e
    obtain ⟨-, -, g3, g4, -⟩ := hg q (Or.inl hq)
    refine h q hq ⟨by rw [g4]; exact e, ?_⟩
    rw [g3]
    intro z
    obtain ⟨-, ⟨-, -, y⟩ | ⟨s, p, -, -, -, y1, y2⟩, -⟩ := hk q (Or.inl hq)
    · rw [y] at e; exact nI_m1 (by omega) e.symm
    · rw [y2] at z; exact nI_m1 (by omega) z
  · intro h q hq e
    obtain ⟨-, -, -, g4, -⟩ := hg q (Or.inl hq)
    exact h q hq (by rw [← g4]; exact e.1)
theorem v_isFree8 {B n b : Nat} {knd : Nat → Nat} {siz plc onn axs : Nat → Int32} (h : OKS B n b knd siz plc onn axs) {mK mZ mP mO mX : Nat → Int32} (hg : AG (fun i => i < n ∨ i = b) knd siz plc onn axs mK mZ mP mO mX) {a : Nat} (ha : a < n ∨ a = b) : ((0 < siz a ∧ onn a = -1 ∧ ∀ q : Nat, q < n → ¬ onn q = nI a) → f_X8_isFree (nI n) mP mO (nI a) = some 1) ∧ ((¬ (0 < siz a ∧ onn a = -1 ∧ ∀ q : Nat, q < n → ¬ onn q = nI a)) → f_X8_isFree (nI n) mP mO (nI a) = some 0) := by
  have ha5 : a < 5 := by have h1 := h.1; have h2 := h.2.1; omega
  obtain ⟨x, x1, x2⟩ := v_above0 h hg a ha5
  obtain ⟨hn, hb, hB, hk, -⟩ := h
  obtain ⟨-, -, g3, g4, -⟩ := hg a ha
  have hal := (hk a ha).alive (by omega)
  rw [f_X8_isFree, if_pos (okT ha5 (by omega)), tnI (by omega), g3, g4, x1, Option.bind_some]
  constructor
  · rintro ⟨h1, h2, h3⟩
    rw [if_neg (hal.mp h1), if_pos h2, if_pos (x2.mpr h3)]
  · intro hh
    by_cases h1 : plc a = -1
    · rw [if_pos h1]
    · rw [if_neg h1]
      by_cases h2 : onn a = -1
      · rw [if_pos h2, if_neg (fun z => hh ⟨hal.mpr h1, h2, x2.mp z⟩)]
      · rw [if_neg h2]
theorem v_stand0 {n : Nat} (hn : n ≤ 4) {plc onn mP mO : Nat → Int32} (hs : STK n plc onn) (hg : ∀ i : Nat, i < n → mP i = plc i ∧ mO i = onn i) (t : Nat) (ht : t < 20) : ∃ x : Int32, f_X8_standsOn (nI n) mP mO (nI t) = some x ∧ (x = -1 ↔ ∀ q : Nat, q < n → ¬ plc q = nI t) := by
  refine ⟨_, v_standsOn hn mP mO (nI t), ?_⟩
  rw [lastL_m1 _ hn]
  constructor
  · intro h q hq e
    obtain ⟨b, b1, b2, b3⟩ := hs.bottom hq (by rw [e]; exact nI_m1 (by omega))
    obtain ⟨g1, g2⟩ := hg b b1
    exact h b b1 ⟨by rw [g1, b2, e], by rw [g2, b3]⟩
  · rintro h q hq ⟨e, -⟩
    exact h q hq (by rw [← (hg q hq).1]; exact e)
theorem v_mayRoll {B n b s : Nat} {stg : Int32} {knd : Nat → Nat} {siz plc onn axs : Nat → Int32} (h : OKS B n b knd siz plc onn axs) {mK mZ mP mO mX : Nat → Int32} (hg : AG (fun i => i < n ∨ i = b) knd siz plc onn axs mK mZ mP mO mX) {a : Nat} (ha : a < n ∨ a = b) (hs : s < 4) :
    (CanR n stg knd siz plc onn axs a s → f_X8_mayRoll stg (nI n) mK mZ mP mO mX (nI a) (nI s) = some 1) ∧ (¬ CanR n stg knd siz plc onn axs a s → f_X8_mayRoll stg (nI n) mK mZ mP mO mX (nI a) (nI s) = some 0) := by
  have ha5 : a < 5 := by have h1 := h.1; have h2 := h.2.1; omega
  have hfree := v_isFree8 h hg ha
  obtain ⟨hn, hb, hB, hk, hstk⟩ := h
  obtain ⟨g1, g2, g3, g4, g5⟩ := hg a ha
  have hBa := hk a ha
  have hst := v_stand0 hn (mP := mP) (mO := mO) hstk (fun i hi => ⟨(hg i (Or.inl hi)).2.2.1, (hg i (Or.inl hi)).2.2.2.1⟩)
  rw [f_X8_mayRoll]
  by_cases hA : 0 < siz a ∧ onn a = -1 ∧ ∀ q : Nat, q < n → ¬ onn q = nI a
  · rw [hfree.1 hA, Option.bind_some, if_neg (by decide), v_weighs ha5 hBa.1 g1, Option.bind_some, g2]
    by_cases hw : siz a * kf_weightTimes (knd a) ≤ stg
    · rw [if_pos hw, if_pos (okT ha5 (by omega)), tnI (by omega), g3, g5, nI_even s hs]
      have hpl : ¬ plc a = -1 := (hBa.alive (by omega)).mp hA.1
      have hB2 := hBa
      obtain ⟨-, h | ⟨z, p, -, -, -, hp, e⟩, hxa⟩ := hBa
      · exact absurd h.2.1 hpl
      · obtain ⟨-, b2, b3⟩ := bes_all p hp s hs
        rw [e, b2, Option.bind_some, g1]
        -- what the place asks
        have key : ∀ (X Y : Int32), (CanR n stg knd siz plc onn axs a s ↔ ((axs a = -1 ∨ axs a = nI (s % 2)) ∧ ∃ t : Nat, t < 20 ∧ bes p s = nI t ∧ ∀ q : Nat, q < n → ¬ plc q = nI t)) := by
          intro X Y
          constructor
          · rintro ⟨-, -, -, -, hx, p', t, h1, h2, h3, h4, h5⟩
            have : p' = p := ((nI_eq (by omega) (by omega)).mp (h2.symm.trans e))
            subst this
            exact ⟨hx, t, h3, h4, h5⟩
          · rintro ⟨hx, t, h3, h4, h5⟩
            exact ⟨hA.1, hA.2.1, hA.2.2, hw, hx, p, t, hp, e, h3, h4, h5⟩
        have key := key 0 0
        have look : ∀ X : Option Int32, ((∃ t : Nat, t < 20 ∧ bes p s = nI t ∧ ∀ q : Nat, q < n → ¬ plc q = nI t) → (if bes p s = -1 then some (0 : Int32) else (f_X8_standsOn (nI n) mP mO (bes p s)).bind fun r => if r = -1 then some 1 else some 0) = some 1) ∧ ((¬ ∃ t : Nat, t < 20 ∧ bes p s = nI t ∧ ∀ q : Nat, q < n → ¬ plc q = nI t) → (if bes p s = -1 then some (0 : Int32) else (f_X8_standsOn (nI n) mP mO (bes p s)).bind fun r => if r = -1 then some 1 else some 0) = some 0) := by
          intro X
          rcases b3 with b3 | ⟨t, t1, t2, t3⟩
          · rw [if_pos b3]
            refine ⟨?_, fun _ => rfl⟩
            rintro ⟨t, t1, t2, -⟩
            rw [b3] at t2
            exact absurd t2.symm (nI_m1 (by omega))
          · obtain ⟨x, x1, x2⟩ := hst t t1
            rw [if_neg (by rw [t3]; exact nI_m1 (by omega)), t3, x1, Option.bind_some]
            constructor
            · rintro ⟨t', h1, h2, h3⟩
              have : t' = t := ((nI_eq (by omega) (by omega)).mp (h2.symm))
              subst this
              rw [if_pos (x2.mpr h3)]
            · intro hh
              rw [if_neg (fun z => hh ⟨t, t1, rfl, x2.mp z⟩)]
        have look := look none
        by_cases hk1 : knd a = 1
        · rw [if_pos (show nI (knd a) = 1 by rw [hk1]; rfl)]
          by_cases hx1 : axs a = -1
          · rw [if_pos hx1]
            exact ⟨fun h => look.1 (key.mp h).2, fun h => look.2 fun z => h (key.mpr ⟨Or.inl hx1, z⟩)⟩
          · rw [if_neg hx1]
            by_cases hx2 : axs a = nI (s % 2)
            · rw [if_pos hx2]
              exact ⟨fun h => look.1 (key.mp h).2, fun h => look.2 fun z => h (key.mpr ⟨Or.inr hx2, z⟩)⟩
            · rw [if_neg hx2]
              refine ⟨fun h => absurd (key.mp h).1 (fun z => z.elim hx1 hx2), fun _ => ?_⟩
              rcases b3 with b3 | ⟨t, t1, t2, t3⟩
              · rw [if_pos b3]
              · obtain ⟨x, x1, x2⟩ := hst t t1
                rw [if_neg (by rw [t3]; exact nI_m1 (by omega)), t3, x1, Option.bind_some]
                by_cases hx : x = -1
                · rw [if_pos hx]
                · rw [if_neg hx]
        · rw [if_neg (show ¬ nI (knd a) = 1 from fun z => hk1 ((nI_eq (a := knd a) (b := 1) (by have := hB2.1; omega) (by omega)).mp z))]
          have hx1 : axs a = -1 := by
            rcases hxa with h | ⟨h, -⟩
            · exact h
            · exact absurd h hk1
          exact ⟨fun h => look.1 (key.mp h).2, fun h => look.2 fun z => h (key.mpr ⟨Or.inl hx1, z⟩)⟩
    · rw [if_neg hw]
      exact ⟨fun h => absurd h.2.2.2.1 hw, fun _ => rfl⟩
  · rw [hfree.2 hA, Option.bind_some, if_pos rfl]
    exact ⟨fun h => absurd ⟨h.1, h.2.1, h.2.2.1⟩ hA, fun _ => rfl⟩
/-! what a roll makes -/
/-- how much is taken -/
def tkN (k z d w : Nat) : Nat :=
  let br := 1 + z / 8 + (if k = 1 then 1 else 0)
  let m := if d ≤ br then d else br
  if k = 2 ∨ (k < 2 ∧ w < 4) then (m + 1) / 2 else m
theorem tkN_le (k z d w : Nat) : tkN k z d w ≤ d := by
  have hm : ∀ br : Nat, (if d ≤ br then d else br) ≤ d := by intro br; split <;> omega
  show (if k = 2 ∨ (k < 2 ∧ w < 4) then ((if d ≤ 1 + z / 8 + (if k = 1 then 1 else 0) then d else 1 + z / 8 + (if k = 1 then 1 else 0)) + 1) / 2 else (if d ≤ 1 + z / 8 + (if k = 1 then 1 else 0) then d else 1 + z / 8 + (if k = 1 then 1 else 0))) ≤ d
  have h := hm (1 + z / 8 + (if k = 1 then 1 else 0))
  generalize (if d ≤ 1 + z / 8 + (if k = 1 then 1 else 0) then d else 1 + z / 8 + (if k = 1 then 1 else 0)) = m at h ⊢
  split <;> omega
theorem v_takes {k z d w : Nat} (hk : k < 5) (hz : z < 2 ^ 20) (hd : d ≤ 9) (hw : w ≤ 9) : f_X2_takes (nI z) (nI d) (nI w) k = some (nI (tkN k z d w)) := by
  have e8 : (nI z / 8 : Int32) = nI (z / 8) := pk_div (d := 8) (by omega) (by decide) (by decide)
  have br : ((1 + (nI z / 8)) + kf_moreBreadth k : Int32) = nI (1 + z / 8 + (if k = 1 then 1 else 0)) := by
    rw [e8, show (1 : Int32) = nI 1 from rfl, nI_add]
    match k, hk with
    | 0, _ => exact Int32.add_zero _
    | 1, _ => exact nI_1 _
    | 2, _ => exact Int32.add_zero _
    | 3, _ => exact Int32.add_zero _
    | 4, _ => exact Int32.add_zero _
    | k + 5, h => exact absurd h (by omega)
  rw [f_X2_takes, f_X2_breadth, Option.bind_some, br]
  generalize hbr : 1 + z / 8 + (if k = 1 then 1 else 0) = b
  have hb : b < 2 ^ 20 + 10 := by rw [← hbr]; split <;> omega
  have hm : (if nI d < nI b then nI d else nI b) = nI (if d ≤ b then d else b) := by
    by_cases h : d < b
    · rw [if_pos (nI_lt h (by omega)), if_pos (by omega)]
    · rw [if_neg (nI_nlt (by omega) (by omega))]
      by_cases h2 : d ≤ b
      · rw [if_pos h2]; exact congrArg nI (by omega)
      · rw [if_neg h2]
  rw [hm]
  generalize hmm : (if d ≤ b then d else b) = m
  have hm9 : m ≤ 9 := by rw [← hmm]; split <;> omega
  have half : ((nI m + 1) / 2 : Int32) = nI ((m + 1) / 2) := by
    rw [nI_1]; exact pk_div (d := 2) (by omega) (by decide) (by decide)
  rw [half]
  have hT : tkN k z d w = if k = 2 ∨ (k < 2 ∧ w < 4) then (m + 1) / 2 else m := by
    unfold tkN
    simp only [hbr, hmm]
  rw [hT]
  match k, hk with
  | 0, _ =>
    by_cases h4 : 4 ≤ w
    · rw [if_pos (show kf_takesAllFrom 0 ≤ nI w from nI_le (a := 4) h4 (by omega)), if_neg (by omega)]
    · rw [if_neg (show ¬ kf_takesAllFrom 0 ≤ nI w from nI_ge (b := 4) (by omega) (by omega)), if_pos (by omega)]
  | 1, _ =>
    by_cases h4 : 4 ≤ w
    · rw [if_pos (show kf_takesAllFrom 1 ≤ nI w from nI_le (a := 4) h4 (by omega)), if_neg (by omega)]
    · rw [if_neg (show ¬ kf_takesAllFrom 1 ≤ nI w from nI_ge (b := 4) (by omega) (by omega)), if_pos (by omega)]
  | 2, _ => rw [if_neg (show ¬ kf_takesAllFrom 2 ≤ nI w from nI_ge (b := 10) (by omega) (by omega)), if_pos (by omega)]
  | 3, _ => rw [if_pos (show kf_takesAllFrom 3 ≤ nI w from nI_le (a := 0) (by omega) (by omega)), if_neg (by omega)]
  | 4, _ => rw [if_pos (show kf_takesAllFrom 4 ≤ nI w from nI_le (a := 0) (by omega) (by omega)), if_neg (by omega)]
  | k + 5, h => exact absurd h (by omega)
