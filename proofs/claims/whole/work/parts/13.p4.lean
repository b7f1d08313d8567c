/-- the numbers behind a roll of ball b to the side s: depths, sizes, places, sticks -/
def crB (k z : Nat) : Prop := k = 2 ∧ 20 < z
def pT (plc : Nat → Int32) (b s : Nat) : Nat := (bes (plc b).toNatClampNeg s).toNatClampNeg
def pK (wet : Int32) (dep : Nat → Int32) (knd : Nat → Nat) (siz plc : Nat → Int32) (b s : Nat) : Nat := tkN (knd b) (siz b).toNatClampNeg (dep (pT plc b s)).toNatClampNeg wet.toNatClampNeg
def pDep (wet : Int32) (dep : Nat → Int32) (knd : Nat → Nat) (siz plc : Nat → Int32) (b s : Nat) : Nat → Int32 := upd dep (pT plc b s) (dep (pT plc b s) - nI (pK wet dep knd siz plc b s))
def pZ (wet : Int32) (dep : Nat → Int32) (knd : Nat → Nat) (siz plc : Nat → Int32) (b s : Nat) : Nat := (siz b).toNatClampNeg + pK wet dep knd siz plc b s
def pCr (wet : Int32) (dep : Nat → Int32) (knd : Nat → Nat) (siz plc : Nat → Int32) (b s : Nat) : Bool := decide (knd b = 2 ∧ 20 < pZ wet dep knd siz plc b s)
def pSiz (wet : Int32) (dep : Nat → Int32) (knd : Nat → Nat) (siz plc : Nat → Int32) (b s : Nat) : Nat → Int32 := upd siz b (if pCr wet dep knd siz plc b s then 0 else nI (pZ wet dep knd siz plc b s))
def pPlc (wet : Int32) (dep : Nat → Int32) (knd : Nat → Nat) (siz plc : Nat → Int32) (b s : Nat) : Nat → Int32 := upd plc b (if pCr wet dep knd siz plc b s then -1 else nI (pT plc b s))
def pAxs (knd : Nat → Nat) (axs : Nat → Int32) (b s : Nat) : Nat → Int32 := if knd b = 1 then upd axs b (nI (s % 2)) else axs
theorem v_push {n : Nat} {stg : Int32} {wet : Int32} {dep : Nat → Int32} {knd : Nat → Nat} {siz plc onn axs : Nat → Int32} {b s B : Nat} (hb : b < 5) (hs : s < 4) (hB : BOK B (knd b) (siz b) (plc b) (onn b) (axs b)) (hBl : B < 2 ^ 19) {w : Nat} (hw : w ≤ 9 ∧ wet = nI w) (hd : ∀ p : Nat, p < 20 → ∃ d : Nat, d ≤ 9 ∧ dep p = nI d) (hc : CanR n stg knd siz plc onn axs b s) :
    f_X4_push wet dep knd siz plc onn axs (nI b) (nI s) = some (pSiz wet dep knd siz plc b s b, pDep wet dep knd siz plc b s, pSiz wet dep knd siz plc b s, pPlc wet dep knd siz plc b s, onn, pAxs knd axs b s) := by
  obtain ⟨c1, c2, -, -, -, p, t, hp, e, ht, et, -⟩ := hc
  obtain ⟨w9, rfl⟩ := hw
  obtain ⟨hk, h | ⟨z, p', z1, z2, ez, -, -⟩, -⟩ := hB
  · rw [h.1] at c1; exact absurd c1 (by decide)
  · obtain ⟨d, d9, ed⟩ := hd t ht
    obtain ⟨b1, -, -⟩ := bes_all p hp s hs
    have eT : pT plc b s = t := by rw [pT, e, tnI (by omega), et, tnI (by omega)]
    have eZ : (siz b).toNatClampNeg = z := by rw [ez, tnI (by omega)]
    have eK : pK (nI w) dep knd siz plc b s = tkN (knd b) z d w := by rw [pK, eT, eZ, ed, tnI (by omega), tnI (by omega)]
    have hle := tkN_le (knd b) z d w
    rw [f_X4_push, if_pos (okT hb (by omega)), tnI (by omega), e, b1, Option.bind_some, et, if_neg (nI_m1 (by omega)), if_pos (okT ht (by omega)), tnI (by omega), if_pos hk, ez, ed, v_takes hk (by omega) d9 w9, Option.bind_some]
    generalize hT : tkN (knd b) z d w = tk at eK hle
    have eZ2 : pZ (nI w) dep knd siz plc b s = z + tk := by rw [pZ, eZ, eK]
    have eD : pDep (nI w) dep knd siz plc b s = upd dep t (nI d - nI tk) := by rw [pDep, eT, eK, ed]
    have hcr : f_X2_crumbles (nI (z + tk)) (knd b) = some (if pCr (nI w) dep knd siz plc b s then 1 else 0) := by
      rw [f_X2_crumbles, pCr, eZ2]
      by_cases h2 : knd b = 2
      · rw [if_pos h2]
        by_cases h3 : z + tk ≤ 20
        · rw [if_pos (show nI (z + tk) ≤ 20 from nI_le (b := 20) h3 (by omega)), if_neg (by simp only [decide_eq_true_eq]; omega)]
        · rw [if_neg (show ¬ nI (z + tk) ≤ 20 from nI_ge (a := 20) (by omega) (by omega)), if_pos (by simp only [decide_eq_true_eq]; omega)]
      · rw [if_neg h2, if_neg (by simp only [decide_eq_true_eq]; omega)]
    have hsame : upd siz b (nI (z + tk)) b = nI (z + tk) := upd_same _ _ _
    rw [nI_add, f_X2_sticks]
    by_cases hk1 : knd b = 1
    · have hcf : pCr (nI w) dep knd siz plc b s = false := decide_eq_false (by omega)
      rw [if_pos hk1, Option.bind_some, if_neg (by decide), f_X7_axisOf, Option.bind_some, hsame, hcr, hcf, Option.bind_some, if_pos (by decide), nI_even s hs]
      rw [pSiz, pPlc, hcf, eZ2, eT, eD, pAxs, if_pos hk1, if_neg (by decide), if_neg (by decide), upd_same]
    · rw [if_neg hk1, Option.bind_some, if_pos rfl, hsame, hcr, Option.bind_some]
      rw [pSiz, pPlc, eZ2, eT, eD, pAxs, if_neg hk1]
      by_cases hc2 : pCr (nI w) dep knd siz plc b s = true
      · rw [if_pos hc2, if_neg (by decide), if_pos hc2, if_pos hc2, f_X1_leave, Option.bind_some]
        show some (upd (upd siz b (nI (z + tk))) b 0 b, _, upd (upd siz b (nI (z + tk))) b 0, upd (upd plc b (nI t)) b (-1), upd onn b (-1), axs) = _
        rw [upd_upd, upd_upd, upd_id onn b (-1) c2]
      · rw [if_neg hc2, if_pos rfl, if_neg hc2, if_neg hc2, upd_same]
/-- the reference's roll, in words of its own numbers -/
theorem v_doRoll {n : Nat} {stg : Int32} {wet : Int32} {dep : Nat → Int32} {knd : Nat → Nat} {siz plc onn axs : Nat → Int32} {b s B : Nat} (hb : b < 5) (hs : s < 4) (hB : BOK B (knd b) (siz b) (plc b) (onn b) (axs b)) (hBl : B < 2 ^ 19) {w : Nat} (hw : w ≤ 9 ∧ wet = nI w) {mD mK mZ mP mO mX : Nat → Int32} (hd : DOK dep mD) (hg : mK b = nI (knd b) ∧ mZ b = siz b ∧ mP b = plc b ∧ mO b = onn b ∧ mX b = axs b) (hc : CanR n stg knd siz plc onn axs b s) :
    f_X8_doRoll wet mD mK mZ mP mX (nI b) (nI s) = some (upd mD (pT plc b s) (pDep wet dep knd siz plc b s (pT plc b s)), upd mZ b (pSiz wet dep knd siz plc b s b), upd mP b (pPlc wet dep knd siz plc b s b), upd mX b (pAxs knd axs b s b)) := by
  obtain ⟨c1, c2, -, -, -, p, t, hp, e, ht, et, -⟩ := hc
  obtain ⟨w9, rfl⟩ := hw
  obtain ⟨hk, h | ⟨z, p', z1, z2, ez, -, -⟩, hx⟩ := hB
  · rw [h.1] at c1; exact absurd c1 (by decide)
  · obtain ⟨d, d9, ed, emd⟩ := hd t ht
    obtain ⟨-, b1, -⟩ := bes_all p hp s hs
    obtain ⟨g1, g2, g3, g4, g5⟩ := hg
    have eT : pT plc b s = t := by rw [pT, e, tnI (by omega), et, tnI (by omega)]
    have eZ : (siz b).toNatClampNeg = z := by rw [ez, tnI (by omega)]
    have eK : pK (nI w) dep knd siz plc b s = tkN (knd b) z d w := by rw [pK, eT, eZ, ed, tnI (by omega), tnI (by omega)]
    have hle := tkN_le (knd b) z d w
    have e8 : (nI z / 8 : Int32) = nI (z / 8) := pk_div (d := 8) (by omega) (by decide) (by decide)
    have hbr : f_X8_breadth mK mZ (nI b) = some (nI (1 + z / 8 + (if knd b = 1 then 1 else 0))) := by
      rw [f_X8_breadth, if_pos (okT hb (by omega)), tnI (by omega), g1, g2, ez, e8, show (1 : Int32) = nI 1 from rfl, nI_add]
      by_cases h1 : knd b = 1
      · rw [if_pos (by rw [h1]), if_pos h1, nI_add]
      · rw [if_neg (fun q => h1 ((nI_eq (a := knd b) (b := 1) (by omega) (by omega)).mp q)), if_neg h1]
        exact congrArg some (Int32.add_zero _)
    have hup : ∀ (x : Int32), upd (upd mZ b x) b 0 = upd mZ b 0 := fun x => upd_upd _ _ _ _
    have hup2 : ∀ (x : Int32), upd (upd mP b x) b (-1) = upd mP b (-1) := fun x => upd_upd _ _ _ _
    rw [f_X8_doRoll, if_pos (okT hb (by omega)), tnI (by omega), g3, e, b1, Option.bind_some, hbr, Option.bind_some, et, if_pos (okT ht (by omega)), tnI (by omega), emd, g1, g2, ez, nI_even s hs]
    have eZ2 : pZ (nI w) dep knd siz plc b s = z + tkN (knd b) z d w := by rw [pZ, eZ, eK]
    have eD : pDep (nI w) dep knd siz plc b s t = nI d - nI (tkN (knd b) z d w) := by rw [pDep, eT, eK, ed, upd_same]
    have eS : pSiz (nI w) dep knd siz plc b s b = if knd b = 2 ∧ 20 < z + tkN (knd b) z d w then 0 else nI (z + tkN (knd b) z d w) := by
      rw [pSiz, upd_same, pCr, eZ2]
      by_cases h : knd b = 2 ∧ 20 < z + tkN (knd b) z d w
      · rw [if_pos h, if_pos (decide_eq_true h)]
      · rw [if_neg h, if_neg (by rw [decide_eq_false h]; decide)]
    have eP : pPlc (nI w) dep knd siz plc b s b = if knd b = 2 ∧ 20 < z + tkN (knd b) z d w then -1 else nI t := by
      rw [pPlc, upd_same, pCr, eZ2, eT]
      by_cases h : knd b = 2 ∧ 20 < z + tkN (knd b) z d w
      · rw [if_pos h, if_pos (decide_eq_true h)]
      · rw [if_neg h, if_neg (by rw [decide_eq_false h]; decide)]
    have eX : pAxs knd axs b s b = if knd b = 1 then nI (s % 2) else -1 := by
      rw [pAxs]
      by_cases h1 : knd b = 1
      · rw [if_pos h1, if_pos h1, upd_same]
      · rw [if_neg h1, if_neg h1]
        rcases hx with h | h
        · exact h
        · exact absurd h.1 h1
    rw [eT, eD, eS, eP, eX]
    have hadd : ∀ x : Nat, (nI z + nI x : Int32) = nI (z + x) := fun x => nI_add _ _
    have h1 : ∀ x : Nat, x < 30 → ((nI x + 1) / 2 : Int32) = nI ((x + 1) / 2) := fun x hx => by rw [nI_1]; exact pk_div (d := 2) (by omega) (by decide) (by decide)
    generalize hb2 : 1 + z / 8 + (if knd b = 1 then 1 else 0) = br
    have hbrl : br < 2 ^ 20 := by rw [← hb2]; split <;> omega
    have hTk : tkN (knd b) z d w = if knd b = 2 ∨ (knd b < 2 ∧ w < 4) then ((if d ≤ br then d else br) + 1) / 2 else (if d ≤ br then d else br) := by rw [← hb2]; rfl
    have hcmp : ∀ x : Nat, x < 2 ^ 30 → ((nI x ≤ (20 : Int32)) ↔ x ≤ 20) := fun x hx => nI_leI (b := 20) (by omega) (by omega)
    have hw4 : ((4 : Int32) ≤ nI w) ↔ 4 ≤ w := nI_leI (a := 4) (by omega) (by omega)
    have n10 : ¬ (nI 1 = (2 : Int32)) := by decide
    have n00 : ¬ (nI 0 = (2 : Int32)) := by decide
    have n01 : ¬ (nI 0 = (1 : Int32)) := by decide
    have n30 : ¬ (nI 3 = (2 : Int32)) := by decide
    have n31 : ¬ (nI 3 = (1 : Int32)) := by decide
    have n40 : ¬ (nI 4 = (2 : Int32)) := by decide
    have n41 : ¬ (nI 4 = (1 : Int32)) := by decide
    have n21 : ¬ (nI 2 = (1 : Int32)) := by decide
    have y22 : nI 2 = (2 : Int32) := rfl
    have y11 : nI 1 = (1 : Int32) := rfl
    have g02 : ¬ ((2 : Int32) ≤ nI 0) := by decide
    have g12 : ¬ ((2 : Int32) ≤ nI 1) := by decide
    have g32 : (2 : Int32) ≤ nI 3 := by decide
    have g42 : (2 : Int32) ≤ nI 4 := by decide
    have o12 : ¬ ((1 : Int32) = 2) := by decide
    have o21 : ¬ ((2 : Int32) ≤ 1) := by decide
    have t21 : ¬ ((2 : Int32) = 1) := by decide
    clear hbr eS eP eX eD eZ2 eK hle
    generalize knd b = kk at hk hTk ⊢
    -- the least of depth and breadth
    have fin : ∀ (m : Nat), m ≤ 9 → (if d ≤ br then d else br) = m → True := fun _ _ _ => trivial
    by_cases hdb : d ≤ br
    · rw [if_pos (nI_le hdb (by omega))]
      rw [if_pos hdb] at hTk
      match kk, hk with
      | 0, _ =>
        by_cases h4 : 4 ≤ w
        · rw [if_neg (by omega)] at hTk
          simp only [n00, n01, g02, hw4, h4, hTk, if_false, if_true, hadd, false_and, show ¬ (0 = 2) by omega, Option.bind_some]
          first | done | rfl
        · rw [if_pos (by omega)] at hTk
          simp only [n00, n01, g02, hw4, h4, hTk, h1 d (by omega), if_false, if_true, hadd, false_and, show ¬ (0 = 2) by omega, Option.bind_some]
          first | done | rfl
      | 1, _ =>
        by_cases h4 : 4 ≤ w
        · rw [if_neg (by omega)] at hTk
          simp only [y11, o12, o21, eq_self, hw4, h4, hTk, if_false, if_true, hadd, false_and, show ¬ (1 = 2) by omega, Option.bind_some]
          first | done | rfl
        · rw [if_pos (by omega)] at hTk
          simp only [y11, o12, o21, eq_self, hw4, h4, hTk, h1 d (by omega), if_false, if_true, hadd, false_and, show ¬ (1 = 2) by omega, Option.bind_some]
          first | done | rfl
      | 2, _ =>
        rw [if_pos (by omega)] at hTk
        simp only [y22, t21, eq_self, hTk, h1 d (by omega), if_false, if_true, hadd, upd_same, hup, hup2, true_and, Option.bind_some]
        by_cases h20 : z + (d + 1) / 2 ≤ 20
        · rw [if_pos ((hcmp _ (by omega)).mpr h20), if_neg (by omega), if_neg (by omega)]
          rfl
        · rw [if_neg (fun q => h20 ((hcmp _ (by omega)).mp q)), if_pos (by omega), if_pos (by omega)]
          rfl
      | 3, _ =>
        rw [if_neg (by omega)] at hTk
        simp only [n30, n31, g32, hTk, if_false, if_true, hadd, false_and, show ¬ (3 = 2) by omega, show ¬ (3 = 1) by omega, Option.bind_some]
        first | done | rfl
      | 4, _ =>
        rw [if_neg (by omega)] at hTk
        simp only [n40, n41, g42, hTk, if_false, if_true, hadd, false_and, show ¬ (4 = 2) by omega, show ¬ (4 = 1) by omega, Option.bind_some]
        first | done | rfl
      | k + 5, h => exact absurd h (by omega)
    · rw [if_neg (nI_ge (by omega) (by omega))]
      rw [if_neg hdb] at hTk
      match kk, hk with
      | 0, _ =>
        by_cases h4 : 4 ≤ w
        · rw [if_neg (by omega)] at hTk
          simp only [n00, n01, g02, hw4, h4, hTk, if_false, if_true, hadd, false_and, show ¬ (0 = 2) by omega, Option.bind_some]
          first | done | rfl
        · rw [if_pos (by omega)] at hTk
          simp only [n00, n01, g02, hw4, h4, hTk, h1 br (by omega), if_false, if_true, hadd, false_and, show ¬ (0 = 2) by omega, Option.bind_some]
          first | done | rfl
      | 1, _ =>
        by_cases h4 : 4 ≤ w
        · rw [if_neg (by omega)] at hTk
          simp only [y11, o12, o21, eq_self, hw4, h4, hTk, if_false, if_true, hadd, false_and, show ¬ (1 = 2) by omega, Option.bind_some]
          first | done | rfl
        · rw [if_pos (by omega)] at hTk
          simp only [y11, o12, o21, eq_self, hw4, h4, hTk, h1 br (by omega), if_false, if_true, hadd, false_and, show ¬ (1 = 2) by omega, Option.bind_some]
          first | done | rfl
      | 2, _ =>
        rw [if_pos (by omega)] at hTk
        simp only [y22, t21, eq_self, hTk, h1 br (by omega), if_false, if_true, hadd, upd_same, hup, hup2, true_and, Option.bind_some]
        by_cases h20 : z + (br + 1) / 2 ≤ 20
        · rw [if_pos ((hcmp _ (by omega)).mpr h20), if_neg (by omega), if_neg (by omega)]
          rfl
        · rw [if_neg (fun q => h20 ((hcmp _ (by omega)).mp q)), if_pos (by omega), if_pos (by omega)]
          rfl
      | 3, _ =>
        rw [if_neg (by omega)] at hTk
        simp only [n30, n31, g32, hTk, if_false, if_true, hadd, false_and, show ¬ (3 = 2) by omega, show ¬ (3 = 1) by omega, Option.bind_some]
        first | done | rfl
      | 4, _ =>
        rw [if_neg (by omega)] at hTk
        simp only [n40, n41, g42, hTk, if_false, if_true, hadd, false_and, show ¬ (4 = 2) by omega, show ¬ (4 = 1) by omega, Option.bind_some]
        first | done | rfl
      | k + 5, h => exact absurd h (by omega)
