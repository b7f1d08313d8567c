/-! the highest of three: the sets and the orders -/
theorem perm3 (r : Nat → Nat) {a b c x y z : Nat} (ha : a = x ∨ a = y ∨ a = z) (hb : b = x ∨ b = y ∨ b = z) (hc : c = x ∨ c = y ∨ c = z) (h1 : a ≠ b) (h2 : b ≠ c) (h3 : a ≠ c) : r a + r b + r c = r x + r y + r z := by
  rcases ha with rfl | rfl | rfl <;> rcases hb with rfl | rfl | rfl <;> rcases hc with rfl | rfl | rfl <;> omega
theorem dt_all : ∀ i, i < 64 → (i / 16 ≠ i / 4 % 4 ∧ i / 4 % 4 ≠ i % 4 ∧ i / 16 ≠ i % 4) → ∃ d, d < 4 ∧ SC i + 2 ^ d = 15 ∧ i / 16 ≠ d ∧ i / 4 % 4 ≠ d ∧ i % 4 ≠ d := by decide +kernel
theorem tb_all : ∀ i, i < 64 → ∀ p, p < 4 → (Nat.testBit (SC i) p = true ↔ p = i / 16 ∨ p = i / 4 % 4 ∨ p = i % 4) := by decide +kernel
theorem hN73 (r : Nat → Nat) : hN 7 r (R 0 3) = r 0 + (r 1 + (r 2 + 0)) := rfl
theorem hN74 (r : Nat → Nat) : hN 7 r (R 0 4) = r 0 + (r 1 + (r 2 + (0 + 0))) := rfl
theorem hN11 (r : Nat → Nat) : hN 11 r (R 0 4) = r 0 + (r 1 + (0 + (r 3 + 0))) := rfl
theorem hN13 (r : Nat → Nat) : hN 13 r (R 0 4) = r 0 + (0 + (r 2 + (r 3 + 0))) := rfl
theorem hN14 (r : Nat → Nat) : hN 14 r (R 0 4) = 0 + (r 1 + (r 2 + (r 3 + 0))) := rfl
theorem QC.set {n : Nat} (hn : n ≤ 4) {stg : Int32} {knd : Nat → Nat} {siz plc : Nat → Int32} (hz : ∀ q : Nat, q < n → ∃ z : Nat, z < 4000 ∧ siz q = nI z) (ha : ∀ q : Nat, q < n → (0 < siz q ↔ ¬ plc q = -1)) {i : Nat} (hi : i < 64) (h : QC n stg knd siz plc i) (r : Nat → Nat) : QS n stg knd siz (SC i) ∧ hN (SC i) r (R 0 n) = HC r i := by
  obtain ⟨a4, b4, c4, m1, m2, m3, m4, m5, m6, m7⟩ := h
  have T := tb_all i hi
  have D := dt_all i hi
  have hH : HC r i = r (i / 16) + r (i / 4 % 4) + r (i % 4) := rfl
  rw [hH]
  have a44 : i / 16 < 4 := by omega
  generalize i / 16 = a at *
  generalize i / 4 % 4 = b at *
  generalize i % 4 = c at *
  obtain ⟨za, za1, za2⟩ := hz a a4
  obtain ⟨zb, zb1, zb2⟩ := hz b b4
  obtain ⟨zc, zc1, zc2⟩ := hz c c4
  have hab : zb < za := by rw [za2, zb2] at m4; exact Nat.not_le.mp fun q => m4 ((nI_leI (by omega) (by omega)).mpr q)
  have hbc : zc < zb := by rw [zb2, zc2] at m5; exact Nat.not_le.mp fun q => m5 ((nI_leI (by omega) (by omega)).mpr q)
  have nab : a ≠ b := fun e => by subst e; exact absurd ((nI_eq (by omega) (by omega)).mp (za2.symm.trans zb2)) (by omega)
  have nbc : b ≠ c := fun e => by subst e; exact absurd ((nI_eq (by omega) (by omega)).mp (zb2.symm.trans zc2)) (by omega)
  have nac : a ≠ c := fun e => by subst e; exact absurd ((nI_eq (by omega) (by omega)).mp (za2.symm.trans zc2)) (by omega)
  have lt : ∀ {p q : Nat}, p < 4000 → q < 4000 → (nI p < nI q ↔ p < q) := fun h1 h2 => ⟨fun z => Nat.not_le.mp fun y => (Int32.not_lt.mpr ((nI_leI (by omega) (by omega)).mpr y)) z, fun z => nI_lt z (by omega)⟩
  have P : PS n (SC i) stg knd siz 0 := by
    intro p _ hpn hb
    refine ⟨?_, fun x _ hxn hxp hbx e => ?_, fun hE => ?_⟩
    · rcases (T p (by omega)).mp hb with rfl | rfl | rfl
      · exact (ha _ a4).mpr m1
      · exact (ha _ b4).mpr m2
      · exact (ha _ c4).mpr m3
    · rcases (T p (by omega)).mp hb with rfl | rfl | rfl <;> rcases (T x (by omega)).mp hbx with rfl | rfl | rfl <;> first
        | exact hxp rfl
        | (simp only [za2, zb2, zc2] at e; exact absurd ((nI_eq (by omega) (by omega)).mp e) (by omega))
    · rcases (T p (by omega)).mp hb with rfl | rfl | rfl
      · rcases hE with hE | ⟨x, -, x2, x3, x4, x5⟩
        · exact absurd hE i10
        · rcases (T x (by omega)).mp x4 with rfl | rfl | rfl
          · exact absurd rfl x3
          · rw [za2, zb2] at x5; exact absurd ((lt (by omega) (by omega)).mp x5) (by omega)
          · rw [za2, zc2] at x5; exact absurd ((lt (by omega) (by omega)).mp x5) (by omega)
      · exact m6
      · exact m7
  obtain ⟨d, e1, e2, e3, e4, e5⟩ := D ⟨nab, nbc, nac⟩
  have D' : (SC i = 7 ∧ a ≠ 3 ∧ b ≠ 3 ∧ c ≠ 3) ∨ (SC i = 11 ∧ a ≠ 2 ∧ b ≠ 2 ∧ c ≠ 2) ∨ (SC i = 13 ∧ a ≠ 1 ∧ b ≠ 1 ∧ c ≠ 1) ∨ (SC i = 14 ∧ a ≠ 0 ∧ b ≠ 0 ∧ c ≠ 0) := by
    rcases (show d = 0 ∨ d = 1 ∨ d = 2 ∨ d = 3 by omega) with rfl | rfl | rfl | rfl
    · exact Or.inr (Or.inr (Or.inr ⟨by omega, e3, e4, e5⟩))
    · exact Or.inr (Or.inr (Or.inl ⟨by omega, e3, e4, e5⟩))
    · exact Or.inr (Or.inl ⟨by omega, e3, e4, e5⟩)
    · exact Or.inl ⟨by omega, e3, e4, e5⟩
  rcases D' with ⟨d1, d2, d3, d4⟩ | ⟨d1, d2, d3, d4⟩ | ⟨d1, d2, d3, d4⟩ | ⟨d1, d2, d3, d4⟩
  · have s1 := perm3 r (a := a) (b := b) (c := c) (x := 0) (y := 1) (z := 2) (by omega) (by omega) (by omega) nab nbc nac
    rw [d1] at P ⊢
    rcases (show n = 3 ∨ n = 4 by omega) with rfl | rfl
    · exact ⟨⟨Or.inl rfl, by decide, P⟩, by rw [hN73]; omega⟩
    · exact ⟨⟨Or.inl rfl, by decide, P⟩, by rw [hN74]; omega⟩
  · have s1 := perm3 r (a := a) (b := b) (c := c) (x := 0) (y := 1) (z := 3) (by omega) (by omega) (by omega) nab nbc nac
    rw [d1] at P ⊢
    obtain rfl : n = 4 := by omega
    exact ⟨⟨Or.inr (Or.inl rfl), by decide, P⟩, by rw [hN11]; omega⟩
  · have s1 := perm3 r (a := a) (b := b) (c := c) (x := 0) (y := 2) (z := 3) (by omega) (by omega) (by omega) nab nbc nac
    rw [d1] at P ⊢
    obtain rfl : n = 4 := by omega
    exact ⟨⟨Or.inr (Or.inr (Or.inl rfl)), by decide, P⟩, by rw [hN13]; omega⟩
  · have s1 := perm3 r (a := a) (b := b) (c := c) (x := 1) (y := 2) (z := 3) (by omega) (by omega) (by omega) nab nbc nac
    rw [d1] at P ⊢
    obtain rfl : n = 4 := by omega
    exact ⟨⟨Or.inr (Or.inr (Or.inr rfl)), by decide, P⟩, by rw [hN14]; omega⟩
theorem ord3 {n s : Nat} {stg : Int32} {knd : Nat → Nat} {siz plc : Nat → Int32} (hz : ∀ q : Nat, q < n → ∃ z : Nat, z < 4000 ∧ siz q = nI z) (ha : ∀ q : Nat, q < n → (0 < siz q ↔ ¬ plc q = -1)) (P : PS n s stg knd siz 0) {x y z : Nat} (hx : x < n) (hy : y < n) (hzz : z < n) (bx : Nat.testBit s x = true) (by' : Nat.testBit s y = true) (bz : Nat.testBit s z = true) (nxy : x ≠ y) (nyz : y ≠ z) (nxz : x ≠ z) :
    MAY stg knd siz plc x y z ∨ MAY stg knd siz plc x z y ∨ MAY stg knd siz plc y x z ∨ MAY stg knd siz plc y z x ∨ MAY stg knd siz plc z x y ∨ MAY stg knd siz plc z y x := by
  obtain ⟨px, jx, wx⟩ := P x (Nat.zero_le _) hx bx
  obtain ⟨py, jy, wy⟩ := P y (Nat.zero_le _) hy by'
  obtain ⟨pz, jz, wz⟩ := P z (Nat.zero_le _) hzz bz
  have qx := (ha x hx).mp px
  have qy := (ha y hy).mp py
  have qz := (ha z hzz).mp pz
  obtain ⟨zx, zx1, zx2⟩ := hz x hx
  obtain ⟨zy, zy1, zy2⟩ := hz y hy
  obtain ⟨zz, zz1, zz2⟩ := hz z hzz
  have exy : zx ≠ zy := fun e => jx y (Nat.zero_le _) hy (fun q => nxy q.symm) by' (by rw [zx2, zy2, e])
  have eyz : zy ≠ zz := fun e => jy z (Nat.zero_le _) hzz (fun q => nyz q.symm) bz (by rw [zy2, zz2, e])
  have exz : zx ≠ zz := fun e => jx z (Nat.zero_le _) hzz (fun q => nxz q.symm) bz (by rw [zx2, zz2, e])
  have wxy : zx < zy → wOK stg knd siz x := fun h => wx (Or.inr ⟨y, Nat.zero_le _, hy, fun q => nxy q.symm, by', by rw [zx2, zy2]; exact nI_lt h (by omega)⟩)
  have wxz : zx < zz → wOK stg knd siz x := fun h => wx (Or.inr ⟨z, Nat.zero_le _, hzz, fun q => nxz q.symm, bz, by rw [zx2, zz2]; exact nI_lt h (by omega)⟩)
  have wyx : zy < zx → wOK stg knd siz y := fun h => wy (Or.inr ⟨x, Nat.zero_le _, hx, nxy, bx, by rw [zx2, zy2]; exact nI_lt h (by omega)⟩)
  have wyz : zy < zz → wOK stg knd siz y := fun h => wy (Or.inr ⟨z, Nat.zero_le _, hzz, fun q => nyz q.symm, bz, by rw [zy2, zz2]; exact nI_lt h (by omega)⟩)
  have wzx : zz < zx → wOK stg knd siz z := fun h => wz (Or.inr ⟨x, Nat.zero_le _, hx, nxz, bx, by rw [zx2, zz2]; exact nI_lt h (by omega)⟩)
  have wzy : zz < zy → wOK stg knd siz z := fun h => wz (Or.inr ⟨y, Nat.zero_le _, hy, nyz, by', by rw [zz2, zy2]; exact nI_lt h (by omega)⟩)
  have le : ∀ {p q : Nat}, p < 4000 → q < 4000 → q < p → ¬ nI p ≤ nI q := fun h1 h2 h3 => Int32.not_le.mpr (nI_lt h3 (by omega))
  unfold MAY
  rw [zx2, zy2, zz2]
  by_cases h1 : zx < zy
  · by_cases h2 : zy < zz
    · exact Or.inr (Or.inr (Or.inr (Or.inr (Or.inr ⟨qz, qy, qx, le zz1 zy1 h2, le zy1 zx1 h1, wyz h2, wxy h1⟩))))
    · have h2 : zz < zy := by omega
      by_cases h3 : zx < zz
      · exact Or.inr (Or.inr (Or.inr (Or.inl ⟨qy, qz, qx, le zy1 zz1 h2, le zz1 zx1 h3, wzy h2, wxz h3⟩)))
      · have h3 : zz < zx := by omega
        exact Or.inr (Or.inr (Or.inl ⟨qy, qx, qz, le zy1 zx1 h1, le zx1 zz1 h3, wxy h1, wzx h3⟩))
  · have h1 : zy < zx := by omega
    by_cases h2 : zx < zz
    · exact Or.inr (Or.inr (Or.inr (Or.inr (Or.inl ⟨qz, qx, qy, le zz1 zx1 h2, le zx1 zy1 h1, wxz h2, wyx h1⟩))))
    · have h2 : zz < zx := by omega
      by_cases h3 : zy < zz
      · exact Or.inr (Or.inl ⟨qx, qz, qy, le zx1 zz1 h2, le zz1 zy1 h3, wzx h2, wyz h3⟩)
      · have h3 : zz < zy := by omega
        exact Or.inl ⟨qx, qy, qz, le zx1 zy1 h1, le zy1 zz1 h3, wyx h1, wzy h3⟩
theorem QS.code {n : Nat} (hn : n ≤ 4) {stg : Int32} {knd : Nat → Nat} {siz plc : Nat → Int32} (hz : ∀ q : Nat, q < n → ∃ z : Nat, z < 4000 ∧ siz q = nI z) (ha : ∀ q : Nat, q < n → (0 < siz q ↔ ¬ plc q = -1)) {s : Nat} (h : QS n stg knd siz s) : ∃ c : Nat, c < 64 ∧ QC n stg knd siz plc c ∧ SC c = s := by
  obtain ⟨h1, h2, h3⟩ := h
  have hn5 : n = 0 ∨ n = 1 ∨ n = 2 ∨ n = 3 ∨ n = 4 := by omega
  rcases h1 with rfl | rfl | rfl | rfl
  · have hn3 : 3 ≤ n := by rcases hn5 with rfl | rfl | rfl | rfl | rfl <;> revert h2 <;> decide
    rcases ord3 (x := 0) (y := 1) (z := 2) hz ha h3 (by omega) (by omega) (by omega) (by decide) (by decide) (by decide) (by decide) (by decide) (by decide) with h | h | h | h | h | h
    · exact ⟨6, by decide, ⟨show 0 < n by omega, show 1 < n by omega, show 2 < n by omega, h⟩, by decide⟩
    · exact ⟨9, by decide, ⟨show 0 < n by omega, show 2 < n by omega, show 1 < n by omega, h⟩, by decide⟩
    · exact ⟨18, by decide, ⟨show 1 < n by omega, show 0 < n by omega, show 2 < n by omega, h⟩, by decide⟩
    · exact ⟨24, by decide, ⟨show 1 < n by omega, show 2 < n by omega, show 0 < n by omega, h⟩, by decide⟩
    · exact ⟨33, by decide, ⟨show 2 < n by omega, show 0 < n by omega, show 1 < n by omega, h⟩, by decide⟩
    · exact ⟨36, by decide, ⟨show 2 < n by omega, show 1 < n by omega, show 0 < n by omega, h⟩, by decide⟩
  · have hn3 : 4 ≤ n := by rcases hn5 with rfl | rfl | rfl | rfl | rfl <;> revert h2 <;> decide
    rcases ord3 (x := 0) (y := 1) (z := 3) hz ha h3 (by omega) (by omega) (by omega) (by decide) (by decide) (by decide) (by decide) (by decide) (by decide) with h | h | h | h | h | h
    · exact ⟨7, by decide, ⟨show 0 < n by omega, show 1 < n by omega, show 3 < n by omega, h⟩, by decide⟩
    · exact ⟨13, by decide, ⟨show 0 < n by omega, show 3 < n by omega, show 1 < n by omega, h⟩, by decide⟩
    · exact ⟨19, by decide, ⟨show 1 < n by omega, show 0 < n by omega, show 3 < n by omega, h⟩, by decide⟩
    · exact ⟨28, by decide, ⟨show 1 < n by omega, show 3 < n by omega, show 0 < n by omega, h⟩, by decide⟩
    · exact ⟨49, by decide, ⟨show 3 < n by omega, show 0 < n by omega, show 1 < n by omega, h⟩, by decide⟩
    · exact ⟨52, by decide, ⟨show 3 < n by omega, show 1 < n by omega, show 0 < n by omega, h⟩, by decide⟩
  · have hn3 : 4 ≤ n := by rcases hn5 with rfl | rfl | rfl | rfl | rfl <;> revert h2 <;> decide
    rcases ord3 (x := 0) (y := 2) (z := 3) hz ha h3 (by omega) (by omega) (by omega) (by decide) (by decide) (by decide) (by decide) (by decide) (by decide) with h | h | h | h | h | h
    · exact ⟨11, by decide, ⟨show 0 < n by omega, show 2 < n by omega, show 3 < n by omega, h⟩, by decide⟩
    · exact ⟨14, by decide, ⟨show 0 < n by omega, show 3 < n by omega, show 2 < n by omega, h⟩, by decide⟩
    · exact ⟨35, by decide, ⟨show 2 < n by omega, show 0 < n by omega, show 3 < n by omega, h⟩, by decide⟩
    · exact ⟨44, by decide, ⟨show 2 < n by omega, show 3 < n by omega, show 0 < n by omega, h⟩, by decide⟩
    · exact ⟨50, by decide, ⟨show 3 < n by omega, show 0 < n by omega, show 2 < n by omega, h⟩, by decide⟩
    · exact ⟨56, by decide, ⟨show 3 < n by omega, show 2 < n by omega, show 0 < n by omega, h⟩, by decide⟩
  · have hn3 : 4 ≤ n := by rcases hn5 with rfl | rfl | rfl | rfl | rfl <;> revert h2 <;> decide
    rcases ord3 (x := 1) (y := 2) (z := 3) hz ha h3 (by omega) (by omega) (by omega) (by decide) (by decide) (by decide) (by decide) (by decide) (by decide) with h | h | h | h | h | h
    · exact ⟨27, by decide, ⟨show 1 < n by omega, show 2 < n by omega, show 3 < n by omega, h⟩, by decide⟩
    · exact ⟨30, by decide, ⟨show 1 < n by omega, show 3 < n by omega, show 2 < n by omega, h⟩, by decide⟩
    · exact ⟨39, by decide, ⟨show 2 < n by omega, show 1 < n by omega, show 3 < n by omega, h⟩, by decide⟩
    · exact ⟨45, by decide, ⟨show 2 < n by omega, show 3 < n by omega, show 1 < n by omega, h⟩, by decide⟩
    · exact ⟨54, by decide, ⟨show 3 < n by omega, show 1 < n by omega, show 2 < n by omega, h⟩, by decide⟩
    · exact ⟨57, by decide, ⟨show 3 < n by omega, show 2 < n by omega, show 1 < n by omega, h⟩, by decide⟩
/-- the two searches for the highest three answer alike -/
theorem v_highest {n : Nat} (hn : n ≤ 4) {B : Nat} (hB : B < 4000) {stg a1 : Int32} {knd : Nat → Nat} {siz plc onn axs mK mZ mP mO mX : Nat → Int32} (hO : OK1 B n knd siz plc onn axs) (hg : AG (fun i => i < n) knd siz plc onn axs mK mZ mP mO mX) : ∃ x h : Int32, f_X4_highestThree (nI n) stg knd siz = some x ∧ (¬ x = -1 → f_X4_heightOfAll (nI n) siz x = some h) ∧ f_X8_highestNow stg (nI n) mK mZ mP a1 = some (if a1 = 0 then (if x = -1 then x else h) else x) := by
  have hk : ∀ q : Nat, q < n → knd q < 5 := fun q hq => (hO.2.1 q hq).1
  have hz : ∀ q : Nat, q < n → ∃ z : Nat, z < 4000 ∧ siz q = nI z := fun q hq => (hO.2.1 q hq).size hB
  have ha : ∀ q : Nat, q < n → (0 < siz q ↔ ¬ plc q = -1) := fun q hq => (hO.2.1 q hq).alive (by omega)
  have hr : ∀ q : Nat, q < n → f_X7_rootOf (siz q) = some (nI (rt (siz q)).toNatClampNeg) ∧ f_X8_root (siz q) = some (nI (rt (siz q)).toNatClampNeg) ∧ (rt (siz q)).toNatClampNeg < 64 := by
    intro q hq
    obtain ⟨z, z1, z2⟩ := hz q hq
    obtain ⟨r, r1, r2, r3⟩ := v_root8 z1
    have r4 := v_root z1
    rw [z2, r3, r4, r2, tnI (by omega)]
    exact ⟨rfl, rfl, r1⟩
  have p16 : 2 ^ n ≤ 16 := Nat.pow_le_pow_right (n := 2) (by decide) hn
  obtain ⟨y1, y2, e1, e2⟩ := l_high (stg := stg) hn hk (r := fun q => (rt (siz q)).toNatClampNeg) (fun q hq => ⟨(hr q hq).1, (hr q hq).2.2⟩) (2 ^ n) 0 70 (-1) 0 (by omega) (by omega) (Or.inl ⟨rfl, fun s hs => absurd hs (by omega)⟩)
  obtain ⟨z2, z3, f1, f2⟩ := l_high8 (stg := stg) (a1 := a1) hn hk hg (r := fun q => (rt (siz q)).toNatClampNeg) (fun q hq => (hr q hq).2) 64 0 70 (-1) (-1) rfl (by omega) (Or.inl ⟨rfl, rfl, fun s hs => absurd hs (by omega)⟩)
  replace e1 : f_X4_highestThree_h6 (nI n) stg knd siz 70 (-1) 0 0 = some y1 := e1
  replace f1 : f_X8_highestNow_h7 stg (nI n) mK mZ mP a1 70 (-1) (-1) 0 = some (if a1 = 0 then z2 else z3) := f1
  rw [f_X4_highestThree, f_X8_highestNow, e1, f1]
  rcases f2 with ⟨b1, b2, b3⟩ | ⟨c, c1, c2, c3, c4, c5⟩
  · have hno : ∀ s : Nat, ¬ QS n stg knd siz s := fun s hs => by
      obtain ⟨c, d1, d2, -⟩ := QS.code (plc := plc) hn hz ha hs
      exact b3 c d1 d2
    rcases e2 with ⟨a1', -⟩ | ⟨s, -, s2, -⟩
    · refine ⟨y1, 0, rfl, fun h => absurd a1' h, ?_⟩
      rw [if_pos a1', a1', b1, b2]
    · exact absurd s2 (hno s)
  · obtain ⟨d1, d2⟩ := QC.set hn hz ha c1 c2 (fun q => (rt (siz q)).toNatClampNeg)
    rcases e2 with ⟨-, a2⟩ | ⟨s, s1, s2, s3, s4, s5⟩
    · exact absurd d1 (a2 _ d1.2.1)
    · obtain ⟨c', g1, g2, g3⟩ := QS.code (plc := plc) hn hz ha s2
      obtain ⟨g4, g5⟩ := QC.set hn hz ha g1 g2 (fun q => (rt (siz q)).toNatClampNeg)
      rw [g3] at g5
      have t1 := c5 c' g1 g2
      have t2 := s5 _ d1.2.1 d1
      rw [g3] at t1
      have hS : s = SC c := by rcases t1 with t | t <;> rcases t2 with u | u <;> omega
      have hH : hN s (fun q => (rt (siz q)).toNatClampNeg) (R 0 n) = HC (fun q => (rt (siz q)).toNatClampNeg) c := by rw [hS]; exact d2
      refine ⟨y1, z2, rfl, fun _ => ?_, ?_⟩
      · rw [s3, c3, ← hH]
        exact v_heightAll hn (by omega) fun q hq => (hr q hq).1
      · rw [c4, ← hS, ← s3, if_neg (show ¬ y1 = -1 by rw [s3]; exact nI_m1 (by omega))]
theorem op_highest {t : Nat} (ht : t < 64) (ltr lrd srs bks img : Int32) (pag : Nat → Int32) (n_cnt n_wet n_stg n_dys : Int32) (n_dep : Nat → Int32) (n_knd : Nat → Nat) (n_siz n_plc n_onn n_axs : Nat → Int32) (k_cnt k_wet k_stg k_dys : Int32) (k_dep : Nat → Int32) (k_knd : Nat → Nat) (k_siz k_plc k_onn k_axs : Nat → Int32) (m_isLawn m_lawns m_wetness m_strength m_days m_balls m_asks m_books m_pageLength m_isKept m_keptLawn m_keptBalls m_keptStrength m_keptDays : Int32) (m_depthOf m_kindOf m_sizeOf m_placeOf m_onOf m_sticksOf m_page m_keptDepth m_keptSize m_keptPlace m_keptOn m_keptSticks : Nat → Int32) (h : Rel t ltr lrd srs bks img pag n_cnt n_wet n_stg n_dys n_dep n_knd n_siz n_plc n_onn n_axs k_cnt k_wet k_stg k_dys k_dep k_knd k_siz k_plc k_onn k_axs m_isLawn m_lawns m_wetness m_strength m_days m_balls m_asks m_books m_pageLength m_depthOf m_kindOf m_sizeOf m_placeOf m_onOf m_sticksOf m_page m_isKept m_keptLawn m_keptBalls m_keptStrength m_keptDays m_keptDepth m_keptSize m_keptPlace m_keptOn m_keptSticks) (a1 : Int32) : ∃ (r : Int32), f_X7_highest n_cnt n_stg n_knd n_siz a1 = some r ∧ f_X8_highest m_strength m_balls m_kindOf m_sizeOf m_placeOf a1 = some r ∧ Rel (t + 1) ltr lrd srs bks img pag n_cnt n_wet n_stg n_dys n_dep n_knd n_siz n_plc n_onn n_axs k_cnt k_wet k_stg k_dys k_dep k_knd k_siz k_plc k_onn k_axs m_isLawn m_lawns m_wetness m_strength m_days m_balls m_asks m_books m_pageLength m_depthOf m_kindOf m_sizeOf m_placeOf m_onOf m_sticksOf m_page m_isKept m_keptLawn m_keptBalls m_keptStrength m_keptDays m_keptDepth m_keptSize m_keptPlace m_keptOn m_keptSticks := by
  obtain ⟨L, l, a, b, n, hG, hC, hN, hZ, hI⟩ := id h
  obtain ⟨n1, n2, ⟨w, w9, n3⟩, n4, n5, n6, n7, n8, n9⟩ := id hN
  have hn4 := n7.1
  subst n1; subst n2
  have q4 := n4.symm
  have q5 := n5.symm
  have q6 := n6.symm
  subst q4; subst q5; subst q6
  rw [f_X7_highest, f_X8_highest]
  obtain ⟨x, y, e1, e2, e3⟩ := v_highest (stg := n_stg) (a1 := a1) hn4 (B := 9 * t + 1) (by omega) n7 n8
  rcases rng a1 (lo := 0) (hi := 1) (l := 0) (h := 1) rfl rfl (by omega) (by omega) with ⟨T, T1, T2, hT, h4, h5⟩ | ⟨h4, h5⟩
  · rw [h4, h5, Option.bind_some, Option.bind_some, if_pos i00, if_neg i10, e1, e3, Option.bind_some, Option.bind_some]
    by_cases h1 : a1 = 1
    · rw [if_pos h1, if_neg (show ¬ a1 = 0 by rw [h1]; decide)]
      exact ⟨_, rfl, rfl, h.up⟩
    · have h0 : a1 = 0 := by
        rcases (show T = 0 ∨ T = 1 by omega) with z | z
        · rw [hT, z]; rfl
        · exact absurd (by rw [hT, z]; rfl) h1
      rw [if_neg h1, if_pos h0]
      by_cases hx : x = -1
      · rw [if_pos hx, if_pos hx]
        exact ⟨_, rfl, rfl, h.up⟩
      · rw [if_neg hx, if_neg hx, e2 hx, Option.bind_some]
        exact ⟨_, rfl, rfl, h.up⟩
  · rw [h4, h5, Option.bind_some, Option.bind_some, if_neg i10, if_pos i00]
    exact ⟨_, rfl, rfl, h.up⟩
