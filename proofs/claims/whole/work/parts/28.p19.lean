/-! the reference's ways -/
def MR (n b : Nat) (knd : Nat → Nat) (onn mK mO : Nat → Int32) (C : CS) (mD mZ mP mX : Nat → Int32) : Prop := DOK C.1 mD ∧ AG (fun i => i < n ∨ i = b) knd C.2.1 C.2.2.1 onn C.2.2.2 mK mZ mP mO mX
def OFF (b : Nat) (C D : CS) : Prop := ∀ i : Nat, i ≠ b → D.2.1 i = C.2.1 i ∧ D.2.2.1 i = C.2.2.1 i ∧ D.2.2.2 i = C.2.2.2 i
def SV (b : Nat) (C : CS) (sS sP sX : Int32) (sD : Nat → Int32) : Prop := sS = C.2.1 b ∧ sP = C.2.2.1 b ∧ sX = C.2.2.2 b ∧ DOK C.1 sD
theorem pw_all : ∀ k, k < 7 → f_X8_power (nI k) = some (nI (4 ^ k)) := by decide +kernel
theorem p4_le : ∀ k, k < 7 → 4 ^ k ≤ 4096 := by decide +kernel
theorem pm1 (k : Nat) : nI (k + 1) + (-1) = nI k := by
  rw [← nI_1, Int32.add_assoc]; exact Int32.add_zero _
theorem OFF.stp (wet : Int32) (knd : Nat → Nat) (b : Nat) (C : CS) (s : Nat) : OFF b C (stpT wet knd b C s) := fun i hi => by
  refine ⟨upd_ne _ _ hi, upd_ne _ _ hi, ?_⟩
  show pAxs knd C.2.2.2 b s i = _
  rw [pAxs]
  by_cases h : knd b = 1
  · rw [if_pos h, upd_ne _ _ hi]
  · rw [if_neg h]
theorem v_rolls {n b : Nat} {w : Nat} {wet : Int32} (hw : w ≤ 9 ∧ wet = nI w) (stg : Int32) (knd : Nat → Nat) (onn mK mO : Nat → Int32) : ∀ (k fu B c : Nat) (C : CS) (mD mZ mP mX : Nat → Int32), k < 7 → k + 1 < fu → c < 4 ^ k → B + 9 * k < 2 ^ 18 → GD B n b knd onn C → MR n b knd onn mK mO C mD mZ mP mX →
    ∃ (y : Int32) (D : CS) (mD' mZ' mP' mX' : Nat → Int32), f_X8_rollsBy_h11 wet stg (nI n) mK mO (nI b) fu mD mZ mP mX (nI c) 1 (nI k + (-1)) = some (y, mD', mZ', mP', mX') ∧ MR n b knd onn mK mO D mD' mZ' mP' mX' ∧ OFF b C D ∧ ((run (canT n stg knd onn b) (stpT wet knd b) k C c = some D ∧ y = 1) ∨ (run (canT n stg knd onn b) (stpT wet knd b) k C c = none ∧ y = 0)) := by
  intro k
  induction k with
  | zero =>
    intro fu B c C mD mZ mP mX hk hf hc hB hG hM
    obtain ⟨fu, rfl⟩ : ∃ z, fu = z + 1 := ⟨fu - 1, by omega⟩
    rw [f_X8_rollsBy_h11, if_pos (show nI 0 + (-1) < 0 by decide), if_pos (show ((1 : Int32) &&& 1) = 1 by decide)]
    exact ⟨_, C, _, _, _, _, rfl, hM, fun i _ => ⟨rfl, rfl, rfl⟩, Or.inl ⟨rfl, rfl⟩⟩
  | succ k ih =>
    intro fu B c C mD mZ mP mX hk hf hc hB hG hM
    obtain ⟨fu, rfl⟩ : ∃ z, fu = z + 1 := ⟨fu - 1, by omega⟩
    have hb := hG.1.2.1
    have p4 := p4_le k (by omega)
    have q0 : 0 < 4 ^ k := Nat.pow_pos (by decide)
    have hcs : c / 4 ^ k < 4 := (Nat.div_lt_iff_lt_mul q0).mpr (by rw [Nat.pow_succ, Nat.mul_comm] at hc; exact hc)
    have hcm : c % 4 ^ k < 4 ^ k := Nat.mod_lt _ q0
    have hc3 : c < 2 ^ 31 := by rw [Nat.pow_succ] at hc; omega
    have n0 : ¬ nI k < 0 := Int32.not_lt.mpr (nI_pos' (by omega))
    have np : ¬ nI (4 ^ k) = (0 : Int32) := fun z => absurd ((nI_eq (b := 0) (by omega) (by omega)).mp z) (by omega)
    have hMy := v_mayRoll (stg := stg) hG.1 hM.2 (Or.inr rfl) hcs
    have hrun : run (canT n stg knd onn b) (stpT wet knd b) (k + 1) C c = if canT n stg knd onn b C (c / 4 ^ k) = true then run (canT n stg knd onn b) (stpT wet knd b) k (stpT wet knd b C (c / 4 ^ k)) (c % 4 ^ k) else none := rfl
    rw [f_X8_rollsBy_h11, pm1, if_neg n0, if_neg i10, pw_all k (by omega), Option.bind_some, if_pos np, Option.bind_some, if_pos np, pk_rem hc3 q0 (by omega), pk_div hc3 q0 (by omega), hrun]
    generalize hs : c / 4 ^ k = s at hcs hMy
    rcases hG.can (stg := stg) hcs with ⟨hc', -, e2⟩ | ⟨hc', -, e2⟩
    · have hMP := v_doRoll (wet := wet) (b := b) (s := s) hb hcs (hG.1.2.2.2.1 b (Or.inr rfl)) (by omega) hw hM.1 (hM.2 b (Or.inr rfl)) hc'
      have hV := roll_inv (wet := wet) hG.1 hM.2 hM.1 hw (by omega) (Or.inr rfl) hcs hc'
      have hS := hG.stp (stg := stg) (wet := wet) hw (by omega) hcs hc'
      obtain ⟨y, D, mD', mZ', mP', mX', f1, f2, f3, f4⟩ := ih fu (B + 9) (c % 4 ^ k) (stpT wet knd b C s) _ _ _ _ (by omega) (by omega) hcm (by omega) hS ⟨hV.2.2, hV.2.1⟩
      rw [hMy.1 hc', Option.bind_some, if_neg i10, hMP, Option.bind_some, if_pos e2]
      refine ⟨y, D, mD', mZ', mP', mX', f1, f2, fun i hi => ?_, f4⟩
      obtain ⟨g1, g2, g3⟩ := f3 i hi
      obtain ⟨k1, k2, k3⟩ := OFF.stp wet knd b C s i hi
      exact ⟨g1.trans k1, g2.trans k2, g3.trans k3⟩
    · obtain ⟨fu, rfl⟩ : ∃ z, fu = z + 1 := ⟨fu - 1, by omega⟩
      rw [hMy.2 hc', Option.bind_some, if_pos i00, f_X8_rollsBy_h11, if_pos i00, if_pos (show ((0 : Int32) &&& 1) = 0 by decide), ite_self, if_neg e2]
      exact ⟨_, C, _, _, _, _, rfl, hM, fun i _ => ⟨rfl, rfl, rfl⟩, Or.inr ⟨rfl, rfl⟩⟩
theorem l_back {b : Nat} (hb : b < 5) (sS sP sX : Int32) (D Z P X sD : Nat → Int32) : ∀ (j i k : Nat), i + j = 20 → j < k → f_X8_back_h2 sS sP sX Z P X sD (nI b) k (cp i sD D) (nI i) = some (cp 20 sD D, upd Z b sS, upd P b sP, upd X b sX) := by
  intro j
  induction j with
  | zero =>
    intro i k  h hk
    obtain ⟨k, rfl⟩ : ∃ z, k = z + 1 := ⟨k - 1, by omega⟩
    have hin : i = 20 := by omega
    subst hin
    rw [f_X8_back_h2, if_pos (show (20 : Int32) ≤ nI 20 from Int32.le_refl _)]
    rw [if_pos (okT hb (by omega)), tnI (by omega)]
  | succ j ih =>
    intro i k  h hk
    obtain ⟨k, rfl⟩ : ∃ z, k = z + 1 := ⟨k - 1, by omega⟩
    have hi : i < 20 := by omega
    have cge : ¬ (20 : Int32) ≤ nI i := nI_ge (a := i) (b := 20) hi (by omega)
    have cok : ok (nI i) 20 = true := okT (by omega) (by omega)
    have ctn : (nI i).toNatClampNeg = i := tnI (by omega)
    rw [f_X8_back_h2, if_neg cge]
    rw [if_pos cok, ctn, cp_step, nI_1]
    exact ih (i + 1) k (by omega) (by omega)

theorem l_save {b : Nat} (hb : b < 5) (D Z P X sD : Nat → Int32) : ∀ (j i k : Nat), i + j = 20 → j < k → f_X8_save_h2 D Z P X (nI b) k (cp i D sD) (nI i) = some (Z b, P b, X b, cp 20 D sD) := by
  intro j
  induction j with
  | zero =>
    intro i k  h hk
    obtain ⟨k, rfl⟩ : ∃ z, k = z + 1 := ⟨k - 1, by omega⟩
    have hin : i = 20 := by omega
    subst hin
    rw [f_X8_save_h2, if_pos (show (20 : Int32) ≤ nI 20 from Int32.le_refl _)]
    rw [if_pos (okT hb (by omega)), tnI (by omega)]
  | succ j ih =>
    intro i k  h hk
    obtain ⟨k, rfl⟩ : ∃ z, k = z + 1 := ⟨k - 1, by omega⟩
    have hi : i < 20 := by omega
    have cge : ¬ (20 : Int32) ≤ nI i := nI_ge (a := i) (b := 20) hi (by omega)
    have cok : ok (nI i) 20 = true := okT (by omega) (by omega)
    have ctn : (nI i).toNatClampNeg = i := tnI (by omega)
    rw [f_X8_save_h2, if_neg cge]
    rw [if_pos cok, ctn, cp_step, nI_1]
    exact ih (i + 1) k (by omega) (by omega)

theorem v_save {b : Nat} (hb : b < 5) (D Z P X sD : Nat → Int32) : f_X8_save D Z P X sD (nI b) = some (Z b, P b, X b, cp 20 D sD) := by
  have e := l_save hb D Z P X sD 20 0 70 rfl (by omega)
  rw [cp_0] at e
  rw [f_X8_save]; exact e
theorem v_try {n b : Nat} {w : Nat} {wet : Int32} (hw : w ≤ 9 ∧ wet = nI w) (stg : Int32) {knd : Nat → Nat} {onn mK mO : Nat → Int32} {k B c : Nat} {C : CS} {mD mZ mP mX : Nat → Int32} (hk : k < 7) (hc : c < 4 ^ k) (hB : B + 9 * k < 2 ^ 18) (hG : GD B n b knd onn C) (hM : MR n b knd onn mK mO C mD mZ mP mX) {sS sP sX : Int32} {sD : Nat → Int32} (hS : SV b C sS sP sX sD) :
    ∃ (y : Int32) (D : CS) (mD1 mZ1 mP1 mX1 mD2 mZ2 mP2 mX2 : Nat → Int32), f_X8_rollsBy wet stg (nI n) mD mK mZ mP mO mX (nI b) (nI c) (nI k) = some (y, mD1, mZ1, mP1, mX1) ∧ f_X8_back sS sP sX mD1 mZ1 mP1 mX1 sD (nI b) = some (mD2, mZ2, mP2, mX2) ∧ MR n b knd onn mK mO C mD2 mZ2 mP2 mX2 ∧ mZ1 b = D.2.1 b ∧ mP1 b = D.2.2.1 b ∧ ((run (canT n stg knd onn b) (stpT wet knd b) k C c = some D ∧ y = 1) ∨ (run (canT n stg knd onn b) (stpT wet knd b) k C c = none ∧ y = 0)) := by
  obtain ⟨y, D, mD1, mZ1, mP1, mX1, f1, f2, f3, f4⟩ := v_rolls hw stg knd onn mK mO k 70 B c C mD mZ mP mX hk (by omega) hc hB hG hM
  have hb := hG.1.2.1
  have e := l_back hb sS sP sX mD1 mZ1 mP1 mX1 sD 20 0 70 rfl (by omega)
  rw [cp_0] at e
  obtain ⟨s1, s2, s3, s4⟩ := hS
  obtain ⟨b1, b2, b3, b4, b5⟩ := f2.2 b (Or.inr rfl)
  refine ⟨y, D, mD1, mZ1, mP1, mX1, cp 20 sD mD1, upd mZ1 b sS, upd mP1 b sP, upd mX1 b sX, ?_, ?_, ⟨fun p hp => ?_, fun i hi => ?_⟩, b2, b3, f4⟩
  · rw [f_X8_rollsBy, Int32.sub_eq_add_neg]; exact f1
  · rw [f_X8_back]; exact e
  · rw [cp_lt hp]; exact s4 p hp
  · obtain ⟨g1, g2, g3, g4, g5⟩ := f2.2 i hi
    by_cases hib : i = b
    · subst hib
      rw [upd_same, upd_same, upd_same]
      exact ⟨b1, s1, s2, b4, s3⟩
    · obtain ⟨k1, k2, k3⟩ := f3 i hib
      rw [upd_ne _ _ hib, upd_ne _ _ hib, upd_ne _ _ hib]
      exact ⟨g1, g2.trans k1, g3.trans k2, g4, g5.trans k3⟩
/-! the three searches of the reference -/
def upM (b : Nat) (a : Int32 × Int32) (x : Nd) : Int32 × Int32 := if x.1.2.1 b ≤ a.1 then a else (x.1.2.1 b, x.2.2)
theorem m_L1 {n b : Nat} {w : Nat} {wet : Int32} (hw : w ≤ 9 ∧ wet = nI w) (stg : Int32) {knd : Nat → Nat} {onn mK mO : Nat → Int32} {B k : Nat} {C : CS} (hk0 : 0 < k) (hk : k < 7) (hB : B + 9 * 6 < 2 ^ 18) (hG : GD B n b knd onn C) {sS sP sX : Int32} {sD : Nat → Int32} (hS : SV b C sS sP sX sD) (kk : Int32 → Int32 → Int32 → Int32 → Int32 → (Nat → Int32) → (Nat → Int32) → (Nat → Int32) → (Nat → Int32) → (Nat → Int32) → Int32 → Option (Int32 × Int32 × Int32 × Int32 × Int32 × (Nat → Int32) × (Nat → Int32) × (Nat → Int32) × (Nat → Int32) × (Nat → Int32))) : ∀ (j c fu : Nat) (bs bf : Int32) (mD mZ mP mX : Nat → Int32), c + j = 4 ^ k → j < fu → MR n b knd onn mK mO C mD mZ mP mX →
    ∃ (bs' bf' : Int32) (mD' mZ' mP' mX' : Nat → Int32), f_X8_layLargest_h30 kk wet stg (nI n) mK mO (nI b) fu sS sP sX bs bf mD mZ mP mX sD (nI k) (nI c) = kk sS sP sX bs' bf' mD' mZ' mP' mX' sD (nI (k + 1)) ∧ MR n b knd onn mK mO C mD' mZ' mP' mX' ∧ List.foldl (upM b) (bs, bf) (cdr (canT n stg knd onn b) (stpT wet knd b) k C 0 (-1) (R c j)) = (bs', bf') := by
  have p4 := p4_le k hk
  have hb := hG.1.2.1
  intro j
  induction j with
  | zero =>
    intro c fu bs bf mD mZ mP mX h hf hM
    obtain ⟨fu, rfl⟩ : ∃ z, fu = z + 1 := ⟨fu - 1, by omega⟩
    rw [f_X8_layLargest_h30, pw_all k hk, Option.bind_some, show c = 4 ^ k by omega, if_pos (Int32.le_refl _), nI_1]
    exact ⟨bs, bf, mD, mZ, mP, mX, rfl, hM, rfl⟩
  | succ j ih =>
    intro c fu bs bf mD mZ mP mX h hf hM
    obtain ⟨fu, rfl⟩ : ∃ z, fu = z + 1 := ⟨fu - 1, by omega⟩
    have hc : c < 4 ^ k := by omega
    obtain ⟨y, D, mD1, mZ1, mP1, mX1, mD2, mZ2, mP2, mX2, f1, f2, f3, f4, f5, f6⟩ := v_try hw stg hk hc (by omega) hG hM hS
    have cge : ¬ nI (4 ^ k) ≤ nI c := nI_ge hc (by omega)
    rw [f_X8_layLargest_h30, pw_all k hk, Option.bind_some, if_neg cge, f1, Option.bind_some]
    dsimp only
    rw [if_pos (okT hb (by omega)), f2, Option.bind_some]
    dsimp only
    rw [nI_1 c, tnI (by omega), f4]
    have hl : cdr (canT n stg knd onn b) (stpT wet knd b) k C 0 (-1) (R c (j + 1)) = nd1 (run (canT n stg knd onn b) (stpT wet knd b) k C c) (0 + k) (ff 0 (-1) k c) ++ cdr (canT n stg knd onn b) (stpT wet knd b) k C 0 (-1) (R (c + 1) j) := rfl
    rw [hl, List.foldl_append]
    rcases f6 with ⟨f6, rfl⟩ | ⟨f6, rfl⟩
    · rw [if_neg i10, f6]
      have hu : List.foldl (upM b) (bs, bf) (nd1 (some D) (0 + k) (ff 0 (-1) k c)) = if D.2.1 b ≤ bs then (bs, bf) else (D.2.1 b, ff 0 (-1) k c) := rfl
      rw [hu]
      by_cases hle : D.2.1 b ≤ bs
      · rw [if_pos hle, if_pos hle]
        exact ih (c + 1) fu bs bf mD2 mZ2 mP2 mX2 (by omega) (by omega) f3
      · have p5 := p4_le (k - 1) (by omega)
        have q0 : 0 < 4 ^ (k - 1) := Nat.pow_pos (by decide)
        have np : ¬ nI (4 ^ (k - 1)) = (0 : Int32) := fun z => absurd ((nI_eq (b := 0) (by omega) (by omega)).mp z) (by omega)
        have ek : nI k - 1 = nI (k - 1) := by
          obtain ⟨z, rfl⟩ : ∃ z, k = z + 1 := ⟨k - 1, by omega⟩
          rw [Int32.sub_eq_add_neg]; exact pm1 z
        have eff : ff 0 (-1) k c = nI (c / 4 ^ (k - 1)) := by rw [ff, if_neg (by omega), if_pos rfl]
        rw [if_neg hle, if_neg hle, ek, pw_all (k - 1) (by omega), Option.bind_some, if_pos np, pk_div (by omega) q0 (by omega), eff]
        exact ih (c + 1) fu _ _ mD2 mZ2 mP2 mX2 (by omega) (by omega) f3
    · rw [if_pos i00, f6]
      exact ih (c + 1) fu bs bf mD2 mZ2 mP2 mX2 (by omega) (by omega) f3
theorem m_L2 {n b : Nat} {w : Nat} {wet : Int32} (hw : w ≤ 9 ∧ wet = nI w) (stg : Int32) {knd : Nat → Nat} {onn mK mO : Nat → Int32} {B M : Nat} {C : CS} (hM6 : M ≤ 6) (hB : B + 9 * 6 < 2 ^ 18) (hG : GD B n b knd onn C) {sS sP sX : Int32} {sD : Nat → Int32} (hS : SV b C sS sP sX sD) : ∀ (j k fu : Nat) (bs bf : Int32) (mD mZ mP mX : Nat → Int32), k + j = M + 1 → 0 < k → j < fu → MR n b knd onn mK mO C mD mZ mP mX →
    ∃ (bs' bf' : Int32) (mD' mZ' mP' mX' : Nat → Int32), f_X8_layLargest_h22 wet stg (nI n) mK mO (nI b) (nI M) fu sS sP sX bs bf mD mZ mP mX sD (nI k) = some (sS, sP, sX, bs', bf', mD', mZ', mP', mX', sD) ∧ MR n b knd onn mK mO C mD' mZ' mP' mX' ∧ List.foldl (upM b) (bs, bf) (LV (fun k => lev (canT n stg knd onn b) (stpT wet knd b) k C 0 (-1)) (R k j)) = (bs', bf') := by
  intro j
  induction j with
  | zero =>
    intro k fu bs bf mD mZ mP mX h h0 hf hM
    obtain ⟨fu, rfl⟩ : ∃ z, fu = z + 1 := ⟨fu - 1, by omega⟩
    rw [f_X8_layLargest_h22, if_pos (show nI M < nI k from nI_lt (by omega) (by omega))]
    exact ⟨bs, bf, mD, mZ, mP, mX, rfl, hM, rfl⟩
  | succ j ih =>
    intro k fu bs bf mD mZ mP mX h h0 hf hM
    obtain ⟨fu, rfl⟩ : ∃ z, fu = z + 1 := ⟨fu - 1, by omega⟩
    have p4 := p4_le k (by omega)
    obtain ⟨bs1, bf1, mD1, mZ1, mP1, mX1, e1, e2, e3⟩ := m_L1 hw stg h0 (by omega) hB hG hS (fun m_savedSize m_savedPlace m_savedSticks m_bestSize m_bestFirst m_depthOf m_sizeOf m_placeOf m_sticksOf m_savedDepth x3 => f_X8_layLargest_h22 wet stg (nI n) mK mO (nI b) (nI M) fu m_savedSize m_savedPlace m_savedSticks m_bestSize m_bestFirst m_depthOf m_sizeOf m_placeOf m_sticksOf m_savedDepth x3) (4 ^ k) 0 4100 bs bf mD mZ mP mX (by omega) (by omega) hM
    obtain ⟨bs2, bf2, mD2, mZ2, mP2, mX2, g1, g2, g3⟩ := ih (k + 1) fu bs1 bf1 mD1 mZ1 mP1 mX1 (by omega) (by omega) (by omega) e2
    rw [f_X8_layLargest_h22, if_neg (show ¬ nI M < nI k from Int32.not_lt.mpr ((nI_leI (by omega) (by omega)).mpr (by omega)))]
    refine ⟨bs2, bf2, mD2, mZ2, mP2, mX2, e1.trans g1, g2, ?_⟩
    show List.foldl (upM b) (bs, bf) (lev (canT n stg knd onn b) (stpT wet knd b) k C 0 (-1) ++ LV _ (R (k + 1) j)) = _
    rw [List.foldl_append, ← cdr_lev, e3, g3]
