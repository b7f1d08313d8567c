/-! a day -/
def ls (k c : Nat) : Nat := if k = 4 then 2 * c else if k = 1 then c + 1 else c
theorem ls_all : ∀ k, k < 5 → ∀ c, c < 10 → f_X2_melts (nI c) k = some (nI (ls k c)) ∧ f_X8_loss (nI k) (nI c) = some (nI (ls k c)) ∧ ls k c < 20 ∧ (0 < c → 0 < ls k c) := by decide +kernel
def lw (i : Nat) (onn : Nat → Int32) (a b : Int32) : Nat → Int32 := fun q => if q < i ∧ onn q = a then b else onn q
theorem lw_0 (onn : Nat → Int32) (a b : Int32) : lw 0 onn a b = onn := funext fun q => if_neg (by omega)
theorem lw_at (onn : Nat → Int32) (a b : Int32) (i : Nat) : lw i onn a b i = onn i := if_neg (by omega)
theorem lw_y {onn : Nat → Int32} {a b : Int32} {i : Nat} (h : onn i = a) : upd (lw i onn a b) i b = lw (i + 1) onn a b := by
  funext q
  by_cases hq : q = i
  · subst hq; rw [upd_same]; exact (if_pos ⟨by omega, h⟩).symm
  · rw [upd_ne _ _ hq]
    show (if q < i ∧ onn q = a then b else onn q) = (if q < i + 1 ∧ onn q = a then b else onn q)
    by_cases h2 : q < i ∧ onn q = a
    · rw [if_pos h2, if_pos ⟨by omega, h2.2⟩]
    · rw [if_neg h2, if_neg (fun z => h2 ⟨by omega, z.2⟩)]
theorem lw_n {onn : Nat → Int32} {a b : Int32} {i : Nat} (h : ¬ onn i = a) : lw i onn a b = lw (i + 1) onn a b := by
  funext q
  show (if q < i ∧ onn q = a then b else onn q) = (if q < i + 1 ∧ onn q = a then b else onn q)
  by_cases h2 : q < i ∧ onn q = a
  · rw [if_pos h2, if_pos ⟨by omega, h2.2⟩]
  · rw [if_neg h2, if_neg (fun z => h2 ⟨by
      by_cases hq : q = i
      · subst hq; exact absurd z.2 h
      · omega, z.2⟩)]
theorem l_lower {n : Nat} (hn : n ≤ 4) (onn : Nat → Int32) (a b : Int32) : ∀ (j i k : Nat), i + j = n → j < k → f_X4_lower_h2 (nI n) a b k (lw i onn a b) (nI i) = some (lw n onn a b) := by
  intro j
  induction j with
  | zero =>
    intro i k  h hk
    obtain ⟨k, rfl⟩ : ∃ z, k = z + 1 := ⟨k - 1, by omega⟩
    have hin : n = i := by omega
    subst hin
    rw [f_X4_lower_h2, if_pos (show (nI n : Int32) ≤ nI n from Int32.le_refl _)]
    
  | succ j ih =>
    intro i k  h hk
    obtain ⟨k, rfl⟩ : ∃ z, k = z + 1 := ⟨k - 1, by omega⟩
    have hi : i < n := by omega
    have cge : ¬ (nI n : Int32) ≤ nI i := nI_ge (a := i) (b := n) hi (by omega)
    have cok : ok (nI i) 5 = true := okT (by omega) (by omega)
    have ctn : (nI i).toNatClampNeg = i := tnI (by omega)
    rw [f_X4_lower_h2, if_neg cge]
    rw [if_pos cok, ctn, lw_at, nI_1]
    by_cases hp : onn i = a
    · rw [if_pos hp, lw_y hp]; exact ih (i + 1) k (by omega) (by omega)
    · rw [if_neg hp, lw_n hp]; exact ih (i + 1) k (by omega) (by omega)

theorem v_lower {n : Nat} (hn : n ≤ 4) (onn : Nat → Int32) (a b : Int32) : f_X4_lower (nI n) onn a b = some (lw n onn a b) := by
  have e := l_lower hn onn a b n 0 70 (by omega) (by omega)
  rw [lw_0] at e
  rw [f_X4_lower]; exact e
theorem l_goAway {n : Nat} (hn : n ≤ 4) (P onn : Nat → Int32) (a b : Int32) : ∀ (j i k : Nat), i + j = n → j < k → f_X8_goAway_h23 (nI n) a k P (lw i onn a b) b (nI i) = some (P, lw n onn a b) := by
  intro j
  induction j with
  | zero =>
    intro i k  h hk
    obtain ⟨k, rfl⟩ : ∃ z, k = z + 1 := ⟨k - 1, by omega⟩
    have hin : n = i := by omega
    subst hin
    rw [f_X8_goAway_h23, if_pos (show (nI n : Int32) ≤ nI n from Int32.le_refl _)]
    
  | succ j ih =>
    intro i k  h hk
    obtain ⟨k, rfl⟩ : ∃ z, k = z + 1 := ⟨k - 1, by omega⟩
    have hi : i < n := by omega
    have cge : ¬ (nI n : Int32) ≤ nI i := nI_ge (a := i) (b := n) hi (by omega)
    have cok : ok (nI i) 5 = true := okT (by omega) (by omega)
    have ctn : (nI i).toNatClampNeg = i := tnI (by omega)
    rw [f_X8_goAway_h23, if_neg cge]
    rw [if_pos cok, ctn, lw_at, nI_1]
    by_cases hp : onn i = a
    · rw [if_pos hp, lw_y hp]; exact ih (i + 1) k (by omega) (by omega)
    · rw [if_neg hp, upd_id _ _ _ (lw_at _ _ _ _), lw_n hp]; exact ih (i + 1) k (by omega) (by omega)

theorem v_goAway {n : Nat} (hn : n ≤ 4) (P O : Nat → Int32) {a : Nat} (ha : a < 5) : f_X8_goAway (nI n) P O (nI a) = some (upd P a (-1), lw n (upd O a (-1)) (nI a) (O a)) := by
  have e := l_goAway hn (upd P a (-1)) (upd O a (-1)) (nI a) (O a) n 0 70 (by omega) (by omega)
  rw [lw_0] at e
  rw [f_X8_goAway, if_pos (okT ha (by omega)), tnI (by omega)]; exact e
theorem STK.gone {n : Nat} {plc onn : Nat → Int32} (h : STK n plc onn) (hn : n ≤ 4) {i : Nat} (hi : i < n) : STK n (upd plc i (-1)) (upd (lw n onn (nI i) (onn i)) i (-1)) := by
  obtain ⟨h1, ⟨r, h2⟩, h3, h4⟩ := h
  have on' : ∀ q : Nat, q < n → q ≠ i → (onn q = nI i → upd (lw n onn (nI i) (onn i)) i (-1) q = onn i) ∧ (¬ onn q = nI i → upd (lw n onn (nI i) (onn i)) i (-1) q = onn q) := by
    intro q hq hqi
    rw [upd_ne _ _ hqi]
    exact ⟨fun h => if_pos ⟨hq, h⟩, fun h => if_neg (fun z => h z.2)⟩
  have no_i : ∀ q : Nat, ¬ upd (lw n onn (nI i) (onn i)) i (-1) q = -1 → q ≠ i := fun q h e => by subst e; exact h (upd_same _ _ _)
  have pl_i : ∀ q : Nat, ¬ upd plc i (-1) q = -1 → q ≠ i := fun q h e => by subst e; exact h (upd_same _ _ _)
  refine ⟨fun q hq ho => ?_, ⟨r, fun q j hq hj e => ?_⟩, fun q j hq hj ho e => ?_, fun q j hq hj oq oj pq pqj => ?_⟩
  · have hqi := no_i q ho
    by_cases hb : onn q = nI i
    · rw [(on' q hq hqi).1 hb] at ho ⊢
      obtain ⟨j, j1, j2, j3, j4⟩ := h1 i hi ho
      have hji : j ≠ i := fun z => by subst z; exact absurd (h2 j j hi hi j2) (by omega)
      obtain ⟨i', i1, i2, i3, i4⟩ := h1 q hq (by rw [hb]; exact nI_m1 (by omega))
      have : i' = i := (nI_eq (by omega) (by omega)).mp (i2.symm.trans hb)
      subst this
      exact ⟨j, j1, j2, by rw [upd_ne _ _ hji, upd_ne _ _ hqi, j3]; exact i3, by rw [upd_ne _ _ hqi]; exact i4⟩
    · rw [(on' q hq hqi).2 hb] at ho ⊢
      obtain ⟨j, j1, j2, j3, j4⟩ := h1 q hq ho
      have hji : j ≠ i := fun z => by subst z; exact hb j2
      exact ⟨j, j1, j2, by rw [upd_ne _ _ hji, upd_ne _ _ hqi]; exact j3, by rw [upd_ne _ _ hqi]; exact j4⟩
  · have hqi := no_i q (by rw [e]; exact nI_m1 (by omega))
    by_cases hb : onn q = nI i
    · rw [(on' q hq hqi).1 hb] at e
      exact Nat.lt_trans (h2 i j hi hj e) (h2 q i hq hi hb)
    · rw [(on' q hq hqi).2 hb] at e
      exact h2 q j hq hj e
  · have hqi := no_i q ho
    have hji := no_i j (by rw [← e]; exact ho)
    by_cases hb : onn q = nI i
    · by_cases hc : onn j = nI i
      · exact h3 q j hq hj (by rw [hb]; exact nI_m1 (by omega)) (by rw [hb, hc])
      · rw [(on' q hq hqi).1 hb] at ho e
        rw [(on' j hj hji).2 hc] at e
        exact absurd (h3 i j hi hj ho e) (fun z => hji z.symm)
    · rw [(on' q hq hqi).2 hb] at ho e
      by_cases hc : onn j = nI i
      · rw [(on' j hj hji).1 hc] at e
        exact absurd (h3 q i hq hi ho e) hqi
      · rw [(on' j hj hji).2 hc] at e
        exact h3 q j hq hj ho e
  · have hqi := pl_i q pq
    have hji := pl_i j (by rw [← pqj]; exact pq)
    rw [upd_ne _ _ hqi] at pq pqj
    rw [upd_ne _ _ hji] at pqj
    have place : ∀ q : Nat, q < n → onn q = nI i → plc i = plc q ∧ ¬ plc q = -1 := by
      intro q hq hb
      obtain ⟨i', i1, i2, i3, i4⟩ := h1 q hq (by rw [hb]; exact nI_m1 (by omega))
      have : i' = i := (nI_eq (by omega) (by omega)).mp (i2.symm.trans hb)
      subst this
      exact ⟨i3, i4⟩
    by_cases hb : onn q = nI i
    · by_cases hc : onn j = nI i
      · exact h3 q j hq hj (by rw [hb]; exact nI_m1 (by omega)) (by rw [hb, hc])
      · rw [(on' q hq hqi).1 hb] at oq
        rw [(on' j hj hji).2 hc] at oj
        obtain ⟨u1, u2⟩ := place q hq hb
        exact absurd (h4 i j hi hj oq oj (by rw [u1]; exact u2) (u1.trans pqj)) (fun z => hji z.symm)
    · rw [(on' q hq hqi).2 hb] at oq
      by_cases hc : onn j = nI i
      · rw [(on' j hj hji).1 hc] at oj
        obtain ⟨u1, u2⟩ := place j hj hc
        exact absurd (h4 q i hq hi oq oj pq (pqj.trans u1.symm)) hqi
      · rw [(on' j hj hji).2 hc] at oj
        exact h4 q j hq hj oq oj pq pqj
/-- the size behind the sun, as the reference lays it first -/
def zf (siz plc : Nat → Int32) (knd : Nat → Nat) (c q : Nat) : Int32 := if plc q = -1 then siz q else if (siz q).toNatClampNeg ≤ ls (knd q) c then 0 else nI ((siz q).toNatClampNeg - ls (knd q) c)
theorem day_sim {n : Nat} (hn : n ≤ 4) {B : Nat} (hB : B < 2 ^ 20) {c : Nat} (hc : c < 10) (dys : Int32) (knd : Nat → Nat) (axs Z : Nat → Int32) : ∀ (j i k k2 : Nat) (g : Int32) (siz plc onn P O : Nat → Int32), i + j = n → j < k → j < k2 → OK1 B n knd siz plc onn axs → (∀ q : Nat, q < n → P q = plc q ∧ O q = onn q) → (∀ q : Nat, q < n → i ≤ q → Z q = zf siz plc knd c q) → (∀ q : Nat, q < i → Z q = siz q) →
    ∃ (g' : Int32) (siz' plc' onn' P' O' : Nat → Int32), f_X4_melt_h4 (nI n) dys knd (nI c) k siz plc onn g (nI i) = some (g', dys + 1, siz', plc', onn') ∧ f_X8_day_h89 dys (nI n) k2 Z P O g (nI i) = some (g', dys + 1, Z, P', O') ∧ OK1 B n knd siz' plc' onn' axs ∧ ∀ q : Nat, q < n → P' q = plc' q ∧ O' q = onn' q ∧ Z q = siz' q := by
  intro j
  induction j with
  | zero =>
    intro i k k2 g siz plc onn P O h hk hk2 hO hPO hZ1 hZ2
    obtain ⟨k, rfl⟩ : ∃ z, k = z + 1 := ⟨k - 1, by omega⟩
    obtain ⟨k2, rfl⟩ : ∃ z, k2 = z + 1 := ⟨k2 - 1, by omega⟩
    have hin : n = i := by omega
    subst hin
    refine ⟨g, siz, plc, onn, P, O, ?_, ?_, hO, fun q hq => ⟨(hPO q hq).1, (hPO q hq).2, hZ2 q hq⟩⟩
    · rw [f_X4_melt_h4, if_pos (Int32.le_refl _)]
    · rw [f_X8_day_h89, if_pos (Int32.le_refl _)]
  | succ j ih =>
    intro i k k2 g siz plc onn P O h hk hk2 hO hPO hZ1 hZ2
    obtain ⟨k, rfl⟩ : ∃ z, k = z + 1 := ⟨k - 1, by omega⟩
    obtain ⟨k2, rfl⟩ : ∃ z, k2 = z + 1 := ⟨k2 - 1, by omega⟩
    have hi : i < n := by omega
    have cge : ¬ nI n ≤ nI i := nI_ge hi (by omega)
    have cok : ok (nI i) 5 = true := okT (by omega) (by omega)
    obtain ⟨p1, p2⟩ := hPO i hi
    have hBi := hO.2.1 i hi
    have hzi := hZ1 i hi (Nat.le_refl _)
    rw [f_X4_melt_h4, f_X8_day_h89, if_neg cge, if_neg cge, if_pos cok, if_pos cok, tnI (by omega), v_isGone, Option.bind_some, p1, nI_1]
    obtain ⟨hk5, hgone | ⟨s, q0, s1, s2, s3, s4, s5⟩, hx⟩ := id hBi
    · -- gone before
      obtain ⟨e1, e2, e3⟩ := hgone
      have hz2 : Z i = siz i := by rw [hzi, zf, if_pos e2]
      rw [e1, if_neg (show ¬ (0 : Int32) < 0 by decide), if_neg i10, e2, if_pos im1]
      refine ih (i + 1) k k2 g siz plc onn P O (by omega) (by omega) (by omega) hO hPO (fun q hq hiq => hZ1 q hq (by omega)) (fun q hq => ?_)
      by_cases hqi : q = i
      · subst hqi; exact hz2
      · exact hZ2 q (by omega)
    · obtain ⟨l1, -, l2, -⟩ := ls_all (knd i) hk5 c hc
      have hpl : ¬ plc i = -1 := by rw [s5]; exact nI_m1 (by omega)
      have hpos : (0 : Int32) < siz i := by rw [s3]; exact nI_lt (a := 0) s1 (by omega)
      have htn : (siz i).toNatClampNeg = s := by rw [s3, tnI (by omega)]
      rw [zf, if_neg hpl, htn] at hzi
      rw [if_pos hpos, if_pos i00, if_pos hk5, l1, Option.bind_some, if_neg hpl]
      by_cases hle : s ≤ ls (knd i) c
      · -- it goes now
        rw [if_pos hle] at hzi
        rw [if_pos (show siz i ≤ nI (ls (knd i) c) by rw [s3]; exact nI_le hle (by omega)), v_lower hn, Option.bind_some, f_X1_leave, Option.bind_some, hzi, if_pos i00, v_goAway hn P O (by omega), Option.bind_some]
        dsimp only
        refine ih (i + 1) k k2 (g + 1) (upd siz i 0) (upd plc i (-1)) (upd (lw n onn (nI i) (onn i)) i (-1)) (upd P i (-1)) (lw n (upd O i (-1)) (nI i) (O i)) (by omega) (by omega) (by omega) ⟨hO.1, fun q hq => ?_, hO.2.2.gone hn hi⟩ (fun q hq => ?_) (fun q hq hiq => ?_) (fun q hq => ?_)
        · by_cases hqi : q = i
          · subst hqi; rw [upd_same, upd_same, upd_same]; exact ⟨hk5, Or.inl ⟨rfl, rfl, rfl⟩, hx⟩
          · rw [upd_ne _ _ hqi, upd_ne _ _ hqi, upd_ne _ _ hqi]
            obtain ⟨a1, a2 | a2, a3⟩ := hO.2.1 q hq
            · refine ⟨a1, Or.inl ⟨a2.1, a2.2.1, ?_⟩, a3⟩
              show (if q < n ∧ onn q = nI i then onn i else onn q) = -1
              rw [if_neg (fun z => by rw [a2.2.2] at z; exact nI_m1 (by omega) z.2.symm)]
              exact a2.2.2
            · exact ⟨a1, Or.inr a2, a3⟩
        · by_cases hqi : q = i
          · subst hqi
            rw [upd_same, upd_same, upd_same]
            refine ⟨rfl, ?_⟩
            show (if q < n ∧ upd O q (-1) q = nI q then O q else upd O q (-1) q) = -1
            rw [upd_same, if_neg (fun z => nI_m1 (by omega) z.2.symm)]
          · rw [upd_ne _ _ hqi, upd_ne _ _ hqi, upd_ne _ _ hqi]
            refine ⟨(hPO q hq).1, ?_⟩
            show (if q < n ∧ upd O i (-1) q = nI i then O i else upd O i (-1) q) = (if q < n ∧ onn q = nI i then onn i else onn q)
            rw [upd_ne _ _ hqi, (hPO q hq).2, p2]
        · have hqi : q ≠ i := by omega
          rw [hZ1 q hq (by omega), zf, zf, upd_ne _ _ hqi, upd_ne _ _ hqi]
        · by_cases hqi : q = i
          · subst hqi; rw [upd_same]; exact hzi
          · rw [upd_ne _ _ hqi]; exact hZ2 q (by omega)
      · rw [if_neg hle] at hzi
        have hsub : siz i - nI (ls (knd i) c) = nI (s - ls (knd i) c) := by rw [s3]; exact pk_sub (by omega)
        rw [if_neg (show ¬ siz i ≤ nI (ls (knd i) c) by rw [s3]; exact nI_ge (by omega) (by omega)), hzi, if_neg (show ¬ nI (s - ls (knd i) c) = 0 from nI_ne0 (by omega) (by omega)), hsub]
        refine ih (i + 1) k k2 g (upd siz i (nI (s - ls (knd i) c))) plc onn P O (by omega) (by omega) (by omega) ⟨hO.1, fun q hq => ?_, hO.2.2⟩ hPO (fun q hq hiq => ?_) (fun q hq => ?_)
        · by_cases hqi : q = i
          · subst hqi; rw [upd_same]; exact ⟨hk5, Or.inr ⟨s - ls (knd q) c, q0, by omega, by omega, rfl, s4, s5⟩, hx⟩
          · rw [upd_ne _ _ hqi]; exact hO.2.1 q hq
        · have hqi : q ≠ i := by omega
          rw [hZ1 q hq (by omega), zf, zf, upd_ne _ _ hqi]
        · by_cases hqi : q = i
          · subst hqi; rw [upd_same]; exact hzi
          · rw [upd_ne _ _ hqi]; exact hZ2 q (by omega)
/-- the reference's first round over the balls -/
theorem l_day1 {n : Nat} (hn : n ≤ 4) {B : Nat} (hB : B < 2 ^ 20) {c : Nat} (hc : c < 10) (dys : Int32) {knd : Nat → Nat} {siz plc onn axs mK mZ mP mO mX : Nat → Int32} (hO : OK1 B n knd siz plc onn axs) (hg : AG (fun i => i < n) knd siz plc onn axs mK mZ mP mO mX) : ∀ (j i k : Nat), i + j = n → j < k → f_X8_day_h27 dys (nI n) mK mP mO (nI c) k (cp i (zf siz plc knd c) mZ) 0 (nI i) = f_X8_day_h89 dys (nI n) 70 (cp n (zf siz plc knd c) mZ) mP mO 0 0 := by
  intro j
  induction j with
  | zero =>
    intro i k h hk
    obtain ⟨k, rfl⟩ : ∃ z, k = z + 1 := ⟨k - 1, by omega⟩
    have hin : n = i := by omega
    subst hin
    rw [f_X8_day_h27, if_pos (Int32.le_refl _)]
  | succ j ih =>
    intro i k h hk
    obtain ⟨k, rfl⟩ : ∃ z, k = z + 1 := ⟨k - 1, by omega⟩
    have hi : i < n := by omega
    have cge : ¬ nI n ≤ nI i := nI_ge hi (by omega)
    have cok : ok (nI i) 5 = true := okT (by omega) (by omega)
    obtain ⟨g1, g2, g3, -, -⟩ := hg i hi
    have hat : cp i (zf siz plc knd c) mZ i = siz i := by
      show (if i < i then _ else _) = _
      rw [if_neg (by omega), g2]
    rw [f_X8_day_h27, if_neg cge, if_pos cok, tnI (by omega), g3, nI_1]
    obtain ⟨hk5, hgone | ⟨s, q0, s1, s2, s3, s4, s5⟩, hx⟩ := hO.2.1 i hi
    · rw [if_pos hgone.2.1]
      have hst : cp i (zf siz plc knd c) mZ = cp (i + 1) (zf siz plc knd c) mZ := by
        rw [← cp_step, upd_id]
        rw [hat, zf, if_pos hgone.2.1]
      rw [hst]
      exact ih (i + 1) k (by omega) (by omega)
    · have hpl : ¬ plc i = -1 := by rw [s5]; exact nI_m1 (by omega)
      obtain ⟨-, l1, l2, -⟩ := ls_all (knd i) hk5 c hc
      have htn : (siz i).toNatClampNeg = s := by rw [s3, tnI (by omega)]
      rw [if_neg hpl, g1, l1, Option.bind_some, hat]
      by_cases hle : s ≤ ls (knd i) c
      · have hz : zf siz plc knd c i = 0 := by rw [zf, if_neg hpl, htn, if_pos hle]
        have hup : upd (cp i (zf siz plc knd c) mZ) i 0 = cp (i + 1) (zf siz plc knd c) mZ := by
          have e := cp_step (zf siz plc knd c) mZ i
          rw [hz] at e
          exact e
        by_cases heq : s = ls (knd i) c
        · have hsub : siz i - nI (ls (knd i) c) = 0 := by rw [s3, heq, pk_sub (Nat.le_refl _), Nat.sub_self]; rfl
          rw [hsub, if_pos (Int32.le_refl _), hup]
          exact ih (i + 1) k (by omega) (by omega)
        · have hneg : siz i - nI (ls (knd i) c) < 0 := by rw [s3]; exact pk_sneg (by omega) (by omega)
          rw [if_neg (Int32.not_le.mpr hneg), hup]
          exact ih (i + 1) k (by omega) (by omega)
      · have hsub : siz i - nI (ls (knd i) c) = nI (s - ls (knd i) c) := by rw [s3]; exact pk_sub (by omega)
        have hz : zf siz plc knd c i = nI (s - ls (knd i) c) := by rw [zf, if_neg hpl, htn, if_neg hle]
        rw [hsub, if_pos (nI_pos' (by omega)), ← hz, cp_step]
        exact ih (i + 1) k (by omega) (by omega)
theorem op_day {t : Nat} (ht : t < 64) (ltr lrd srs bks img : Int32) (pag : Nat → Int32) (n_cnt n_wet n_stg n_dys : Int32) (n_dep : Nat → Int32) (n_knd : Nat → Nat) (n_siz n_plc n_onn n_axs : Nat → Int32) (k_cnt k_wet k_stg k_dys : Int32) (k_dep : Nat → Int32) (k_knd : Nat → Nat) (k_siz k_plc k_onn k_axs : Nat → Int32) (m_isLawn m_lawns m_wetness m_strength m_days m_balls m_asks m_books m_pageLength m_isKept m_keptLawn m_keptBalls m_keptStrength m_keptDays : Int32) (m_depthOf m_kindOf m_sizeOf m_placeOf m_onOf m_sticksOf m_page m_keptDepth m_keptSize m_keptPlace m_keptOn m_keptSticks : Nat → Int32) (h : Rel t ltr lrd srs bks img pag n_cnt n_wet n_stg n_dys n_dep n_knd n_siz n_plc n_onn n_axs k_cnt k_wet k_stg k_dys k_dep k_knd k_siz k_plc k_onn k_axs m_isLawn m_lawns m_wetness m_strength m_days m_balls m_asks m_books m_pageLength m_depthOf m_kindOf m_sizeOf m_placeOf m_onOf m_sticksOf m_page m_isKept m_keptLawn m_keptBalls m_keptStrength m_keptDays m_keptDepth m_keptSize m_keptPlace m_keptOn m_keptSticks) (a1 : Int32) : ∃ (r n_dys_ : Int32) (n_siz_ n_plc_ n_onn_ : Nat → Int32) (m_days_ : Int32) (m_sizeOf_ m_placeOf_ m_onOf_ : Nat → Int32), f_X7_day lrd n_cnt n_dys n_knd n_siz n_plc n_onn a1 = some (r, n_dys_, n_siz_, n_plc_, n_onn_) ∧ f_X8_day m_isLawn m_days m_balls m_kindOf m_sizeOf m_placeOf m_onOf a1 = some (r, m_days_, m_sizeOf_, m_placeOf_, m_onOf_) ∧ Rel (t + 1) ltr lrd srs bks img pag n_cnt n_wet n_stg n_dys_ n_dep n_knd n_siz_ n_plc_ n_onn_ n_axs k_cnt k_wet k_stg k_dys k_dep k_knd k_siz k_plc k_onn k_axs m_isLawn m_lawns m_wetness m_strength m_days_ m_balls m_asks m_books m_pageLength m_depthOf m_kindOf m_sizeOf_ m_placeOf_ m_onOf_ m_sticksOf m_page m_isKept m_keptLawn m_keptBalls m_keptStrength m_keptDays m_keptDepth m_keptSize m_keptPlace m_keptOn m_keptSticks := by
  obtain ⟨L, l, a, b, n, hG, hC, hN, hZ, hI⟩ := id h
  obtain ⟨n1, n2, ⟨w, w9, n3⟩, n4, n5, n6, n7, n8, n9⟩ := id hN
  have hn4 := n7.1
  subst n1; subst n2
  have q4 := n4.symm
  have q5 := n5.symm
  have q6 := n6.symm
  subst q4; subst q5; subst q6
  rw [f_X7_day, f_X8_day]
  rcases rng a1 (lo := 0) (hi := 9) (l := 0) (h := 9) rfl rfl (by omega) (by omega) with ⟨c, c1, c2, c3, h4, h5⟩ | ⟨h4, h5⟩
  · subst c3
    rw [h4, h5, Option.bind_some, Option.bind_some, if_pos i00, if_neg i10]
    rcases hasL hC (by omega) with ⟨l0, g1, g2, -⟩ | ⟨l0, g1, g2⟩
    · have e := l_day1 hn4 (B := 9 * t + 1) (by omega) (c := c) (by omega) n_dys n7 n8 n 0 70 (by omega) (by omega)
      rw [cp_0] at e
      obtain ⟨g', siz', plc', onn', P', O', e1, e2, e3, e4⟩ := day_sim hn4 (B := 9 * t + 1) (by omega) (c := c) (by omega) n_dys n_knd n_axs (cp n (zf n_siz n_plc n_knd c) m_sizeOf) n 0 70 70 0 n_siz n_plc n_onn m_placeOf m_onOf (by omega) (by omega) (by omega) n7 (fun q hq => ⟨(n8 q hq).2.2.1, (n8 q hq).2.2.2.1⟩) (fun q hq _ => cp_lt hq) (fun q hq => absurd hq (by omega))
      rw [g1, Option.bind_some, if_neg i10, if_neg g2, f_X4_melt]
      replace e : f_X8_day_h27 n_dys (nI n) m_kindOf m_placeOf m_onOf (nI c) 70 m_sizeOf 0 0 = _ := e
      replace e1 : f_X4_melt_h4 (nI n) n_dys n_knd (nI c) 70 n_siz n_plc n_onn 0 0 = _ := e1
      replace e2 : f_X8_day_h89 n_dys (nI n) 70 _ m_placeOf m_onOf 0 0 = _ := e2
      rw [e, e1, e2, Option.bind_some]
      dsimp only
      exact ⟨_, _, _, _, _, _, _, _, _, rfl, rfl, L, l, a, b, n, hG, hC.up, ⟨rfl, rfl, ⟨w, w9, n3⟩, rfl, rfl, rfl, e3.up (by omega), fun i hi => ⟨(n8 i hi).1, (e4 i hi).2.2, (e4 i hi).1, (e4 i hi).2.1, (n8 i hi).2.2.2.2⟩, n9⟩, hZ, hI.up⟩
    · rw [g1, Option.bind_some, if_pos i00, if_pos g2]
      exact ⟨_, _, _, _, _, _, _, _, _, rfl, rfl, h.up⟩
  · rw [h4, h5, Option.bind_some, Option.bind_some, if_neg i10, if_pos i00]
    exact ⟨_, _, _, _, _, _, _, _, _, rfl, rfl, h.up⟩
/-! how long they last -/
theorem last_sim {n : Nat} (hn : n ≤ 4) {B : Nat} (hB : B < 2 ^ 20) {c : Nat} (hc : c < 10) (hc0 : 0 < c) {knd : Nat → Nat} {siz plc onn axs mK mZ mP mO mX : Nat → Int32} (hO : OK1 B n knd siz plc onn axs) (hg : AG (fun i => i < n) knd siz plc onn axs mK mZ mP mO mX) : ∀ (j i k k2 : Nat) (x : Int32), i + j = n → j < k → j < k2 → ∃ r : Int32, f_X4_daysToFirstGone_h4 (nI n) knd siz (nI c) k x (nI i) = some r ∧ f_X8_lastsNow_h4 (nI n) mK mZ mP (nI c) k2 x (nI i) = some r := by
  intro j
  induction j with
  | zero =>
    intro i k k2 x h hk hk2
    obtain ⟨k, rfl⟩ : ∃ z, k = z + 1 := ⟨k - 1, by omega⟩
    obtain ⟨k2, rfl⟩ : ∃ z, k2 = z + 1 := ⟨k2 - 1, by omega⟩
    have hin : n = i := by omega
    subst hin
    rw [f_X4_daysToFirstGone_h4, f_X8_lastsNow_h4, if_pos (Int32.le_refl _), if_pos (Int32.le_refl _)]
    exact ⟨_, rfl, rfl⟩
  | succ j ih =>
    intro i k k2 x h hk hk2
    obtain ⟨k, rfl⟩ : ∃ z, k = z + 1 := ⟨k - 1, by omega⟩
    obtain ⟨k2, rfl⟩ : ∃ z, k2 = z + 1 := ⟨k2 - 1, by omega⟩
    have hi : i < n := by omega
    have cge : ¬ nI n ≤ nI i := nI_ge hi (by omega)
    have cok : ok (nI i) 5 = true := okT (by omega) (by omega)
    obtain ⟨g1, g2, g3, -, -⟩ := hg i hi
    have hBi := hO.2.1 i hi
    have hal := hBi.alive (by omega)
    have hk5 := hBi.1
    obtain ⟨l1, l2, l3, l4⟩ := ls_all (knd i) hk5 c hc
    have hl0 := l4 hc0
    have hne : ¬ nI (ls (knd i) c) = 0 := nI_ne0 hl0 (by omega)
    rw [f_X4_daysToFirstGone_h4, f_X8_lastsNow_h4, if_neg cge, if_neg cge, if_pos cok, if_pos cok, tnI (by omega), if_pos hk5, l1, Option.bind_some, v_isGone, Option.bind_some, g1, g2, g3, l2, Option.bind_some, nI_1]
    by_cases hp : plc i = -1
    · rw [if_pos hp, if_neg (show ¬ 0 < siz i from fun z => hal.mp z hp), if_neg i10]
      exact ih (i + 1) k k2 x (by omega) (by omega) (by omega)
    · rw [if_neg hp, if_pos (hal.mpr hp), if_pos i00, if_pos (show (0 : Int32) < nI (ls (knd i) c) from nI_lt (a := 0) hl0 (by omega)), if_pos hne, if_pos hne]
      by_cases hx : x = -1
      · rw [if_pos hx, if_pos hx]
        exact ih (i + 1) k k2 _ (by omega) (by omega) (by omega)
      · rw [if_neg hx, if_neg hx]
        by_cases hy : x ≤ ((siz i + nI (ls (knd i) c)) - 1) / nI (ls (knd i) c)
        · rw [if_pos hy, if_pos hy]
          exact ih (i + 1) k k2 _ (by omega) (by omega) (by omega)
        · rw [if_neg hy, if_neg hy]
          exact ih (i + 1) k k2 _ (by omega) (by omega) (by omega)
theorem v_lasts {n : Nat} (hn : n ≤ 4) {B : Nat} (hB : B < 2 ^ 20) {c : Nat} (hc : c < 10) (hc0 : 0 < c) {knd : Nat → Nat} {siz plc onn axs mK mZ mP mO mX : Nat → Int32} (hO : OK1 B n knd siz plc onn axs) (hg : AG (fun i => i < n) knd siz plc onn axs mK mZ mP mO mX) : ∃ r : Int32, f_X4_daysToFirstGone (nI n) knd siz (nI c) = some r ∧ f_X8_lastsNow (nI n) mK mZ mP (nI c) = some r := by
  obtain ⟨r, r1, r2⟩ := last_sim hn hB hc hc0 hO hg n 0 70 70 (-1) (by omega) (by omega) (by omega)
  exact ⟨r, by rw [f_X4_daysToFirstGone]; exact r1, by rw [f_X8_lastsNow]; exact r2⟩
theorem op_lasts {t : Nat} (ht : t < 64) (ltr lrd srs bks img : Int32) (pag : Nat → Int32) (n_cnt n_wet n_stg n_dys : Int32) (n_dep : Nat → Int32) (n_knd : Nat → Nat) (n_siz n_plc n_onn n_axs : Nat → Int32) (k_cnt k_wet k_stg k_dys : Int32) (k_dep : Nat → Int32) (k_knd : Nat → Nat) (k_siz k_plc k_onn k_axs : Nat → Int32) (m_isLawn m_lawns m_wetness m_strength m_days m_balls m_asks m_books m_pageLength m_isKept m_keptLawn m_keptBalls m_keptStrength m_keptDays : Int32) (m_depthOf m_kindOf m_sizeOf m_placeOf m_onOf m_sticksOf m_page m_keptDepth m_keptSize m_keptPlace m_keptOn m_keptSticks : Nat → Int32) (h : Rel t ltr lrd srs bks img pag n_cnt n_wet n_stg n_dys n_dep n_knd n_siz n_plc n_onn n_axs k_cnt k_wet k_stg k_dys k_dep k_knd k_siz k_plc k_onn k_axs m_isLawn m_lawns m_wetness m_strength m_days m_balls m_asks m_books m_pageLength m_depthOf m_kindOf m_sizeOf m_placeOf m_onOf m_sticksOf m_page m_isKept m_keptLawn m_keptBalls m_keptStrength m_keptDays m_keptDepth m_keptSize m_keptPlace m_keptOn m_keptSticks) (a1 : Int32) : ∃ (r : Int32), f_X7_lasts n_cnt n_knd n_siz a1 = some r ∧ f_X8_lasts m_balls m_kindOf m_sizeOf m_placeOf a1 = some r ∧ Rel (t + 1) ltr lrd srs bks img pag n_cnt n_wet n_stg n_dys n_dep n_knd n_siz n_plc n_onn n_axs k_cnt k_wet k_stg k_dys k_dep k_knd k_siz k_plc k_onn k_axs m_isLawn m_lawns m_wetness m_strength m_days m_balls m_asks m_books m_pageLength m_depthOf m_kindOf m_sizeOf m_placeOf m_onOf m_sticksOf m_page m_isKept m_keptLawn m_keptBalls m_keptStrength m_keptDays m_keptDepth m_keptSize m_keptPlace m_keptOn m_keptSticks := by
  obtain ⟨L, l, a, b, n, hG, hC, hN, hZ, hI⟩ := id h
  obtain ⟨n1, n2, ⟨w, w9, n3⟩, n4, n5, n6, n7, n8, n9⟩ := id hN
  have hn4 := n7.1
  subst n1; subst n2
  have q4 := n4.symm
  have q5 := n5.symm
  have q6 := n6.symm
  subst q4; subst q5; subst q6
  rw [f_X7_lasts, f_X8_lasts]
  rcases rng a1 (lo := 1) (hi := 9) (l := 1) (h := 9) rfl rfl (by omega) (by omega) with ⟨c, c1, c2, c3, h4, h5⟩ | ⟨h4, h5⟩
  · subst c3
    obtain ⟨r, r1, r2⟩ := v_lasts hn4 (B := 9 * t + 1) (by omega) (c := c) (by omega) (by omega) n7 n8
    simp only [h4, h5, r1, r2, Option.bind_some, i10, eq_self, if_true, if_false]
    exact ⟨_, rfl, rfl, h.up⟩
  · simp only [h4, h5, Option.bind_some, i10, eq_self, if_true, if_false]
    exact ⟨_, rfl, rfl, h.up⟩
