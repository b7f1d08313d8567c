/-! the page -/
/-- does the letter c belong at place i of a lawn's text? -/
def blN (i c : Nat) : Bool := if i = 23 then c == 59 else if 25 ≤ i then false else if i < 23 ∧ i % 6 = 5 then c == 47 else decide (48 ≤ c ∧ c ≤ 57)
def bi (b : Bool) : Int32 := if b then 1 else 0
theorem bl_all : ∀ i, i < 26 → ∀ c, c < 127 → f_X7_belongsAt (nI i) (nI c) = some (bi (blN i c)) := by decide +kernel
def gst (x1 c : Int32) : Option Int32 := (f_X8_within c 48 57).bind fun r_4 => if x1 = 23 then (if c = 59 then some 1 else some 0) else (if 23 ≤ x1 then (if 25 ≤ x1 then some 0 else (if r_4 = 0 then some 0 else some 1)) else (if (x1 - x1 / 6 * 6) = 5 then (if c = 47 then some 1 else some 0) else (if 25 ≤ x1 then some 0 else (if r_4 = 0 then some 0 else some 1))))
theorem gst_all : ∀ i, i < 26 → ∀ c, c < 127 → gst (nI i) (nI c) = some (bi (blN i c)) := by decide +kernel
theorem read_step (L : Int32) (pg : Nat → Int32) (k i : Nat) (hi : i < 26) (hL : ¬ L ≤ nI i) : f_X8_readLawn_h4 L pg (k + 1) (nI i) 1 = (gst (nI i) (pg i)).bind fun g => if g = 0 then f_X8_readLawn_h4 L pg k (nI i + 0) 0 else f_X8_readLawn_h4 L pg k (nI i + 1) 1 := by
  rw [f_X8_readLawn_h4, if_neg hL, if_neg i10, if_pos (okT hi (by omega)), tnI (by omega), gst]
  obtain ⟨r, hr⟩ : ∃ r, f_X8_within (pg i) 48 57 = some r := by
    rw [f_X8_within]
    split
    · exact ⟨_, rfl⟩
    · split
      · exact ⟨_, rfl⟩
      · exact ⟨_, rfl⟩
  rw [hr]
  simp only [Option.bind_some]
  by_cases e1 : nI i = 23
  · simp only [e1, if_true]
    by_cases e2 : pg i = 59
    · simp only [e2, if_true, Option.bind_some, i10, if_false]
    · simp only [e2, if_false, Option.bind_some, if_true]
  · simp only [e1, if_false]
    by_cases e3 : (23 : Int32) ≤ nI i
    · simp only [e3, if_true]
      by_cases e4 : (25 : Int32) ≤ nI i
      · simp only [e4, if_true, Option.bind_some]
      · simp only [e4, if_false]
        by_cases e5 : r = 0
        · simp only [e5, if_true, Option.bind_some]
        · simp only [e5, if_false, Option.bind_some, i10]
    · simp only [e3, if_false]
      by_cases e6 : (nI i - nI i / 6 * 6 : Int32) = 5
      · simp only [e6, if_true]
        by_cases e2 : pg i = 47
        · simp only [e2, if_true, Option.bind_some, i10, if_false]
        · simp only [e2, if_false, Option.bind_some, if_true]
      · simp only [e6, if_false]
        by_cases e4 : (25 : Int32) ≤ nI i
        · simp only [e4, if_true, Option.bind_some]
        · simp only [e4, if_false]
          by_cases e5 : r = 0
          · simp only [e5, if_true, Option.bind_some]
          · simp only [e5, if_false, Option.bind_some, i10]
/-- both sides find the same place; it is the page's end just when all belong -/
theorem faults {L : Nat} (hL : L ≤ 26) {pag mpg : Nat → Int32} (hp : ∀ i : Nat, i < L → ∃ c : Nat, 32 ≤ c ∧ c ≤ 126 ∧ pag i = nI c ∧ mpg i = nI c) : ∀ (j i k k2 : Nat), i + j = L → j < k → j + 1 < k2 → ∃ f : Nat, i ≤ f ∧ f ≤ L ∧ f_X7_fault_h2 (nI L) pag k (nI i) = some (nI f) ∧ f_X8_readLawn_h4 (nI L) mpg k2 (nI i) 1 = some (nI f) ∧ (f = L → ∀ q : Nat, i ≤ q → q < L → ∃ c : Nat, c < 127 ∧ pag q = nI c ∧ mpg q = nI c ∧ blN q c = true) := by
  intro j
  induction j with
  | zero =>
    intro i k k2 h hk hk2
    obtain ⟨k, rfl⟩ : ∃ z, k = z + 1 := ⟨k - 1, by omega⟩
    obtain ⟨k2, rfl⟩ : ∃ z, k2 = z + 1 := ⟨k2 - 1, by omega⟩
    have hin : L = i := by omega
    subst hin
    refine ⟨L, Nat.le_refl _, Nat.le_refl _, ?_, ?_, fun _ q h1 h2 => absurd h2 (by omega)⟩
    · rw [f_X7_fault_h2, if_pos (Int32.le_refl _)]
    · rw [f_X8_readLawn_h4, if_pos (Int32.le_refl _)]
  | succ j ih =>
    intro i k k2 h hk hk2
    obtain ⟨k, rfl⟩ : ∃ z, k = z + 1 := ⟨k - 1, by omega⟩
    obtain ⟨k2, rfl⟩ : ∃ z, k2 = z + 1 := ⟨k2 - 1, by omega⟩
    have hi : i < L := by omega
    obtain ⟨c, c1, c2, c3, c4⟩ := hp i hi
    have cge : ¬ nI L ≤ nI i := nI_ge hi (by omega)
    rw [f_X7_fault_h2, if_neg cge, if_pos (okT (by omega) (by omega)), tnI (by omega), c3, bl_all i (by omega) c (by omega), Option.bind_some, read_step _ _ _ _ (by omega) cge, c4, gst_all i (by omega) c (by omega), Option.bind_some]
    by_cases hb : blN i c = true
    · rw [hb, show bi true = 1 from rfl, if_neg i10, if_neg i10, nI_1]
      obtain ⟨f, f1, f2, f3, f4, f5⟩ := ih (i + 1) k k2 (by omega) (by omega) (by omega)
      refine ⟨f, by omega, f2, f3, f4, fun e q q1 q2 => ?_⟩
      by_cases hq : q = i
      · subst hq; exact ⟨c, by omega, c3, c4, hb⟩
      · exact f5 e q (by omega) q2
    · have hb2 : blN i c = false := by
        cases hx : blN i c
        · rfl
        · exact absurd hx hb
      rw [hb2, show bi false = 0 from rfl, if_pos i00, if_pos i00, Int32.add_zero]
      obtain ⟨k2, rfl⟩ : ∃ z, k2 = z + 1 := ⟨k2 - 1, by omega⟩
      refine ⟨i, Nat.le_refl _, by omega, rfl, ?_, fun e => absurd e (by omega)⟩
      rw [f_X8_readLawn_h4, if_neg cge, if_pos i00]
theorem v_faults {L : Nat} (hL : L ≤ 26) {pag mpg : Nat → Int32} (hp : ∀ i : Nat, i < L → ∃ c : Nat, 32 ≤ c ∧ c ≤ 126 ∧ pag i = nI c ∧ mpg i = nI c) : ∃ f : Nat, f ≤ L ∧ f_X7_fault (nI L) pag = some (nI f) ∧ f_X8_readLawn (nI L) mpg = some (nI f) ∧ (f = L → ∀ q : Nat, q < L → ∃ c : Nat, c < 127 ∧ pag q = nI c ∧ mpg q = nI c ∧ blN q c = true) := by
  obtain ⟨f, -, f2, f3, f4, f5⟩ := faults hL hp L 0 70 70 (by omega) (by omega) (by omega)
  exact ⟨f, f2, by rw [f_X7_fault]; exact f3, by rw [f_X8_readLawn]; exact f4, fun e q hq => f5 e q (by omega) hq⟩
theorem op_fault {t : Nat} (ht : t < 64) (ltr lrd srs bks img : Int32) (pag : Nat → Int32) (n_cnt n_wet n_stg n_dys : Int32) (n_dep : Nat → Int32) (n_knd : Nat → Nat) (n_siz n_plc n_onn n_axs : Nat → Int32) (k_cnt k_wet k_stg k_dys : Int32) (k_dep : Nat → Int32) (k_knd : Nat → Nat) (k_siz k_plc k_onn k_axs : Nat → Int32) (m_isLawn m_lawns m_wetness m_strength m_days m_balls m_asks m_books m_pageLength m_isKept m_keptLawn m_keptBalls m_keptStrength m_keptDays : Int32) (m_depthOf m_kindOf m_sizeOf m_placeOf m_onOf m_sticksOf m_page m_keptDepth m_keptSize m_keptPlace m_keptOn m_keptSticks : Nat → Int32) (h : Rel t ltr lrd srs bks img pag n_cnt n_wet n_stg n_dys n_dep n_knd n_siz n_plc n_onn n_axs k_cnt k_wet k_stg k_dys k_dep k_knd k_siz k_plc k_onn k_axs m_isLawn m_lawns m_wetness m_strength m_days m_balls m_asks m_books m_pageLength m_depthOf m_kindOf m_sizeOf m_placeOf m_onOf m_sticksOf m_page m_isKept m_keptLawn m_keptBalls m_keptStrength m_keptDays m_keptDepth m_keptSize m_keptPlace m_keptOn m_keptSticks) : ∃ (r m_faultAt_ : Int32), f_X7_fault ltr pag = some r ∧ f_X8_fault m_pageLength m_page = some (r, m_faultAt_) ∧ Rel (t + 1) ltr lrd srs bks img pag n_cnt n_wet n_stg n_dys n_dep n_knd n_siz n_plc n_onn n_axs k_cnt k_wet k_stg k_dys k_dep k_knd k_siz k_plc k_onn k_axs m_isLawn m_lawns m_wetness m_strength m_days m_balls m_asks m_books m_pageLength m_depthOf m_kindOf m_sizeOf m_placeOf m_onOf m_sticksOf m_page m_isKept m_keptLawn m_keptBalls m_keptStrength m_keptDays m_keptDepth m_keptSize m_keptPlace m_keptOn m_keptSticks := by
  obtain ⟨L, l, a, b, n, hG, hC, hN, hZ, hI⟩ := id h
  obtain ⟨hL, hL2, hL3, hL4⟩ := hG
  subst hL; subst hL2
  obtain ⟨f, f1, f2, f3, -⟩ := v_faults hL3 hL4
  rw [f_X8_fault, f2, f3]
  exact ⟨_, _, rfl, rfl, h.up⟩
/-! a lawn is read -/
def lo (p : Nat) : Nat := p + p / 5
theorem lo_all : ∀ p, p < 20 → lo p < 24 ∧ lo p ≠ 23 ∧ lo p % 6 ≠ 5 := by decide +kernel
theorem lo_X : ∀ p, p < 20 → f_X7_letterOf (nI p) = some (nI (lo p)) := by decide +kernel
theorem lo_M : ∀ p, p < 20 → ((nI p / 5) * 6 + (nI p - nI p / 5 * 5) : Int32) = nI (lo p) := by decide +kernel
def rd (pag : Nat → Int32) : Nat → Int32 := fun p => pag (lo p) - 48
theorem l_lawnX (lrd a b c : Int32) (pag dep : Nat → Int32) : ∀ (j i k : Nat), i + j = 20 → j < k → f_X7_lawn_h30 lrd pag k a b c (cp i (rd pag) dep) (nI i) = some (sumL (cp 20 (rd pag) dep) (R 0 20), 0, lrd + 1, 0, a, pag 24 - 48, b, c, cp 20 (rd pag) dep) := by
  intro j
  induction j with
  | zero =>
    intro i k  h hk
    obtain ⟨k, rfl⟩ : ∃ z, k = z + 1 := ⟨k - 1, by omega⟩
    have hin : i = 20 := by omega
    subst hin
    rw [f_X7_lawn_h30, if_pos (show (20 : Int32) ≤ nI 20 from Int32.le_refl _)]
    rw [v_allDepths, Option.bind_some]
  | succ j ih =>
    intro i k  h hk
    obtain ⟨k, rfl⟩ : ∃ z, k = z + 1 := ⟨k - 1, by omega⟩
    have hi : i < 20 := by omega
    have cge : ¬ (20 : Int32) ≤ nI i := nI_ge (a := i) (b := 20) hi (by omega)
    have cok : ok (nI i) 20 = true := okT (by omega) (by omega)
    have ctn : (nI i).toNatClampNeg = i := tnI (by omega)
    rw [f_X7_lawn_h30, if_neg cge]
    rw [lo_X i hi, Option.bind_some, if_pos (okT (show lo i < 26 by have := (lo_all i hi).1; omega) (by omega)), if_pos cok, ctn, tnI (show lo i < 2 ^ 31 by have := (lo_all i hi).1; omega), show pag (lo i) - 48 = rd pag i from rfl, cp_step, nI_1]
    exact ih (i + 1) k (by omega) (by omega)

theorem l_lawnM (la fa : Int32) (pag dep : Nat → Int32) : ∀ (j i k : Nat), i + j = 20 → j < k → f_X8_lawn_h29 la pag k fa (cp i (rd pag) dep) (nI i) = some (sumL (cp 20 (rd pag) dep) (R 0 20), 1, la + 1, pag 24 - 48, 20, 0, 0, 0, fa, cp 20 (rd pag) dep) := by
  intro j
  induction j with
  | zero =>
    intro i k  h hk
    obtain ⟨k, rfl⟩ : ∃ z, k = z + 1 := ⟨k - 1, by omega⟩
    have hin : i = 20 := by omega
    subst hin
    rw [f_X8_lawn_h29, if_pos (show (20 : Int32) ≤ nI 20 from Int32.le_refl _)]
    rw [v_depthAll, Option.bind_some]
  | succ j ih =>
    intro i k  h hk
    obtain ⟨k, rfl⟩ : ∃ z, k = z + 1 := ⟨k - 1, by omega⟩
    have hi : i < 20 := by omega
    have cge : ¬ (20 : Int32) ≤ nI i := nI_ge (a := i) (b := 20) hi (by omega)
    have cok : ok (nI i) 20 = true := okT (by omega) (by omega)
    have ctn : (nI i).toNatClampNeg = i := tnI (by omega)
    rw [f_X8_lawn_h29, if_neg cge]
    rw [lo_M i hi, if_pos (okT (show lo i < 26 by have := (lo_all i hi).1; omega) (by omega)), if_pos cok, ctn, tnI (show lo i < 2 ^ 31 by have := (lo_all i hi).1; omega), show pag (lo i) - 48 = rd pag i from rfl, cp_step, nI_1]
    exact ih (i + 1) k (by omega) (by omega)

theorem op_lawn {t : Nat} (ht : t < 64) (ltr lrd srs bks img : Int32) (pag : Nat → Int32) (n_cnt n_wet n_stg n_dys : Int32) (n_dep : Nat → Int32) (n_knd : Nat → Nat) (n_siz n_plc n_onn n_axs : Nat → Int32) (k_cnt k_wet k_stg k_dys : Int32) (k_dep : Nat → Int32) (k_knd : Nat → Nat) (k_siz k_plc k_onn k_axs : Nat → Int32) (m_isLawn m_lawns m_wetness m_strength m_days m_balls m_asks m_books m_pageLength m_isKept m_keptLawn m_keptBalls m_keptStrength m_keptDays : Int32) (m_depthOf m_kindOf m_sizeOf m_placeOf m_onOf m_sticksOf m_page m_keptDepth m_keptSize m_keptPlace m_keptOn m_keptSticks : Nat → Int32) (h : Rel t ltr lrd srs bks img pag n_cnt n_wet n_stg n_dys n_dep n_knd n_siz n_plc n_onn n_axs k_cnt k_wet k_stg k_dys k_dep k_knd k_siz k_plc k_onn k_axs m_isLawn m_lawns m_wetness m_strength m_days m_balls m_asks m_books m_pageLength m_depthOf m_kindOf m_sizeOf m_placeOf m_onOf m_sticksOf m_page m_isKept m_keptLawn m_keptBalls m_keptStrength m_keptDays m_keptDepth m_keptSize m_keptPlace m_keptOn m_keptSticks) : ∃ (r ltr_ lrd_ img_ n_cnt_ n_wet_ n_stg_ n_dys_ : Int32) (n_dep_ : Nat → Int32) (m_isLawn_ m_lawns_ m_wetness_ m_strength_ m_days_ m_balls_ m_pageLength_ m_faultAt_ : Int32) (m_depthOf_ : Nat → Int32), f_X7_lawn ltr lrd img pag n_cnt n_wet n_stg n_dys n_dep = some (r, ltr_, lrd_, img_, n_cnt_, n_wet_, n_stg_, n_dys_, n_dep_) ∧ f_X8_lawn m_isLawn m_lawns m_wetness m_strength m_days m_balls m_pageLength m_depthOf m_page = some (r, m_isLawn_, m_lawns_, m_wetness_, m_strength_, m_days_, m_balls_, m_pageLength_, m_faultAt_, m_depthOf_) ∧ Rel (t + 1) ltr_ lrd_ srs bks img_ pag n_cnt_ n_wet_ n_stg_ n_dys_ n_dep_ n_knd n_siz n_plc n_onn n_axs k_cnt k_wet k_stg k_dys k_dep k_knd k_siz k_plc k_onn k_axs m_isLawn_ m_lawns_ m_wetness_ m_strength_ m_days_ m_balls_ m_asks m_books m_pageLength_ m_depthOf_ m_kindOf m_sizeOf m_placeOf m_onOf m_sticksOf m_page m_isKept m_keptLawn m_keptBalls m_keptStrength m_keptDays m_keptDepth m_keptSize m_keptPlace m_keptOn m_keptSticks := by
  obtain ⟨L, l, a, b, n, hG, hC, hN, hZ, hI⟩ := id h
  obtain ⟨n1, n2, ⟨w, w9, n3⟩, n4, n5, n6, n7, n8, n9⟩ := id hN
  have hn4 := n7.1
  subst n1; subst n2
  have q4 := n4.symm
  have q5 := n5.symm
  have q6 := n6.symm
  subst q4; subst q5; subst q6
  obtain ⟨hL, hL2, hL3, hL4⟩ := hG
  subst hL; subst hL2
  obtain ⟨f, f1, f2, f3, f4⟩ := v_faults hL3 hL4
  rw [f_X7_lawn, f_X8_lawn, f2, f3, Option.bind_some, Option.bind_some]
  by_cases h25 : L = 25
  · subst h25
    by_cases hf : f = 25
    · subst hf
      have e1 := l_lawnX lrd 0 20 0 pag n_dep 20 0 70 rfl (by omega)
      have e2 := l_lawnM m_lawns (nI 25) m_page m_depthOf 20 0 70 rfl (by omega)
      rw [cp_0] at e1 e2
      replace e1 : f_X7_lawn_h30 lrd pag 70 0 20 0 n_dep 0 = _ := e1
      replace e2 : f_X8_lawn_h29 m_lawns m_page 70 (nI 25) m_depthOf 0 = _ := e2
      rw [if_pos (show nI 25 = (25 : Int32) from rfl), if_pos (show nI 25 = nI 25 from rfl), f_X4_clear, Option.bind_some]
      dsimp only
      rw [if_pos (show nI 25 = (25 : Int32) from rfl), e1, if_pos (show nI 25 = (25 : Int32) from rfl), e2]
      have dig : ∀ q : Nat, q < 25 → q ≠ 23 → q % 6 ≠ 5 → ∃ d : Nat, d ≤ 9 ∧ pag q - 48 = nI d ∧ m_page q - 48 = nI d := by
        intro q q1 q2 q3
        obtain ⟨c, c1, c2, c3, c4⟩ := f4 rfl q q1
        unfold blN at c4
        rw [if_neg q2, if_neg (by omega), if_neg (by omega)] at c4
        have c5 := of_decide_eq_true c4
        refine ⟨c - 48, by omega, ?_, ?_⟩
        · rw [c2]; exact pk_sub (b := 48) (by omega)
        · rw [c3]; exact pk_sub (b := 48) (by omega)
      have hD : DOK (cp 20 (rd pag) n_dep) (cp 20 (rd m_page) m_depthOf) := by
        intro p hp
        obtain ⟨z1, z2, z3⟩ := lo_all p hp
        rw [cp_lt hp, cp_lt hp]
        exact dig (lo p) (by omega) z2 z3
      have hsum : sumL (cp 20 (rd m_page) m_depthOf) (R 0 20) = sumL (cp 20 (rd pag) n_dep) (R 0 20) := sumL_congr fun q hq => by
        obtain ⟨d, -, d1, d2⟩ := hD q (R0.mp hq)
        rw [d1, d2]
      obtain ⟨dw, w1, w2, w3⟩ := dig 24 (by omega) (by omega) (by omega)
      obtain ⟨u1, u2, u3, u4, u5⟩ := hC
      rw [hsum]
      refine ⟨_, _, _, _, _, _, _, _, _, _, _, _, _, _, _, _, _, _, rfl, rfl, 0, l + 1, a, b, 0, ⟨rfl, rfl, by omega, fun i hi => absurd hi (by omega)⟩, ⟨by rw [u1, nI_1], by rw [u2, nI_1], by omega, (if_neg (by omega)).symm, u5⟩, ⟨rfl, rfl, ⟨dw, w1, w2⟩, by rw [w3, w2], rfl, rfl, ⟨by omega, fun i hi => absurd hi (by omega), fun i hi => absurd hi (by omega), ⟨fun _ => 0, fun i j hi => absurd hi (by omega)⟩, fun i j hi => absurd hi (by omega), fun i j hi => absurd hi (by omega)⟩, fun i hi => absurd (show i < 0 from hi) (by omega), hD⟩, fun q => absurd q (by omega), Or.inl ⟨rfl, ?_⟩⟩
      rcases hI with ⟨-, h1 | ⟨kl, h1, h2⟩⟩ | ⟨-, h1, h2, h3, -⟩
      · exact Or.inl h1
      · exact Or.inr ⟨kl, h1, by omega⟩
      · exact Or.inr ⟨l, h3, by omega⟩
    · have hne : ¬ nI f = nI 25 := fun q => hf ((nI_eq (by omega) (by omega)).mp q)
      rw [if_pos (show nI 25 = (25 : Int32) from rfl), if_neg (show ¬ nI f = (25 : Int32) from hne), if_neg hne]
      exact ⟨_, _, _, _, _, _, _, _, _, _, _, _, _, _, _, _, _, _, rfl, rfl, h.up⟩
  · have hne : ¬ nI L = (25 : Int32) := fun q => h25 ((nI_eq (b := 25) (by omega) (by omega)).mp q)
    rw [if_neg hne]
    by_cases hf : nI f = nI L
    · rw [if_pos hf, if_neg hne]
      exact ⟨_, _, _, _, _, _, _, _, _, _, _, _, _, _, _, _, _, _, rfl, rfl, h.up⟩
    · rw [if_neg hf]
      exact ⟨_, _, _, _, _, _, _, _, _, _, _, _, _, _, _, _, _, _, rfl, rfl, h.up⟩
