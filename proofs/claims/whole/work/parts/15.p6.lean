/-! the relation of the two states behind t calls -/
def RG (L : Nat) (ltr : Int32) (pag : Nat → Int32) (mpl : Int32) (mpg : Nat → Int32) : Prop := ltr = nI L ∧ mpl = nI L ∧ L ≤ 26 ∧ ∀ i : Nat, i < L → ∃ c : Nat, 32 ≤ c ∧ c ≤ 126 ∧ pag i = nI c ∧ mpg i = nI c
def RC (t l a b : Nat) (lrd srs bks mla mil mas mbo : Int32) : Prop := lrd = nI l ∧ mla = nI l ∧ l ≤ t ∧ mil = (if l = 0 then 0 else 1) ∧ srs = nI a ∧ mas = nI a ∧ a ≤ 60 ∧ bks = nI b ∧ mbo = nI b ∧ b ≤ 60
def OK1 (B n : Nat) (knd : Nat → Nat) (siz plc onn axs : Nat → Int32) : Prop := n ≤ 4 ∧ (∀ i : Nat, i < n → BOK B (knd i) (siz i) (plc i) (onn i) (axs i)) ∧ STK n plc onn
def RN (t n : Nat) (n_cnt n_wet n_stg n_dys : Int32) (n_dep : Nat → Int32) (n_knd : Nat → Nat) (n_siz n_plc n_onn n_axs : Nat → Int32) (m_wetness m_strength m_days m_balls : Int32) (m_depthOf m_kindOf m_sizeOf m_placeOf m_onOf m_sticksOf : Nat → Int32) : Prop := n_cnt = nI n ∧ m_balls = nI n ∧ (∃ w : Nat, w ≤ 9 ∧ n_wet = nI w) ∧ m_wetness = n_wet ∧ m_strength = n_stg ∧ m_days = n_dys ∧ OK1 (9 * t + 1) n n_knd n_siz n_plc n_onn n_axs ∧ AG (fun i => i < n) n_knd n_siz n_plc n_onn n_axs m_kindOf m_sizeOf m_placeOf m_onOf m_sticksOf ∧ DOK n_dep m_depthOf
def RZ (l n : Nat) (n_dep : Nat → Int32) : Prop := l = 0 → n = 0 ∧ ∀ p : Nat, p < 20 → n_dep p = 0
def RI (t l n : Nat) (img n_wet : Int32) (n_knd : Nat → Nat) (k_cnt k_wet k_stg k_dys : Int32) (k_dep : Nat → Int32) (k_knd : Nat → Nat) (k_siz k_plc k_onn k_axs : Nat → Int32) (m_isKept m_keptLawn m_keptBalls m_keptStrength m_keptDays : Int32) (m_keptDepth m_keptSize m_keptPlace m_keptOn m_keptSticks : Nat → Int32) : Prop := (img = 0 ∧ (m_isKept = 0 ∨ ∃ kl : Nat, m_keptLawn = nI kl ∧ kl < l)) ∨ (img = 1 ∧ 0 < l ∧ ¬ m_isKept = 0 ∧ m_keptLawn = nI l ∧ ∃ kn : Nat, kn ≤ n ∧ k_cnt = nI kn ∧ m_keptBalls = nI kn ∧ k_wet = n_wet ∧ m_keptStrength = k_stg ∧ m_keptDays = k_dys ∧ OK1 (9 * t + 1) kn k_knd k_siz k_plc k_onn k_axs ∧ (∀ i : Nat, i < kn → k_knd i = n_knd i ∧ m_keptSize i = k_siz i ∧ m_keptPlace i = k_plc i ∧ m_keptOn i = k_onn i ∧ m_keptSticks i = k_axs i) ∧ DOK k_dep m_keptDepth)
def Rel (t : Nat) (ltr lrd srs bks img : Int32) (pag : Nat → Int32) (n_cnt n_wet n_stg n_dys : Int32) (n_dep : Nat → Int32) (n_knd : Nat → Nat) (n_siz n_plc n_onn n_axs : Nat → Int32) (k_cnt k_wet k_stg k_dys : Int32) (k_dep : Nat → Int32) (k_knd : Nat → Nat) (k_siz k_plc k_onn k_axs : Nat → Int32) (m_isLawn m_lawns m_wetness m_strength m_days m_balls m_asks m_books m_pageLength : Int32) (m_depthOf m_kindOf m_sizeOf m_placeOf m_onOf m_sticksOf m_page : Nat → Int32) (m_isKept m_keptLawn m_keptBalls m_keptStrength m_keptDays : Int32) (m_keptDepth m_keptSize m_keptPlace m_keptOn m_keptSticks : Nat → Int32) : Prop := ∃ L l a b n : Nat, RG L ltr pag m_pageLength m_page ∧ RC t l a b lrd srs bks m_lawns m_isLawn m_asks m_books ∧ RN t n n_cnt n_wet n_stg n_dys n_dep n_knd n_siz n_plc n_onn n_axs m_wetness m_strength m_days m_balls m_depthOf m_kindOf m_sizeOf m_placeOf m_onOf m_sticksOf ∧ RZ l n n_dep ∧ RI t l n img n_wet n_knd k_cnt k_wet k_stg k_dys k_dep k_knd k_siz k_plc k_onn k_axs m_isKept m_keptLawn m_keptBalls m_keptStrength m_keptDays m_keptDepth m_keptSize m_keptPlace m_keptOn m_keptSticks
theorem OK1.up {B B' n : Nat} {knd : Nat → Nat} {siz plc onn axs : Nat → Int32} (h : OK1 B n knd siz plc onn axs) (hb : B ≤ B') : OK1 B' n knd siz plc onn axs := ⟨h.1, fun i hi => (h.2.1 i hi).up hb, h.2.2⟩
theorem RC.up {t l a b : Nat} {lrd srs bks mla mil mas mbo : Int32} (h : RC t l a b lrd srs bks mla mil mas mbo) : RC (t + 1) l a b lrd srs bks mla mil mas mbo := by
  obtain ⟨h1, h2, h3, h4⟩ := h
  exact ⟨h1, h2, by omega, h4⟩
theorem RN.up {t n : Nat} {n_cnt n_wet n_stg n_dys : Int32} {n_dep : Nat → Int32} {n_knd : Nat → Nat} {n_siz n_plc n_onn n_axs : Nat → Int32} {m_wetness m_strength m_days m_balls : Int32} {m_depthOf m_kindOf m_sizeOf m_placeOf m_onOf m_sticksOf : Nat → Int32} (h : RN t n n_cnt n_wet n_stg n_dys n_dep n_knd n_siz n_plc n_onn n_axs m_wetness m_strength m_days m_balls m_depthOf m_kindOf m_sizeOf m_placeOf m_onOf m_sticksOf) : RN (t + 1) n n_cnt n_wet n_stg n_dys n_dep n_knd n_siz n_plc n_onn n_axs m_wetness m_strength m_days m_balls m_depthOf m_kindOf m_sizeOf m_placeOf m_onOf m_sticksOf := by
  obtain ⟨h1, h2, h3, h4, h5, h6, h7, h8, h9⟩ := h
  exact ⟨h1, h2, h3, h4, h5, h6, h7.up (by omega), h8, h9⟩
theorem RI.up {t l n : Nat} {img n_wet : Int32} {n_knd : Nat → Nat} {k_cnt k_wet k_stg k_dys : Int32} {k_dep : Nat → Int32} {k_knd : Nat → Nat} {k_siz k_plc k_onn k_axs : Nat → Int32} {m_isKept m_keptLawn m_keptBalls m_keptStrength m_keptDays : Int32} {m_keptDepth m_keptSize m_keptPlace m_keptOn m_keptSticks : Nat → Int32} (h : RI t l n img n_wet n_knd k_cnt k_wet k_stg k_dys k_dep k_knd k_siz k_plc k_onn k_axs m_isKept m_keptLawn m_keptBalls m_keptStrength m_keptDays m_keptDepth m_keptSize m_keptPlace m_keptOn m_keptSticks) : RI (t + 1) l n img n_wet n_knd k_cnt k_wet k_stg k_dys k_dep k_knd k_siz k_plc k_onn k_axs m_isKept m_keptLawn m_keptBalls m_keptStrength m_keptDays m_keptDepth m_keptSize m_keptPlace m_keptOn m_keptSticks := by
  rcases h with h | ⟨h1, h2, h3, h4, kn, g1, g2, g3, g4, g5, g6, g7, g8⟩
  · exact Or.inl h
  · exact Or.inr ⟨h1, h2, h3, h4, kn, g1, g2, g3, g4, g5, g6, g7.up (by omega), g8⟩
theorem Rel.up {t : Nat} {ltr lrd srs bks img : Int32} {pag : Nat → Int32} {n_cnt n_wet n_stg n_dys : Int32} {n_dep : Nat → Int32} {n_knd : Nat → Nat} {n_siz n_plc n_onn n_axs : Nat → Int32} {k_cnt k_wet k_stg k_dys : Int32} {k_dep : Nat → Int32} {k_knd : Nat → Nat} {k_siz k_plc k_onn k_axs : Nat → Int32} {m_isLawn m_lawns m_wetness m_strength m_days m_balls m_asks m_books m_pageLength : Int32} {m_depthOf m_kindOf m_sizeOf m_placeOf m_onOf m_sticksOf m_page : Nat → Int32} {m_isKept m_keptLawn m_keptBalls m_keptStrength m_keptDays : Int32} {m_keptDepth m_keptSize m_keptPlace m_keptOn m_keptSticks : Nat → Int32} (h : Rel t ltr lrd srs bks img pag n_cnt n_wet n_stg n_dys n_dep n_knd n_siz n_plc n_onn n_axs k_cnt k_wet k_stg k_dys k_dep k_knd k_siz k_plc k_onn k_axs m_isLawn m_lawns m_wetness m_strength m_days m_balls m_asks m_books m_pageLength m_depthOf m_kindOf m_sizeOf m_placeOf m_onOf m_sticksOf m_page m_isKept m_keptLawn m_keptBalls m_keptStrength m_keptDays m_keptDepth m_keptSize m_keptPlace m_keptOn m_keptSticks) : Rel (t + 1) ltr lrd srs bks img pag n_cnt n_wet n_stg n_dys n_dep n_knd n_siz n_plc n_onn n_axs k_cnt k_wet k_stg k_dys k_dep k_knd k_siz k_plc k_onn k_axs m_isLawn m_lawns m_wetness m_strength m_days m_balls m_asks m_books m_pageLength m_depthOf m_kindOf m_sizeOf m_placeOf m_onOf m_sticksOf m_page m_isKept m_keptLawn m_keptBalls m_keptStrength m_keptDays m_keptDepth m_keptSize m_keptPlace m_keptOn m_keptSticks := by
  obtain ⟨L, l, a, b, n, h1, h2, h3, h4, h5⟩ := h
  exact ⟨L, l, a, b, n, h1, h2.up, h3.up, h4, h5.up⟩
/-! a number in its bounds, and a ball's number -/
theorem i10 : ¬ (1 : Int32) = 0 := by decide
theorem i00 : (0 : Int32) = 0 := rfl
theorem im1 : (-1 : Int32) = -1 := rfl
theorem rng (a : Int32) {lo hi : Nat} {l h : Int32} (el : l = nI lo) (eh : h = nI hi) (hh : hi < 2 ^ 31) (hl : lo ≤ hi) : (∃ j : Nat, lo ≤ j ∧ j ≤ hi ∧ a = nI j ∧ f_X7_isOutside a l h = some 0 ∧ f_X8_within a l h = some 1) ∨ (f_X7_isOutside a l h = some 1 ∧ f_X8_within a l h = some 0) := by
  subst el; subst eh
  by_cases h1 : a < nI lo
  · right
    rw [f_X7_isOutside, f_X8_within, if_pos h1, if_pos h1]
    exact ⟨rfl, rfl⟩
  · by_cases h2 : a ≤ nI hi
    · left
      have h0 : ¬ a < 0 := by
        intro q
        have h3 : (0 : Int32) ≤ nI lo := nI_pos' (by omega)
        exact h1 (Int32.lt_of_lt_of_le q h3)
      obtain ⟨j, hj, rfl⟩ := nI_of h0
      have g1 : lo ≤ j := by
        refine Nat.not_lt.mp fun q => h1 (nI_lt q (by omega))
      have g2 : j ≤ hi := (nI_leI (by omega) (by omega)).mp h2
      refine ⟨j, g1, g2, rfl, ?_, ?_⟩
      · rw [f_X7_isOutside, if_neg h1, if_pos h2]
      · rw [f_X8_within, if_neg h1, if_neg (Int32.not_lt.mpr h2)]
    · right
      rw [f_X7_isOutside, f_X8_within, if_neg h1, if_neg h1, if_neg h2, if_pos (Int32.not_le.mp h2)]
      exact ⟨rfl, rfl⟩
theorem isPl (a : Int32) : (∃ j : Nat, j < 20 ∧ a = nI j ∧ f_X7_isPlace a = some 1 ∧ f_X8_isPlace a = some 1) ∨ (f_X7_isPlace a = some 0 ∧ f_X8_isPlace a = some 0) := by
  rcases rng a (lo := 0) (hi := 19) (l := 0) (h := 19) rfl rfl (by omega) (by omega) with ⟨j, -, h2, h3, h4, h5⟩ | ⟨h4, h5⟩
  · left
    refine ⟨j, by omega, h3, ?_, ?_⟩
    · rw [f_X7_isPlace, h4, Option.bind_some, if_pos rfl]
    · rw [f_X8_isPlace, h5, Option.bind_some, if_pos (by decide)]
  · right
    refine ⟨?_, ?_⟩
    · rw [f_X7_isPlace, h4, Option.bind_some, if_neg (by decide)]
    · rw [f_X8_isPlace, h5, Option.bind_some, if_pos (by decide)]
theorem isKd (a : Int32) : (∃ j : Nat, j < 5 ∧ a = nI j ∧ f_X7_isKind a = some 1 ∧ f_X8_within a 0 4 = some 1) ∨ (f_X7_isKind a = some 0 ∧ f_X8_within a 0 4 = some 0) := by
  have e : ((5 - 1 : Int32)) = 4 := by decide
  rcases rng a (lo := 0) (hi := 4) (l := 0) (h := 4) rfl rfl (by omega) (by omega) with ⟨j, -, h2, h3, h4, h5⟩ | ⟨h4, h5⟩
  · left
    refine ⟨j, by omega, h3, ?_, h5⟩
    rw [f_X7_isKind, e, h4, Option.bind_some, if_pos rfl]
  · right
    refine ⟨?_, h5⟩
    rw [f_X7_isKind, e, h4, Option.bind_some, if_neg (by decide)]
theorem isSd (a : Int32) : (∃ j : Nat, j < 4 ∧ a = nI j ∧ f_X7_isSide a = some 1 ∧ f_X8_within a 0 3 = some 1) ∨ (f_X7_isSide a = some 0 ∧ f_X8_within a 0 3 = some 0) := by
  rcases rng a (lo := 0) (hi := 3) (l := 0) (h := 3) rfl rfl (by omega) (by omega) with ⟨j, -, h2, h3, h4, h5⟩ | ⟨h4, h5⟩
  · left
    refine ⟨j, by omega, h3, ?_, h5⟩
    rw [f_X7_isSide, h4, Option.bind_some, if_pos rfl]
  · right
    refine ⟨?_, h5⟩
    rw [f_X7_isSide, h4, Option.bind_some, if_neg (by decide)]
theorem isBl (a : Int32) {n : Nat} (hn : n ≤ 4) : (∃ j : Nat, j < n ∧ a = nI j ∧ f_X7_isBall (nI n) a = some 1 ∧ f_X8_isBall (nI n) a = some 1) ∨ (f_X7_isBall (nI n) a = some 0 ∧ f_X8_isBall (nI n) a = some 0) := by
  have one : ((1 : Int32) &&& 1) = 1 := by decide
  have zer : ((0 : Int32) &&& 1) = 0 := by decide
  rw [f_X7_isBall, f_X8_isBall, f_X8_within]
  by_cases h0 : a < 0
  · right
    rw [if_pos h0, if_pos h0, Option.bind_some, if_pos zer]
    exact ⟨rfl, rfl⟩
  · obtain ⟨j, hj, rfl⟩ := nI_of h0
    rw [if_neg h0, if_neg h0]
    by_cases h1 : j < n
    · left
      have e : (nI n - 1 : Int32) = nI (n - 1) := pk_sub (b := 1) (by omega)
      refine ⟨j, h1, rfl, ?_, ?_⟩
      · rw [if_neg (nI_ge h1 (by omega))]
      · rw [e, if_neg (nI_nlt (by omega) (by omega)), Option.bind_some, if_pos one]
    · right
      have h2 : (nI n - 1 : Int32) < nI j := by
        cases n with
        | zero => exact Int32.lt_of_lt_of_le (show (nI 0 - 1 : Int32) < 0 by decide) (nI_pos' hj)
        | succ n =>
          have e : (nI (n + 1) - 1 : Int32) = nI n := pk_sub (b := 1) (by omega)
          rw [e]; exact nI_lt (by omega) hj
      rw [if_pos (nI_le (by omega) hj), if_pos h2, Option.bind_some, if_pos zer]
      exact ⟨rfl, rfl⟩
theorem hasL {t l a b : Nat} {lrd srs bks mla mil mas mbo : Int32} (h : RC t l a b lrd srs bks mla mil mas mbo) (ht : t < 1000) : (0 < l ∧ f_X7_hasLawn lrd = some 1 ∧ (¬ mil = 0) ∧ mil = 1) ∨ (l = 0 ∧ f_X7_hasLawn lrd = some 0 ∧ mil = 0) := by
  obtain ⟨h1, -, h3, h4, -⟩ := h
  subst h1
  rw [f_X7_hasLawn]
  by_cases hl : l = 0
  · right
    subst hl
    rw [h4, if_pos rfl, if_pos (by decide)]
    exact ⟨rfl, rfl, rfl⟩
  · left
    rw [h4, if_neg hl, if_neg (nI_nle (by omega) (by omega))]
    exact ⟨by omega, rfl, by decide, rfl⟩
theorem RN.oks {t n : Nat} (ht : t ≤ 64) {knd : Nat → Nat} {siz plc onn axs : Nat → Int32} (h : OK1 (9 * t + 1) n knd siz plc onn axs) {b : Nat} (hb : b < n) : OKS (9 * t + 1) n b knd siz plc onn axs :=
  ⟨h.1, by have := h.1; omega, by omega, fun i hi => h.2.1 i (by rcases hi with h | h <;> omega), h.2.2⟩
theorem AG.ext {n b : Nat} {knd : Nat → Nat} {siz plc onn axs mK mZ mP mO mX : Nat → Int32} (h : AG (fun i => i < n) knd siz plc onn axs mK mZ mP mO mX) (hb : b < n) : AG (fun i => i < n ∨ i = b) knd siz plc onn axs mK mZ mP mO mX :=
  fun i hi => h i (by rcases hi with h | h <;> omega)
theorem AG.res {n b : Nat} {knd : Nat → Nat} {siz plc onn axs mK mZ mP mO mX : Nat → Int32} (h : AG (fun i => i < n ∨ i = b) knd siz plc onn axs mK mZ mP mO mX) : AG (fun i => i < n) knd siz plc onn axs mK mZ mP mO mX := fun i hi => h i (Or.inl hi)
theorem OKS.ok1 {B n b : Nat} {knd : Nat → Nat} {siz plc onn axs : Nat → Int32} (h : OKS B n b knd siz plc onn axs) : OK1 B n knd siz plc onn axs := ⟨h.1, fun i hi => h.2.2.2.1 i (Or.inl hi), h.2.2.2.2⟩
theorem op_blank {t : Nat} (ht : t < 64) (ltr lrd srs bks img : Int32) (pag : Nat → Int32) (n_cnt n_wet n_stg n_dys : Int32) (n_dep : Nat → Int32) (n_knd : Nat → Nat) (n_siz n_plc n_onn n_axs : Nat → Int32) (k_cnt k_wet k_stg k_dys : Int32) (k_dep : Nat → Int32) (k_knd : Nat → Nat) (k_siz k_plc k_onn k_axs : Nat → Int32) (m_isLawn m_lawns m_wetness m_strength m_days m_balls m_asks m_books m_pageLength m_isKept m_keptLawn m_keptBalls m_keptStrength m_keptDays : Int32) (m_depthOf m_kindOf m_sizeOf m_placeOf m_onOf m_sticksOf m_page m_keptDepth m_keptSize m_keptPlace m_keptOn m_keptSticks : Nat → Int32) (h : Rel t ltr lrd srs bks img pag n_cnt n_wet n_stg n_dys n_dep n_knd n_siz n_plc n_onn n_axs k_cnt k_wet k_stg k_dys k_dep k_knd k_siz k_plc k_onn k_axs m_isLawn m_lawns m_wetness m_strength m_days m_balls m_asks m_books m_pageLength m_depthOf m_kindOf m_sizeOf m_placeOf m_onOf m_sticksOf m_page m_isKept m_keptLawn m_keptBalls m_keptStrength m_keptDays m_keptDepth m_keptSize m_keptPlace m_keptOn m_keptSticks) : ∃ (r ltr_ m_pageLength_ : Int32), f_X7_blank ltr = some (r, ltr_) ∧ f_X8_blank m_pageLength = some (r, m_pageLength_) ∧ Rel (t + 1) ltr_ lrd srs bks img pag n_cnt n_wet n_stg n_dys n_dep n_knd n_siz n_plc n_onn n_axs k_cnt k_wet k_stg k_dys k_dep k_knd k_siz k_plc k_onn k_axs m_isLawn m_lawns m_wetness m_strength m_days m_balls m_asks m_books m_pageLength_ m_depthOf m_kindOf m_sizeOf m_placeOf m_onOf m_sticksOf m_page m_isKept m_keptLawn m_keptBalls m_keptStrength m_keptDays m_keptDepth m_keptSize m_keptPlace m_keptOn m_keptSticks := by
  obtain ⟨L, l, a, b, n, hG, hC, hN, hZ, hI⟩ := id h
  exact ⟨nI L, 0, 0, by rw [f_X7_blank, hG.1], by rw [f_X8_blank, hG.2.1], 0, l, a, b, n, ⟨rfl, rfl, by omega, fun i hi => absurd hi (by omega)⟩, hC.up, hN.up, hZ, hI.up⟩
theorem chr_all : ∀ c, c < 127 → vp_nar .char (((nI c).toUInt32 % 65536).toInt32) = nI c := by decide +kernel
theorem byt_all : ∀ c, c < 127 → vp_nar .byte ((nI c).toInt8.toInt32) = nI c := by decide +kernel
theorem op_letter {t : Nat} (ht : t < 64) (ltr lrd srs bks img : Int32) (pag : Nat → Int32) (n_cnt n_wet n_stg n_dys : Int32) (n_dep : Nat → Int32) (n_knd : Nat → Nat) (n_siz n_plc n_onn n_axs : Nat → Int32) (k_cnt k_wet k_stg k_dys : Int32) (k_dep : Nat → Int32) (k_knd : Nat → Nat) (k_siz k_plc k_onn k_axs : Nat → Int32) (m_isLawn m_lawns m_wetness m_strength m_days m_balls m_asks m_books m_pageLength m_isKept m_keptLawn m_keptBalls m_keptStrength m_keptDays : Int32) (m_depthOf m_kindOf m_sizeOf m_placeOf m_onOf m_sticksOf m_page m_keptDepth m_keptSize m_keptPlace m_keptOn m_keptSticks : Nat → Int32) (h : Rel t ltr lrd srs bks img pag n_cnt n_wet n_stg n_dys n_dep n_knd n_siz n_plc n_onn n_axs k_cnt k_wet k_stg k_dys k_dep k_knd k_siz k_plc k_onn k_axs m_isLawn m_lawns m_wetness m_strength m_days m_balls m_asks m_books m_pageLength m_depthOf m_kindOf m_sizeOf m_placeOf m_onOf m_sticksOf m_page m_isKept m_keptLawn m_keptBalls m_keptStrength m_keptDays m_keptDepth m_keptSize m_keptPlace m_keptOn m_keptSticks) (a1 : Int32) : ∃ (r ltr_ : Int32) (pag_ : Nat → Int32) (m_pageLength_ : Int32) (m_page_ : Nat → Int32), f_X7_letter ltr pag a1 = some (r, ltr_, pag_) ∧ f_X8_letter m_pageLength m_page a1 = some (r, m_pageLength_, m_page_) ∧ Rel (t + 1) ltr_ lrd srs bks img pag_ n_cnt n_wet n_stg n_dys n_dep n_knd n_siz n_plc n_onn n_axs k_cnt k_wet k_stg k_dys k_dep k_knd k_siz k_plc k_onn k_axs m_isLawn m_lawns m_wetness m_strength m_days m_balls m_asks m_books m_pageLength_ m_depthOf m_kindOf m_sizeOf m_placeOf m_onOf m_sticksOf m_page_ m_isKept m_keptLawn m_keptBalls m_keptStrength m_keptDays m_keptDepth m_keptSize m_keptPlace m_keptOn m_keptSticks := by
  obtain ⟨L, l, a, b, n, hG, hC, hN, hZ, hI⟩ := id h
  obtain ⟨hL, hL2, hL3, hL4⟩ := hG
  subst hL; subst hL2
  rcases rng a1 (lo := 32) (hi := 126) (l := 32) (h := 126) rfl rfl (by omega) (by omega) with ⟨c, c1, c2, c3, h4, h5⟩ | ⟨h4, h5⟩
  · rw [f_X7_letter, f_X8_letter, h4, h5, Option.bind_some, Option.bind_some, if_pos rfl, if_neg (show ¬ (1 : Int32) = 0 by decide)]
    by_cases h26 : L = 26
    · subst h26
      rw [if_neg (by decide), if_pos (by decide)]
      exact ⟨_, _, _, _, _, rfl, rfl, h.up⟩
    · rw [if_pos (show nI L < 26 from nI_lt (b := 26) (by omega) (by omega)), if_neg (show ¬ nI L = 26 from fun q => h26 ((nI_eq (b := 26) (by omega) (by omega)).mp q)), if_pos (okT (by omega) (by omega)), if_pos (okT (by omega) (by omega)), tnI (by omega)]
      refine ⟨_, _, _, _, _, rfl, rfl, L + 1, l, a, b, n, ⟨nI_1 L, nI_1 L, by omega, fun i hi => ?_⟩, hC.up, hN.up, hZ, hI.up⟩
      by_cases hiL : i = L
      · subst hiL
        refine ⟨c, c1, c2, ?_, ?_⟩
        · rw [upd_same, c3]
          exact chr_all c (by omega)
        · rw [upd_same, c3]
          exact byt_all c (by omega)
      · rw [upd_ne _ _ hiL, upd_ne _ _ hiL]
        exact hL4 i (by omega)
  · rw [f_X7_letter, f_X8_letter, h4, h5, Option.bind_some, Option.bind_some, if_neg (show ¬ (1 : Int32) = 0 by decide), if_pos rfl]
    exact ⟨_, _, _, _, _, rfl, rfl, h.up⟩
theorem op_strength {t : Nat} (ht : t < 64) (ltr lrd srs bks img : Int32) (pag : Nat → Int32) (n_cnt n_wet n_stg n_dys : Int32) (n_dep : Nat → Int32) (n_knd : Nat → Nat) (n_siz n_plc n_onn n_axs : Nat → Int32) (k_cnt k_wet k_stg k_dys : Int32) (k_dep : Nat → Int32) (k_knd : Nat → Nat) (k_siz k_plc k_onn k_axs : Nat → Int32) (m_isLawn m_lawns m_wetness m_strength m_days m_balls m_asks m_books m_pageLength m_isKept m_keptLawn m_keptBalls m_keptStrength m_keptDays : Int32) (m_depthOf m_kindOf m_sizeOf m_placeOf m_onOf m_sticksOf m_page m_keptDepth m_keptSize m_keptPlace m_keptOn m_keptSticks : Nat → Int32) (h : Rel t ltr lrd srs bks img pag n_cnt n_wet n_stg n_dys n_dep n_knd n_siz n_plc n_onn n_axs k_cnt k_wet k_stg k_dys k_dep k_knd k_siz k_plc k_onn k_axs m_isLawn m_lawns m_wetness m_strength m_days m_balls m_asks m_books m_pageLength m_depthOf m_kindOf m_sizeOf m_placeOf m_onOf m_sticksOf m_page m_isKept m_keptLawn m_keptBalls m_keptStrength m_keptDays m_keptDepth m_keptSize m_keptPlace m_keptOn m_keptSticks) (a1 : Int32) : ∃ (r n_stg_ m_strength_ : Int32), f_X7_strength lrd n_stg a1 = some (r, n_stg_) ∧ f_X8_strength m_isLawn m_strength a1 = some (r, m_strength_) ∧ Rel (t + 1) ltr lrd srs bks img pag n_cnt n_wet n_stg_ n_dys n_dep n_knd n_siz n_plc n_onn n_axs k_cnt k_wet k_stg k_dys k_dep k_knd k_siz k_plc k_onn k_axs m_isLawn m_lawns m_wetness m_strength_ m_days m_balls m_asks m_books m_pageLength m_depthOf m_kindOf m_sizeOf m_placeOf m_onOf m_sticksOf m_page m_isKept m_keptLawn m_keptBalls m_keptStrength m_keptDays m_keptDepth m_keptSize m_keptPlace m_keptOn m_keptSticks := by
  obtain ⟨L, l, a, b, n, hG, hC, hN, hZ, hI⟩ := id h
  rcases rng a1 (lo := 1) (hi := 99) (l := 1) (h := 99) rfl rfl (by omega) (by omega) with ⟨c, c1, c2, c3, h4, h5⟩ | ⟨h4, h5⟩
  · rw [f_X7_strength, f_X8_strength, h4, h5, Option.bind_some, Option.bind_some, if_pos rfl, if_neg (show ¬ (1 : Int32) = 0 by decide)]
    rcases hasL hC (by omega) with ⟨l0, g1, g2, -⟩ | ⟨l0, g1, g2⟩
    · rw [g1, Option.bind_some, if_neg (by decide), if_neg g2]
      have hN2 := hN
      obtain ⟨n1, n2, n3, n4, n5, n6, n7, n8, n9⟩ := hN
      refine ⟨_, _, _, rfl, by rw [n5], L, l, a, b, n, hG, hC.up, ⟨n1, n2, n3, n4, rfl, n6, n7.up (by omega), n8, n9⟩, hZ, hI.up⟩
    · rw [g1, Option.bind_some, if_pos rfl, if_pos g2]
      exact ⟨_, _, _, rfl, rfl, h.up⟩
  · rw [f_X7_strength, f_X8_strength, h4, h5, Option.bind_some, Option.bind_some, if_neg (show ¬ (1 : Int32) = 0 by decide), if_pos rfl]
    exact ⟨_, _, _, rfl, rfl, h.up⟩
