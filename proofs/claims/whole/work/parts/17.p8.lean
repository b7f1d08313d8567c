theorem STK.push {n : Nat} {plc onn : Nat → Int32} (h : STK n plc onn) (hn : n ≤ 4) {p : Nat} (hp : p < 20) (hf : ∀ q : Nat, q < n → ¬ plc q = nI p) : STK (n + 1) (upd plc n (nI p)) (upd onn n (-1)) := by
  obtain ⟨h1, ⟨r, h2⟩, h3, h4⟩ := h
  have ne : ∀ (f : Nat → Int32) (x : Int32) (i : Nat), i < n → upd f n x i = f i := fun f x i hi => upd_ne f x (by omega)
  refine ⟨fun i hi ho => ?_, ⟨r, fun i j hi hj e => ?_⟩, fun i j hi hj ho e => ?_, fun i j hi hj oi oj pi pij => ?_⟩
  · by_cases hin : i = n
    · subst hin; exact absurd (upd_same _ _ _) ho
    · rw [ne _ _ i (by omega)] at ho ⊢
      obtain ⟨j, j1, j2, j3, j4⟩ := h1 i (by omega) ho
      exact ⟨j, by omega, j2, by rw [ne _ _ j j1, ne _ _ i (by omega)]; exact j3, by rw [ne _ _ i (by omega)]; exact j4⟩
  · by_cases hin : i = n
    · subst hin; rw [upd_same] at e; exact absurd e.symm (nI_m1 (by omega))
    · rw [ne _ _ i (by omega)] at e
      by_cases hjn : j = n
      · subst hjn
        obtain ⟨j', j1, j2, -⟩ := h1 i (by omega) (by rw [e]; exact nI_m1 (by omega))
        have := (nI_eq (by omega) (by omega)).mp (e.symm.trans j2)
        omega
      · exact h2 i j (by omega) (by omega) e
  · by_cases hin : i = n
    · subst hin; exact absurd (upd_same _ _ _) ho
    · rw [ne _ _ i (by omega)] at ho e
      by_cases hjn : j = n
      · subst hjn; rw [upd_same] at e; exact absurd e ho
      · rw [ne _ _ j (by omega)] at e
        exact h3 i j (by omega) (by omega) ho e
  · by_cases hin : i = n
    · by_cases hjn : j = n
      · rw [hin, hjn]
      · exfalso
        subst hin
        rw [upd_same, ne _ _ j (by omega)] at pij
        exact hf j (by omega) pij.symm
    · rw [ne _ _ i (by omega)] at oi pi pij
      by_cases hjn : j = n
      · exfalso
        subst hjn
        rw [upd_same] at pij
        exact hf i (by omega) pij
      · rw [ne _ _ j (by omega)] at oj pij
        exact h4 i j (by omega) (by omega) oi oj pi pij
theorem vk_ne {f : Nat → Nat} {k j v : Nat} (h : j ≠ k) : va_up f k v j = f j := if_neg h
theorem vk_eq {f : Nat → Nat} {k v : Nat} : va_up f k v k = v := if_pos rfl
theorem op_ball {t : Nat} (ht : t < 64) (ltr lrd srs bks img : Int32) (pag : Nat → Int32) (n_cnt n_wet n_stg n_dys : Int32) (n_dep : Nat → Int32) (n_knd : Nat → Nat) (n_siz n_plc n_onn n_axs : Nat → Int32) (k_cnt k_wet k_stg k_dys : Int32) (k_dep : Nat → Int32) (k_knd : Nat → Nat) (k_siz k_plc k_onn k_axs : Nat → Int32) (m_isLawn m_lawns m_wetness m_strength m_days m_balls m_asks m_books m_pageLength m_isKept m_keptLawn m_keptBalls m_keptStrength m_keptDays : Int32) (m_depthOf m_kindOf m_sizeOf m_placeOf m_onOf m_sticksOf m_page m_keptDepth m_keptSize m_keptPlace m_keptOn m_keptSticks : Nat → Int32) (h : Rel t ltr lrd srs bks img pag n_cnt n_wet n_stg n_dys n_dep n_knd n_siz n_plc n_onn n_axs k_cnt k_wet k_stg k_dys k_dep k_knd k_siz k_plc k_onn k_axs m_isLawn m_lawns m_wetness m_strength m_days m_balls m_asks m_books m_pageLength m_depthOf m_kindOf m_sizeOf m_placeOf m_onOf m_sticksOf m_page m_isKept m_keptLawn m_keptBalls m_keptStrength m_keptDays m_keptDepth m_keptSize m_keptPlace m_keptOn m_keptSticks) (a1 a2 : Int32) : ∃ (r n_cnt_ : Int32) (n_knd_ : Nat → Nat) (n_siz_ n_plc_ n_onn_ n_axs_ : Nat → Int32) (m_balls_ : Int32) (m_kindOf_ m_sizeOf_ m_placeOf_ m_onOf_ m_sticksOf_ : Nat → Int32), f_X7_ball lrd n_cnt n_knd n_siz n_plc n_onn n_axs a1 a2 = some (r, n_cnt_, n_knd_, n_siz_, n_plc_, n_onn_, n_axs_) ∧ f_X8_ball m_isLawn m_balls m_kindOf m_sizeOf m_placeOf m_onOf m_sticksOf a1 a2 = some (r, m_balls_, m_kindOf_, m_sizeOf_, m_placeOf_, m_onOf_, m_sticksOf_) ∧ Rel (t + 1) ltr lrd srs bks img pag n_cnt_ n_wet n_stg n_dys n_dep n_knd_ n_siz_ n_plc_ n_onn_ n_axs_ k_cnt k_wet k_stg k_dys k_dep k_knd k_siz k_plc k_onn k_axs m_isLawn m_lawns m_wetness m_strength m_days m_balls_ m_asks m_books m_pageLength m_depthOf m_kindOf_ m_sizeOf_ m_placeOf_ m_onOf_ m_sticksOf_ m_page m_isKept m_keptLawn m_keptBalls m_keptStrength m_keptDays m_keptDepth m_keptSize m_keptPlace m_keptOn m_keptSticks := by
  obtain ⟨L, l, a, b, n, hG, hC, hN, hZ, hI⟩ := id h
  obtain ⟨n1, n2, ⟨w, w9, n3⟩, n4, n5, n6, n7, n8, n9⟩ := id hN
  have hn4 := n7.1
  subst n1; subst n2
  have q4 := n4.symm
  have q5 := n5.symm
  have q6 := n6.symm
  subst q4; subst q5; subst q6
  rw [f_X7_ball, f_X8_ball]
  rcases isPl a2 with ⟨p, p1, p2, h4, h5⟩ | ⟨h4, h5⟩
  · rcases isKd a1 with ⟨c, c1, c2, h6, h7⟩ | ⟨h6, h7⟩
    · rcases hasL hC (by omega) with ⟨l0, g1, g2, -⟩ | ⟨l0, g1, g2⟩
      · obtain ⟨x, x1, x2⟩ := v_stand0 (mP := m_placeOf) (mO := m_onOf) hn4 n7.2.2 (fun i hi => ⟨(n8 i hi).2.2.1, (n8 i hi).2.2.2.1⟩) p p1
        have hfr := v_isFree hn4 n_plc (nI p)
        subst p2; subst c2
        simp only [h4, h5, h6, h7, g1, g2, x1, Option.bind_some, i10, eq_self, if_true, if_false]
        by_cases hf : ∀ q : Nat, q < n → ¬ n_plc q = nI p
        · simp only [hfr.1 hf, x2.mpr hf, Option.bind_some, i10, eq_self, if_true, if_false]
          by_cases hn : n = 4
          · subst hn
            simp only [show ¬ (nI 4 < 4) by decide, show nI 4 = (4 : Int32) from rfl, Option.bind_some, i10, eq_self, if_true, if_false]
            exact ⟨_, _, _, _, _, _, _, _, _, _, _, _, _, rfl, rfl, h.up⟩
          · simp only [show (nI n < 4) from nI_lt (b := 4) (by omega) (by omega), show ¬ (nI n = (4 : Int32)) from fun q => hn ((nI_eq (b := 4) (by omega) (by omega)).mp q), f_X1_begin, f_X8_lay, okT (show n < 5 by omega) (by omega), okT c1 (by omega), tnI (show n < 2 ^ 31 by omega), tnI (show c < 2 ^ 31 by omega), Option.bind_some, i10, eq_self, if_true, if_false]
            refine ⟨_, _, _, _, _, _, _, _, _, _, _, _, _, rfl, rfl, L, l, a, b, n + 1, hG, hC.up, ⟨nI_1 n, nI_1 n, ⟨w, w9, n3⟩, rfl, rfl, rfl, ⟨by omega, fun i hi => ?_, n7.2.2.push hn4 p1 hf⟩, fun i hi => ?_, n9⟩, fun q => absurd q (by omega), ?_⟩
            · by_cases hin : i = n
              · subst hin
                rw [vk_eq, upd_same, upd_same, upd_same, upd_same]
                exact ⟨c1, Or.inr ⟨1, p, by omega, by omega, rfl, p1, rfl⟩, Or.inl rfl⟩
              · rw [vk_ne hin, upd_ne _ _ hin, upd_ne _ _ hin, upd_ne _ _ hin, upd_ne _ _ hin]
                exact (n7.2.1 i (by omega)).up (by omega)
            · by_cases hin : i = n
              · subst hin
                rw [vk_eq, upd_same, upd_same, upd_same, upd_same, upd_same, upd_same, upd_same, upd_same, upd_same]
                exact ⟨rfl, rfl, rfl, rfl, rfl⟩
              · rw [vk_ne hin, upd_ne _ _ hin, upd_ne _ _ hin, upd_ne _ _ hin, upd_ne _ _ hin, upd_ne _ _ hin, upd_ne _ _ hin, upd_ne _ _ hin, upd_ne _ _ hin, upd_ne _ _ hin]
                exact n8 i (show i < n by have : i < n + 1 := hi; omega)
            · rcases hI.up with h | ⟨h1, h2, h3, h4, kn, g1, g2, g3, g4, g5, g6, g7, g8⟩
              · exact Or.inl h
              · exact Or.inr ⟨h1, h2, h3, h4, kn, by omega, g2, g3, g4, g5, g6, g7, fun i hi => by rw [vk_ne (by omega)]; exact g8.1 i hi, g8.2⟩
        · simp only [hfr.2 hf, show ¬ x = -1 from fun q => hf (x2.mp q), Option.bind_some, i10, eq_self, if_true, if_false]
          exact ⟨_, _, _, _, _, _, _, _, _, _, _, _, _, rfl, rfl, h.up⟩
      · rw [g2] at h
        simp only [h4, h5, h6, h7, g1, g2, Option.bind_some, i10, eq_self, if_true, if_false]
        exact ⟨_, _, _, _, _, _, _, _, _, _, _, _, _, rfl, rfl, h.up⟩
    · simp only [h4, h5, h6, h7, Option.bind_some, i10, eq_self, if_true, if_false]
      exact ⟨_, _, _, _, _, _, _, _, _, _, _, _, _, rfl, rfl, h.up⟩
  · simp only [h4, h5, Option.bind_some, i10, eq_self, if_true, if_false]
    exact ⟨_, _, _, _, _, _, _, _, _, _, _, _, _, rfl, rfl, h.up⟩
theorem op_count {t : Nat} (ht : t < 64) (ltr lrd srs bks img : Int32) (pag : Nat → Int32) (n_cnt n_wet n_stg n_dys : Int32) (n_dep : Nat → Int32) (n_knd : Nat → Nat) (n_siz n_plc n_onn n_axs : Nat → Int32) (k_cnt k_wet k_stg k_dys : Int32) (k_dep : Nat → Int32) (k_knd : Nat → Nat) (k_siz k_plc k_onn k_axs : Nat → Int32) (m_isLawn m_lawns m_wetness m_strength m_days m_balls m_asks m_books m_pageLength m_isKept m_keptLawn m_keptBalls m_keptStrength m_keptDays : Int32) (m_depthOf m_kindOf m_sizeOf m_placeOf m_onOf m_sticksOf m_page m_keptDepth m_keptSize m_keptPlace m_keptOn m_keptSticks : Nat → Int32) (h : Rel t ltr lrd srs bks img pag n_cnt n_wet n_stg n_dys n_dep n_knd n_siz n_plc n_onn n_axs k_cnt k_wet k_stg k_dys k_dep k_knd k_siz k_plc k_onn k_axs m_isLawn m_lawns m_wetness m_strength m_days m_balls m_asks m_books m_pageLength m_depthOf m_kindOf m_sizeOf m_placeOf m_onOf m_sticksOf m_page m_isKept m_keptLawn m_keptBalls m_keptStrength m_keptDays m_keptDepth m_keptSize m_keptPlace m_keptOn m_keptSticks) (a1 : Int32) : ∃ (r : Int32), f_X7_count ltr lrd srs bks n_cnt n_wet n_stg n_dys n_dep n_siz a1 = some r ∧ f_X8_count m_isLawn m_lawns m_wetness m_strength m_days m_balls m_asks m_books m_pageLength m_depthOf m_sizeOf m_placeOf a1 = some r ∧ Rel (t + 1) ltr lrd srs bks img pag n_cnt n_wet n_stg n_dys n_dep n_knd n_siz n_plc n_onn n_axs k_cnt k_wet k_stg k_dys k_dep k_knd k_siz k_plc k_onn k_axs m_isLawn m_lawns m_wetness m_strength m_days m_balls m_asks m_books m_pageLength m_depthOf m_kindOf m_sizeOf m_placeOf m_onOf m_sticksOf m_page m_isKept m_keptLawn m_keptBalls m_keptStrength m_keptDays m_keptDepth m_keptSize m_keptPlace m_keptOn m_keptSticks := by
  obtain ⟨L, l, a, b, n, hG, hC, hN, hZ, hI⟩ := id h
  obtain ⟨n1, n2, ⟨w, w9, n3⟩, n4, n5, n6, n7, n8, n9⟩ := id hN
  have hn4 := n7.1
  subst n1; subst n2
  have q4 := n4.symm
  have q5 := n5.symm
  have q6 := n6.symm
  subst q4; subst q5; subst q6
  have hsz : f_X8_sizeAll (nI n) m_sizeOf = f_X4_allSizes (nI n) n_siz := by
    rw [v_sizeAll hn4, v_allSizes hn4]
    exact congrArg some (sumL_congr fun q hq => (n8 q (R0.mp hq)).2.1)
  have hgo : f_X8_goneMany (nI n) m_placeOf = f_X4_goneBalls (nI n) n_siz := by
    rw [v_goneMany hn4, v_goneBalls hn4]
    refine congrArg some (sumL_congr fun q hq => ?_)
    have ha := (n7.2.1 q (R0.mp hq)).alive (by omega)
    rw [(n8 q (R0.mp hq)).2.2.1]
    by_cases hp : n_plc q = -1
    · rw [if_pos hp, if_neg (fun z => ha.mp z hp)]
    · rw [if_neg hp, if_pos (ha.mpr hp)]
  have hde : sumL m_depthOf (R 0 20) = sumL n_dep (R 0 20) := sumL_congr fun q hq => by
    obtain ⟨d, -, d1, d2⟩ := n9 q (R0.mp hq)
    rw [d1, d2]
  have hgr : sumL (fun q => if m_depthOf q = 0 then (1 : Int32) else 0) (R 0 20) = sumL (fun q => if n_dep q = 0 then (1 : Int32) else 0) (R 0 20) := sumL_congr fun q hq => by
    obtain ⟨d, -, d1, d2⟩ := n9 q (R0.mp hq)
    rw [d1, d2]
  have bs : ∀ x : Option Int32, (x.bind fun r => some r) = x := fun x => by cases x <;> rfl
  obtain ⟨L1, L2, -⟩ := hG
  have c1 := hC.1
  have c2 := hC.2.1
  have c3 := hC.2.2.2.2
  rw [f_X7_count, f_X8_count, f_X8_howMany, hsz, hgo, L1, L2, c1, c2, c3.1, c3.2.1, c3.2.2.2.1, c3.2.2.2.2.1]
  rw [L1, L2, c1, c2, c3.1, c3.2.1, c3.2.2.2.1, c3.2.2.2.2.1] at h
  have hd0 : ∃ r : Int32, f_X4_allDepths n_dep = some r ∧ f_X8_depthAll m_isLawn m_depthOf = some r := by
    rcases hasL hC (by omega) with ⟨l0, g1, -, g2⟩ | ⟨l0, g1, g2⟩
    · rw [g2, v_allDepths, v_depthAll, hde]
      exact ⟨_, rfl, rfl⟩
    · rw [g2, v_allDepths, v_depthAll0]
      refine ⟨0, congrArg some ?_, rfl⟩
      have hz : sumL n_dep (R 0 20) = sumL (fun _ => 0) (R 0 20) := sumL_congr fun q hq => (hZ l0).2 q (R0.mp hq)
      rw [hz]
      decide
  have hd3 : ∃ r : Int32, ((f_X7_hasLawn (nI l)).bind fun r => if r = 0 then some 0 else (f_X4_greenPlaces n_dep).bind fun r => some r) = some r ∧ f_X8_greenMany m_isLawn m_depthOf = some r := by
    rw [← c1]
    rcases hasL hC (by omega) with ⟨l0, g1, -, g2⟩ | ⟨l0, g1, g2⟩
    · rw [g1, g2, v_green, v_green8, hgr]
      exact ⟨_, rfl, rfl⟩
    · rw [g1, g2, v_green80]
      exact ⟨_, rfl, rfl⟩
  obtain ⟨r0, r1, r2⟩ := hd0
  obtain ⟨r3, r4, r5⟩ := hd3
  obtain ⟨z1, z2⟩ : ∃ z, f_X4_allSizes (nI n) n_siz = some z := ⟨_, v_allSizes hn4 n_siz⟩
  obtain ⟨y1, y2⟩ : ∃ z, f_X4_goneBalls (nI n) n_siz = some z := ⟨_, v_goneBalls hn4 n_siz⟩
  rw [r1, r2, r4, r5, z2, y2]
  simp only [bs]
  by_cases e0 : a1 = 0
  · subst e0; exact ⟨_, rfl, rfl, h.up⟩
  by_cases e1 : a1 = 1
  · subst e1; exact ⟨_, rfl, rfl, h.up⟩
  by_cases e2 : a1 = 2
  · subst e2; exact ⟨_, rfl, rfl, h.up⟩
  by_cases e3 : a1 = 3
  · subst e3; exact ⟨_, rfl, rfl, h.up⟩
  by_cases e4 : a1 = 4
  · subst e4; exact ⟨_, rfl, rfl, h.up⟩
  by_cases e5 : a1 = 5
  · subst e5; exact ⟨_, rfl, rfl, h.up⟩
  by_cases e6 : a1 = 6
  · subst e6; exact ⟨_, rfl, rfl, h.up⟩
  by_cases e7 : a1 = 7
  · subst e7; exact ⟨_, rfl, rfl, h.up⟩
  by_cases e8 : a1 = 8
  · subst e8; exact ⟨_, rfl, rfl, h.up⟩
  by_cases e9 : a1 = 9
  · subst e9; exact ⟨_, rfl, rfl, h.up⟩
  by_cases e10 : a1 = 10
  · subst e10; exact ⟨_, rfl, rfl, h.up⟩
  by_cases e11 : a1 = 11
  · subst e11; exact ⟨_, rfl, rfl, h.up⟩
  simp only [e0, e1, e2, e3, e4, e5, e6, e7, e8, e9, e10, e11, if_false]
  exact ⟨_, rfl, rfl, h.up⟩
/-! lifting -/
def ab (p q : Nat) : Int32 := (f_X8_areBeside (nI p) (nI q)).getD 0
theorem ab_all : ∀ p, p < 20 → ∀ q, q < 20 → f_X7_areBeside (nI p) (nI q) = some (ab p q) ∧ f_X8_areBeside (nI p) (nI q) = some (ab p q) := by decide +kernel
def CanLf (n : Nat) (stg : Int32) (knd : Nat → Nat) (siz plc onn : Nat → Int32) (a b : Nat) : Prop :=
  (0 < siz a ∧ onn a = -1 ∧ ∀ q : Nat, q < n → ¬ onn q = nI a) ∧ 0 < siz b ∧ (∀ q : Nat, q < n → ¬ onn q = nI b) ∧ 2 * (siz a * kf_weightTimes (knd a)) ≤ stg ∧ siz a < siz b ∧ (¬ ab (plc a).toNatClampNeg (plc b).toNatClampNeg = 0) ∧ ¬ 3 ≤ sumL (fun q => if plc q = plc b then (1 : Int32) else 0) (R 0 n)
theorem v_isTopped0 {n : Nat} (hn : n ≤ 4) (onn : Nat → Int32) (b : Nat) : ((∀ q : Nat, q < n → ¬ onn q = nI b) → f_X4_isTopped (nI n) onn (nI b) = some 0) ∧ ((¬ ∀ q : Nat, q < n → ¬ onn q = nI b) → f_X4_isTopped (nI n) onn (nI b) = some 1) := by
  have hx : (∃ q ∈ R 0 n, onn q = nI b) ↔ ¬ ∀ q : Nat, q < n → ¬ onn q = nI b := by
    constructor
    · rintro ⟨q, h1, h2⟩ h; exact h q (R0.mp h1) h2
    · intro h
      refine Classical.byContradiction fun z => h fun q hq e => z ⟨q, R0.mpr hq, e⟩
  rw [v_isTopped hn]
  exact ⟨fun h => by rw [if_neg (fun z => hx.mp z h)], fun h => by rw [if_pos (hx.mpr h)]⟩
theorem v_lifts {B n a b : Nat} {stg : Int32} {knd : Nat → Nat} {siz plc onn axs : Nat → Int32} (h : OKS B n b knd siz plc onn axs) {mK mZ mP mO mX : Nat → Int32} (hg : AG (fun i => i < n ∨ i = b) knd siz plc onn axs mK mZ mP mO mX) (ha : a < n) (hb : b < n) :
    (CanLf n stg knd siz plc onn a b → f_X4_canLift (nI n) stg knd siz plc onn (nI a) (nI b) = some 1 ∧ f_X8_mayLift stg (nI n) mK mZ mP mO (nI a) (nI b) = some 1) ∧ (¬ CanLf n stg knd siz plc onn a b → f_X4_canLift (nI n) stg knd siz plc onn (nI a) (nI b) = some 0 ∧ f_X8_mayLift stg (nI n) mK mZ mP mO (nI a) (nI b) = some 0) := by
  have hn := h.1
  have hB := h.2.2.1
  have hfree := v_isFree8 h hg (a := a) (Or.inl ha)
  obtain ⟨x, x1, x2⟩ := v_above0 h hg b (by omega)
  have hstd := v_standsAlone hn siz onn (b := a) (by omega)
  have htop := v_isTopped0 hn onn b
  obtain ⟨g1, g2, g3, g4, g5⟩ := hg a (Or.inl ha)
  obtain ⟨k1, k2, k3, k4, k5⟩ := hg b (Or.inl hb)
  have hka := h.2.2.2.1 a (Or.inl ha)
  have hkb := h.2.2.2.1 b (Or.inl hb)
  have hal := hkb.alive (by omega)
  have hmany : f_X8_standMany (nI n) mP (mP b) = f_X4_manyAt (nI n) plc (plc b) := by
    rw [v_standMany hn, v_manyAt hn, k3]
    exact congrArg some (sumL_congr fun q hq => by rw [(hg q (Or.inl (R0.mp hq))).2.2.1])
  have oka : ok (nI a) 5 = true := okT (by omega) (by omega)
  have okb : ok (nI b) 5 = true := okT (by omega) (by omega)
  have ta : (nI a).toNatClampNeg = a := tnI (by omega)
  have tb : (nI b).toNatClampNeg = b := tnI (by omega)
  have bs : ∀ x : Option Int32, (x.bind fun r => some r) = x := fun x => by cases x <;> rfl
  rw [f_X4_canLift, f_X8_mayLift]
  simp only [oka, okb, ta, tb, x1, v_isGone, v_weightX hka.1, v_weighs (by omega) hka.1 g1, hmany, v_manyAt hn, g2, g3, k2, k3, Option.bind_some, if_true, eq_self]
  by_cases hA : 0 < siz a ∧ onn a = -1 ∧ ∀ q : Nat, q < n → ¬ onn q = nI a
  · simp only [hstd.1 hA, hfree.1 hA, Option.bind_some, i10, if_false]
    have hpa : ∃ p, p < 20 ∧ plc a = nI p := by
      obtain ⟨-, h | ⟨s, q, -, -, -, h1, h2⟩, -⟩ := hka
      · rw [h.1] at hA; exact absurd hA.1 (by decide)
      · exact ⟨q, h1, h2⟩
    obtain ⟨p, p1, p2⟩ := hpa
    by_cases hbz : 0 < siz b
    · have hpb : ∃ q, q < 20 ∧ plc b = nI q := by
        obtain ⟨-, h | ⟨s, q, -, -, -, h1, h2⟩, -⟩ := hkb
        · rw [h.1] at hbz; exact absurd hbz (by decide)
        · exact ⟨q, h1, h2⟩
      obtain ⟨q, q1, q2⟩ := hpb
      obtain ⟨u1, u2⟩ := ab_all p p1 q q1
      have hab : ab (plc a).toNatClampNeg (plc b).toNatClampNeg = ab p q := by rw [p2, q2, tnI (by omega), tnI (by omega)]
      have hm3 : f_X8_standMany (nI n) mP (nI q) = some (sumL (fun z => if plc z = nI q then (1 : Int32) else 0) (R 0 n)) := by
        rw [v_standMany hn]
        exact congrArg some (sumL_congr fun z hz => by rw [(hg z (Or.inl (R0.mp hz))).2.2.1])
      simp only [p2, q2, hm3, hbz, u1, u2, if_true, eq_self, Option.bind_some, show ¬ (nI q = -1) from nI_m1 (by omega), if_false]
      have hC : CanLf n stg knd siz plc onn a b ↔ ((∀ q : Nat, q < n → ¬ onn q = nI b) ∧ 2 * (siz a * kf_weightTimes (knd a)) ≤ stg ∧ siz a < siz b ∧ (¬ ab p q = 0) ∧ ¬ 3 ≤ sumL (fun z => if plc z = nI q then (1 : Int32) else 0) (R 0 n)) := by
        unfold CanLf
        rw [hab, q2]
        exact ⟨fun h => h.2.2, fun h => ⟨hA, hbz, h⟩⟩
      rw [hC]
      by_cases ht : ∀ q : Nat, q < n → ¬ onn q = nI b
      · simp only [htop.1 ht, x2.mpr ht, Option.bind_some, eq_self, if_true]
        by_cases hw : 2 * (siz a * kf_weightTimes (knd a)) ≤ stg
        · simp only [hw, if_true]
          by_cases hs : siz a < siz b
          · simp only [hs, Int32.not_le.mpr hs, if_true, if_false]
            by_cases hbe : ab p q = 0
            · simp only [hbe, if_true]
              exact ⟨fun h => absurd trivial h.2.2.2.1, fun _ => ⟨trivial, trivial⟩⟩
            · simp only [hbe, if_false]
              by_cases h3 : 3 ≤ sumL (fun z => if plc z = nI q then (1 : Int32) else 0) (R 0 n)
              · simp only [h3, if_true]
                exact ⟨fun h => absurd h.2.2.2.2 (fun z => z trivial), fun _ => ⟨trivial, trivial⟩⟩
              · simp only [h3, if_false]
                exact ⟨fun _ => ⟨trivial, trivial⟩, fun h => absurd ⟨ht, trivial, trivial, id, id⟩ h⟩
          · have hs2 : siz b ≤ siz a := Int32.not_lt.mp hs
            by_cases hbe : ab p q = 0
            · simp only [hs, hbe, if_true, if_false]
              exact ⟨fun h => absurd h.2.2.1 id, fun _ => ⟨trivial, trivial⟩⟩
            · simp only [hs, hs2, hbe, if_true, if_false]
              exact ⟨fun h => absurd h.2.2.1 id, fun _ => ⟨trivial, trivial⟩⟩
        · simp only [hw, if_false]
          exact ⟨fun h => absurd h.2.1 id, fun _ => ⟨trivial, trivial⟩⟩
      · simp only [htop.2 ht, show ¬ x = -1 from fun z => ht (x2.mp z), Option.bind_some, i10, if_false]
        refine ⟨fun h => absurd h.1 ht, fun _ => ⟨?_, trivial⟩⟩
        split <;> rfl
    · have hpb : plc b = -1 := Classical.byContradiction fun z => hbz (hal.mpr z)
      simp only [hbz, hpb, if_false, if_true, eq_self, i10]
      refine ⟨fun h => absurd h.2.1 hbz, fun _ => ⟨?_, trivial⟩⟩
      split <;> rfl
  · simp only [hstd.2 hA, hfree.2 hA, Option.bind_some, if_true, eq_self]
    exact ⟨fun h => absurd h.1 hA, fun _ => ⟨trivial, trivial⟩⟩
theorem STK.lift {n : Nat} {plc onn : Nat → Int32} (h : STK n plc onn) (hn : n ≤ 4) {a b : Nat} (ha : a < n) (hb : b < n) (hab : a ≠ b) (hta : ∀ q : Nat, q < n → ¬ onn q = nI a) (htb : ∀ q : Nat, q < n → ¬ onn q = nI b) (hpb : ¬ plc b = -1) : STK n (upd plc a (plc b)) (upd onn a (nI b)) := by
  obtain ⟨h1, ⟨r, h2⟩, h3, h4⟩ := h
  have hba : b ≠ a := fun z => hab z.symm
  refine ⟨fun i hi ho => ?_, ⟨fun i => if i = a then r b + 1 else r i, fun i j hi hj e => ?_⟩, fun i j hi hj ho e => ?_, fun i j hi hj oi oj pi pij => ?_⟩
  · by_cases hia : i = a
    · subst hia
      rw [upd_same, upd_same]
      exact ⟨b, hb, rfl, upd_ne _ _ hba, hpb⟩
    · rw [upd_ne _ _ hia] at ho ⊢
      obtain ⟨j, j1, j2, j3, j4⟩ := h1 i hi ho
      have hja : j ≠ a := fun z => by subst z; exact hta i hi j2
      exact ⟨j, j1, j2, by rw [upd_ne _ _ hja, upd_ne _ _ hia]; exact j3, by rw [upd_ne _ _ hia]; exact j4⟩
  · by_cases hia : i = a
    · subst hia
      rw [upd_same] at e
      have hjb : b = j := (nI_eq (by omega) (by omega)).mp e
      subst hjb
      show (if b = i then r b + 1 else r b) < (if i = i then r b + 1 else r i)
      rw [if_neg hba, if_pos rfl]
      omega
    · rw [upd_ne _ _ hia] at e
      have hja : j ≠ a := fun z => by subst z; exact hta i hi e
      show (if j = a then r b + 1 else r j) < (if i = a then r b + 1 else r i)
      rw [if_neg hja, if_neg hia]
      exact h2 i j hi hj e
  · by_cases hia : i = a
    · by_cases hja : j = a
      · rw [hia, hja]
      · exfalso
        subst hia
        rw [upd_same, upd_ne _ _ hja] at e
        exact htb j hj e.symm
    · rw [upd_ne _ _ hia] at ho e
      by_cases hja : j = a
      · exfalso
        subst hja
        rw [upd_same] at e
        exact htb i hi e
      · rw [upd_ne _ _ hja] at e
        exact h3 i j hi hj ho e
  · have hia : i ≠ a := fun z => by subst z; rw [upd_same] at oi; exact nI_m1 (by omega) oi
    have hja : j ≠ a := fun z => by subst z; rw [upd_same] at oj; exact nI_m1 (by omega) oj
    rw [upd_ne _ _ hia] at oi pi pij
    rw [upd_ne _ _ hja] at oj pij
    exact h4 i j hi hj oi oj pi pij
theorem op_lift {t : Nat} (ht : t < 64) (ltr lrd srs bks img : Int32) (pag : Nat → Int32) (n_cnt n_wet n_stg n_dys : Int32) (n_dep : Nat → Int32) (n_knd : Nat → Nat) (n_siz n_plc n_onn n_axs : Nat → Int32) (k_cnt k_wet k_stg k_dys : Int32) (k_dep : Nat → Int32) (k_knd : Nat → Nat) (k_siz k_plc k_onn k_axs : Nat → Int32) (m_isLawn m_lawns m_wetness m_strength m_days m_balls m_asks m_books m_pageLength m_isKept m_keptLawn m_keptBalls m_keptStrength m_keptDays : Int32) (m_depthOf m_kindOf m_sizeOf m_placeOf m_onOf m_sticksOf m_page m_keptDepth m_keptSize m_keptPlace m_keptOn m_keptSticks : Nat → Int32) (h : Rel t ltr lrd srs bks img pag n_cnt n_wet n_stg n_dys n_dep n_knd n_siz n_plc n_onn n_axs k_cnt k_wet k_stg k_dys k_dep k_knd k_siz k_plc k_onn k_axs m_isLawn m_lawns m_wetness m_strength m_days m_balls m_asks m_books m_pageLength m_depthOf m_kindOf m_sizeOf m_placeOf m_onOf m_sticksOf m_page m_isKept m_keptLawn m_keptBalls m_keptStrength m_keptDays m_keptDepth m_keptSize m_keptPlace m_keptOn m_keptSticks) (a1 a2 : Int32) : ∃ (r : Int32) (n_plc_ n_onn_ m_placeOf_ m_onOf_ : Nat → Int32), f_X7_lift n_cnt n_stg n_knd n_siz n_plc n_onn a1 a2 = some (r, n_plc_, n_onn_) ∧ f_X8_lift m_strength m_balls m_kindOf m_sizeOf m_placeOf m_onOf a1 a2 = some (r, m_placeOf_, m_onOf_) ∧ Rel (t + 1) ltr lrd srs bks img pag n_cnt n_wet n_stg n_dys n_dep n_knd n_siz n_plc_ n_onn_ n_axs k_cnt k_wet k_stg k_dys k_dep k_knd k_siz k_plc k_onn k_axs m_isLawn m_lawns m_wetness m_strength m_days m_balls m_asks m_books m_pageLength m_depthOf m_kindOf m_sizeOf m_placeOf_ m_onOf_ m_sticksOf m_page m_isKept m_keptLawn m_keptBalls m_keptStrength m_keptDays m_keptDepth m_keptSize m_keptPlace m_keptOn m_keptSticks := by
  obtain ⟨L, l, a, b, n, hG, hC, hN, hZ, hI⟩ := id h
  obtain ⟨n1, n2, ⟨w, w9, n3⟩, n4, n5, n6, n7, n8, n9⟩ := id hN
  have hn4 := n7.1
  subst n1; subst n2
  have q4 := n4.symm
  have q5 := n5.symm
  have q6 := n6.symm
  subst q4; subst q5; subst q6
  rw [f_X7_lift, f_X8_lift]
  rcases isBl a1 hn4 with ⟨i, i1, i2, h4, h5⟩ | ⟨h4, h5⟩
  · rcases isBl a2 hn4 with ⟨j, j1, j2, h6, h7⟩ | ⟨h6, h7⟩
    · subst i2; subst j2
      simp only [h4, h5, h6, h7, Option.bind_some, i10, eq_self, if_true, if_false]
      by_cases hij : nI i = nI j
      · simp only [hij, Option.bind_some, i10, eq_self, if_true, if_false]
        exact ⟨_, _, _, _, _, rfl, rfl, h.up⟩
      · have hne : i ≠ j := fun z => hij (by rw [z])
        have hO := RN.oks (by omega) n7 j1
        have hc := v_lifts (stg := n_stg) hO (n8.ext j1) i1 j1
        by_cases hcl : CanLf n n_stg n_knd n_siz n_plc n_onn i j
        · obtain ⟨u1, u2⟩ := hc.1 hcl
          obtain ⟨⟨y1, y2, y3⟩, y4, y5, -⟩ := hcl
          have hki := n7.2.1 i i1
          have hkj := n7.2.1 j j1
          have hpj : ¬ n_plc j = -1 := (hkj.alive (by omega)).mp y4
          have hST := n7.2.2.lift hn4 i1 j1 hne y3 y5 hpj
          have hBK : ∀ q : Nat, q < n → BOK (9 * t + 1) (n_knd q) (n_siz q) (upd n_plc i (n_plc j) q) (upd n_onn i (nI j) q) (n_axs q) := by
            intro q hq
            by_cases hqi : q = i
            · subst hqi
              rw [upd_same, upd_same]
              obtain ⟨z0, z1 | ⟨s1, q1, z1, z2, z3, z4, z5⟩, z6⟩ := hki
              · rw [z1.1] at y1; exact absurd y1 (by decide)
              · obtain ⟨-, e1 | ⟨s2, q2, -, -, -, e4, e5⟩, -⟩ := hkj
                · exact absurd e1.2.1 hpj
                · exact ⟨z0, Or.inr ⟨s1, q2, z1, z2, z3, e4, e5⟩, z6⟩
            · rw [upd_ne _ _ hqi, upd_ne _ _ hqi]; exact n7.2.1 q hq
          have hAG : AG (fun q => q < n) n_knd n_siz (upd n_plc i (n_plc j)) (upd n_onn i (nI j)) n_axs m_kindOf m_sizeOf (upd m_placeOf i (m_placeOf j)) (upd m_onOf i (nI j)) m_sticksOf := by
            intro q hq
            obtain ⟨g1, g2, g3, g4, g5⟩ := n8 q hq
            by_cases hqi : q = i
            · subst hqi
              rw [upd_same, upd_same, upd_same, upd_same]
              exact ⟨g1, g2, (n8 j j1).2.2.1, rfl, g5⟩
            · rw [upd_ne _ _ hqi, upd_ne _ _ hqi, upd_ne _ _ hqi, upd_ne _ _ hqi]; exact ⟨g1, g2, g3, g4, g5⟩
          have hpq : upd m_placeOf i (m_placeOf j) j = upd n_plc i (n_plc j) j := by
            rw [upd_ne _ _ (fun z => hne z.symm), upd_ne _ _ (fun z => hne z.symm), (n8 j j1).2.2.1]
          obtain ⟨r, r1, r2⟩ := heights hn4 (by omega) hBK hAG (upd n_plc i (n_plc j) j)
          simp only [hij, u1, u2, f_X4_raise, okT (show i < 5 by omega) (by omega), okT (show j < 5 by omega) (by omega), tnI (show i < 2 ^ 31 by omega), tnI (show j < 2 ^ 31 by omega), hpq, r1, r2, Option.bind_some, i10, eq_self, if_true, if_false]
          exact ⟨_, _, _, _, _, rfl, rfl, L, l, a, b, n, hG, hC.up, ⟨rfl, rfl, ⟨w, w9, n3⟩, rfl, rfl, rfl, ⟨hn4, fun q hq => (hBK q hq).up (by omega), hST⟩, hAG, n9⟩, hZ, hI.up⟩
        · obtain ⟨u1, u2⟩ := hc.2 hcl
          simp only [hij, u1, u2, Option.bind_some, i10, eq_self, if_true, if_false]
          exact ⟨_, _, _, _, _, rfl, rfl, h.up⟩
    · simp only [h4, h5, h6, h7, Option.bind_some, i10, eq_self, if_true, if_false]
      exact ⟨_, _, _, _, _, rfl, rfl, h.up⟩
  · simp only [h4, h5, Option.bind_some, i10, eq_self, if_true, if_false]
    exact ⟨_, _, _, _, _, rfl, rfl, h.up⟩
