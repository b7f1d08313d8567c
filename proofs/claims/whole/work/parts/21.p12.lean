/-! the games -/
theorem OK1.oks {B n : Nat} {knd : Nat → Nat} {siz plc onn axs : Nat → Int32} (h : OK1 B n knd siz plc onn axs) (hB : B < 2 ^ 20) {b : Nat} (hb : b < n) : OKS B n b knd siz plc onn axs :=
  ⟨h.1, by have := h.1; omega, hB, fun i hi => h.2.1 i (by rcases hi with h | h <;> omega), h.2.2⟩
theorem DOK.d9 {dep mD : Nat → Int32} (h : DOK dep mD) : ∀ p : Nat, p < 20 → ∃ d : Nat, d ≤ 9 ∧ dep p = nI d := fun p hp => by obtain ⟨d, d1, d2, -⟩ := h p hp; exact ⟨d, d1, d2⟩
theorem l64_mask {n : Nat} (hn : n < 2 ^ 64) : lN n &&& 2147483647 = lN (n % 2147483648) := by
  apply Int64.toBitVec_inj.mp
  rw [Int64.toBitVec_and]
  apply BitVec.eq_of_toNat_eq
  show (BitVec.ofNat 64 n &&& BitVec.ofNat 64 2147483647).toNat = (BitVec.ofNat 64 (n % 2147483648)).toNat
  rw [BitVec.toNat_and, BitVec.toNat_ofNat, BitVec.toNat_ofNat, BitVec.toNat_ofNat, Nat.mod_eq_of_lt hn, Nat.mod_eq_of_lt (show 2147483647 < 2 ^ 64 by decide), Nat.mod_eq_of_lt (show n % 2147483648 < 2 ^ 64 by omega)]
  exact Nat.and_two_pow_sub_one_eq_mod n 31
def nx (m : Nat) : Nat := (1103515245 * m + 12345) % 2147483648
theorem nx_lt (m : Nat) : nx m < 2147483648 := Nat.mod_lt _ (by decide)
theorem nx_e (m : Nat) : ((1103515245 * lN m) + 12345 : Int64) = lN (1103515245 * m + 12345) := by
  rw [show (1103515245 : Int64) = lN 1103515245 from rfl, show (12345 : Int64) = lN 12345 from rfl, lN_mul, lN_add]
theorem v_next {m : Nat} (hm : m < 2147483648) : f_X7_nextSeed (lN m) = some (lN (nx m)) := by
  rw [f_X7_nextSeed, nx_e]
  exact congrArg some (pk_lRem (a := 1103515245 * m + 12345) (b := 2147483648) (by omega) (by decide) (by decide))
theorem v_drawOf {m k : Nat} {x : Int32} (hx : x = nI k) (hm : m < 2147483648) (h0 : 0 < k) (hk : k < 2 ^ 31) : f_X7_drawOf (lN m) x = some (nI (m / 65536 % k)) := by
  subst hx
  have c1 : ¬ nI k ≤ 0 := Int32.not_le.mpr (nI_lt (a := 0) h0 (by omega))
  have c2 : ¬ lN k = 0 := fun q => absurd ((lN_eq (b := 0) hk (by omega)).mp q) (by omega)
  rw [f_X7_drawOf, if_neg c1, nI_l hk, if_pos c2, show (65536 : Int64) = lN 65536 from rfl, pk_lDiv (by omega) (by decide) (by decide), pk_lRem (by omega) h0 (by omega), lN_i]
theorem v_draw {m k : Nat} {x : Int32} (hx : x = nI k) (hm : m < 2147483648) (h0 : 0 < k) (hk : k < 2 ^ 31) : f_X8_draw (lN m) x = some (nI (nx m / 65536 % k), lN (nx m)) := by
  subst hx
  have c2 : ¬ lN k = 0 := fun q => absurd ((lN_eq (b := 0) hk (by omega)).mp q) (by omega)
  have e : (1103515245 * m + 12345) % 2147483648 = nx m := rfl
  have := nx_lt m
  rw [f_X8_draw, nI_l hk, if_pos c2, nx_e, l64_mask (by omega), e, show (65536 : Int64) = lN 65536 from rfl, pk_lDiv (by omega) (by decide) (by decide), pk_lRem (by omega) h0 (by omega), lN_i]
theorem l_gbB {n : Nat} (hn : n ≤ 4) (sd : Int64) (D gS gP gX gD Z P X : Nat → Int32) (r : Int32) : ∀ (j i k : Nat), i + j = n → j < k → f_X8_gamesNow_h226 (nI n) k sd D (cp i gS Z) (cp i gP P) (cp i gX X) gS gP gX gD r (nI i) = some (r, sd, D, cp n gS Z, cp n gP P, cp n gX X, gS, gP, gX, gD) := by
  intro j
  induction j with
  | zero =>
    intro i k  h hk
    obtain ⟨k, rfl⟩ : ∃ z, k = z + 1 := ⟨k - 1, by omega⟩
    have hin : n = i := by omega
    subst hin
    rw [f_X8_gamesNow_h226, if_pos (show (nI n : Int32) ≤ nI n from Int32.le_refl _)]
    
  | succ j ih =>
    intro i k  h hk
    obtain ⟨k, rfl⟩ : ∃ z, k = z + 1 := ⟨k - 1, by omega⟩
    have hi : i < n := by omega
    have cge : ¬ (nI n : Int32) ≤ nI i := nI_ge (a := i) (b := n) hi (by omega)
    have cok : ok (nI i) 5 = true := okT (by omega) (by omega)
    have ctn : (nI i).toNatClampNeg = i := tnI (by omega)
    rw [f_X8_gamesNow_h226, if_neg cge]
    rw [if_pos (okT (show i < 4 by omega) (by omega)), if_pos cok, ctn, cp_step, cp_step, cp_step, nI_1]
    exact ih (i + 1) k (by omega) (by omega)

theorem l_gbD {n : Nat} (hn : n ≤ 4) (sd : Int64) (D gS gP gX gD Z P X : Nat → Int32) (r : Int32) : ∀ (j i k : Nat), i + j = 20 → j < k → f_X8_gamesNow_h196 (nI n) k sd (cp i gD D) Z P X gS gP gX gD r (nI i) = some (r, sd, cp 20 gD D, cp n gS Z, cp n gP P, cp n gX X, gS, gP, gX, gD) := by
  intro j
  induction j with
  | zero =>
    intro i k  h hk
    obtain ⟨k, rfl⟩ : ∃ z, k = z + 1 := ⟨k - 1, by omega⟩
    have hin : i = 20 := by omega
    subst hin
    rw [f_X8_gamesNow_h196, if_pos (show (20 : Int32) ≤ nI 20 from Int32.le_refl _)]
    have e := l_gbB hn sd (cp 20 gD D) gS gP gX gD Z P X r n 0 70 (by omega) (by omega)
    rw [cp_0, cp_0, cp_0] at e
    exact e
  | succ j ih =>
    intro i k  h hk
    obtain ⟨k, rfl⟩ : ∃ z, k = z + 1 := ⟨k - 1, by omega⟩
    have hi : i < 20 := by omega
    have cge : ¬ (20 : Int32) ≤ nI i := nI_ge (a := i) (b := 20) hi (by omega)
    have cok : ok (nI i) 20 = true := okT (by omega) (by omega)
    have ctn : (nI i).toNatClampNeg = i := tnI (by omega)
    rw [f_X8_gamesNow_h196, if_neg cge]
    rw [if_pos cok, ctn, cp_step, nI_1]
    exact ih (i + 1) k (by omega) (by omega)

theorem l_gsB {n : Nat} (hn : n ≤ 4) (il we st a1 a2 a3 : Int32) (D K Z P O X gS gP gX gD : Nat → Int32) : ∀ (j i k : Nat), i + j = n → j < k → f_X8_gamesNow_h33 il we st (nI n) D K Z P O X a1 a2 a3 k (cp i Z gS) (cp i P gP) (cp i X gX) gD (nI i) = f_X8_gamesNow_h102 il we st (nI n) K O a1 a3 70 (Int32.toInt64 a2) D Z P X (cp n Z gS) (cp n P gP) (cp n X gX) gD 0 0 := by
  intro j
  induction j with
  | zero =>
    intro i k  h hk
    obtain ⟨k, rfl⟩ : ∃ z, k = z + 1 := ⟨k - 1, by omega⟩
    have hin : n = i := by omega
    subst hin
    rw [f_X8_gamesNow_h33, if_pos (show (nI n : Int32) ≤ nI n from Int32.le_refl _)]
    
  | succ j ih =>
    intro i k  h hk
    obtain ⟨k, rfl⟩ : ∃ z, k = z + 1 := ⟨k - 1, by omega⟩
    have hi : i < n := by omega
    have cge : ¬ (nI n : Int32) ≤ nI i := nI_ge (a := i) (b := n) hi (by omega)
    have cok : ok (nI i) 5 = true := okT (by omega) (by omega)
    have ctn : (nI i).toNatClampNeg = i := tnI (by omega)
    rw [f_X8_gamesNow_h33, if_neg cge]
    rw [if_pos cok, if_pos (okT (show i < 4 by omega) (by omega)), ctn, cp_step, cp_step, cp_step, nI_1]
    exact ih (i + 1) k (by omega) (by omega)

theorem l_gsD {n : Nat} (hn : n ≤ 4) (il we st a1 a2 a3 : Int32) (D K Z P O X gS gP gX gD : Nat → Int32) : ∀ (j i k : Nat), i + j = 20 → j < k → f_X8_gamesNow_h3 il we st (nI n) D K Z P O X gS gP gX a1 a2 a3 k (cp i D gD) (nI i) = f_X8_gamesNow_h102 il we st (nI n) K O a1 a3 70 (Int32.toInt64 a2) D Z P X (cp n Z gS) (cp n P gP) (cp n X gX) (cp 20 D gD) 0 0 := by
  intro j
  induction j with
  | zero =>
    intro i k  h hk
    obtain ⟨k, rfl⟩ : ∃ z, k = z + 1 := ⟨k - 1, by omega⟩
    have hin : i = 20 := by omega
    subst hin
    rw [f_X8_gamesNow_h3, if_pos (show (20 : Int32) ≤ nI 20 from Int32.le_refl _)]
    have e := l_gsB hn il we st a1 a2 a3 D K Z P O X gS gP gX (cp 20 D gD) n 0 70 (by omega) (by omega)
    rw [cp_0, cp_0, cp_0] at e
    exact e
  | succ j ih =>
    intro i k  h hk
    obtain ⟨k, rfl⟩ : ∃ z, k = z + 1 := ⟨k - 1, by omega⟩
    have hi : i < 20 := by omega
    have cge : ¬ (20 : Int32) ≤ nI i := nI_ge (a := i) (b := 20) hi (by omega)
    have cok : ok (nI i) 20 = true := okT (by omega) (by omega)
    have ctn : (nI i).toNatClampNeg = i := tnI (by omega)
    rw [f_X8_gamesNow_h3, if_neg cge]
    rw [if_pos cok, ctn, cp_step, nI_1]
    exact ih (i + 1) k (by omega) (by omega)

theorem g_sim {n : Nat} (h0 : 0 < n) {T : Nat} (hT : T ≤ 60) {w : Nat} {wet : Int32} (hw : w ≤ 9 ∧ wet = nI w) (stg dys a3 : Int32) (knd : Nat → Nat) (onn mK mO gS gP gX gD : Nat → Int32) : ∀ (j i k k2 B m : Nat) (x : Int32) (dep siz plc axs mD mZ mP mX : Nat → Int32), i + j = T → j < k → j < k2 → B + 9 * j < 2 ^ 18 → m < 2147483648 → OK1 B n knd siz plc onn axs → AG (fun i => i < n) knd siz plc onn axs mK mZ mP mO mX → DOK dep mD →
    ∃ (r : Int32) (dep' siz' plc' axs' : Nat → Int32) (sd : Int64) (mD' mZ' mP' mX' : Nat → Int32), f_X7_games_h67 (nI T) a3 k (nI n) wet stg dys dep knd siz plc onn axs (lN m) x (nI i) = some (r, nI n, wet, stg, dys, dep', knd, siz', plc', onn, axs') ∧ f_X8_gamesNow_h102 1 wet stg (nI n) mK mO (nI T) a3 k2 (lN m) mD mZ mP mX gS gP gX gD x (nI i) = f_X8_gamesNow_h196 (nI n) 70 sd mD' mZ' mP' mX' gS gP gX gD r 0 := by
  intro j
  induction j with
  | zero =>
    intro i k k2 B m x dep siz plc axs mD mZ mP mX h hk hk2 hB hm hO hg hd
    obtain ⟨k, rfl⟩ : ∃ z, k = z + 1 := ⟨k - 1, by omega⟩
    obtain ⟨k2, rfl⟩ : ∃ z, k2 = z + 1 := ⟨k2 - 1, by omega⟩
    have hin : T = i := by omega
    subst hin
    have hn := hO.1
    rw [f_X7_games_h67, f_X8_gamesNow_h102, if_pos (Int32.le_refl _), if_pos (Int32.le_refl _)]
    by_cases e0 : a3 = 0
    · have hs : sumL (fun q => mZ q) (R 0 n) = sumL (fun q => siz q) (R 0 n) := sumL_congr fun q hq => (hg q (R0.mp hq)).2.1
      rw [if_pos e0, if_pos e0, v_allSizes hn, v_sizeAll hn, Option.bind_some, Option.bind_some, hs]
      exact ⟨_, _, _, _, _, _, _, _, _, _, rfl, rfl⟩
    · rw [if_neg e0, if_neg e0]
      by_cases e1 : a3 = 1
      · rw [if_pos e1, if_pos e1]
        exact ⟨_, _, _, _, _, _, _, _, _, _, rfl, rfl⟩
      · rw [if_neg e1, if_neg e1]
        by_cases e2 : a3 = 2
        · have hs : sumL mD (R 0 20) = sumL dep (R 0 20) := sumL_congr fun q hq => by obtain ⟨d, -, d2, d3⟩ := hd q (R0.mp hq); rw [d2, d3]
          rw [if_pos e2, if_pos e2, v_allDepths, v_depthAll, Option.bind_some, Option.bind_some, hs]
          exact ⟨_, _, _, _, _, _, _, _, _, _, rfl, rfl⟩
        · rw [if_neg e2, if_neg e2]
          exact ⟨_, _, _, _, _, _, _, _, _, _, rfl, rfl⟩
  | succ j ih =>
    intro i k k2 B m x dep siz plc axs mD mZ mP mX h hk hk2 hB hm hO hg hd
    obtain ⟨k, rfl⟩ : ∃ z, k = z + 1 := ⟨k - 1, by omega⟩
    obtain ⟨k2, rfl⟩ : ∃ z, k2 = z + 1 := ⟨k2 - 1, by omega⟩
    have hn := hO.1
    have cge : ¬ nI T ≤ nI i := nI_ge (by omega) (by omega)
    have m1 := nx_lt m
    have m2 := nx_lt (nx m)
    have b1 : nx m / 65536 % n < n := Nat.mod_lt _ h0
    have s1 : nx (nx m) / 65536 % 4 < 4 := Nat.mod_lt _ (by decide)
    rw [f_X7_games_h67, f_X8_gamesNow_h102, if_neg cge, if_neg cge, v_next hm, Option.bind_some, v_drawOf rfl m1 h0 (by omega), Option.bind_some, v_next m1, Option.bind_some, v_drawOf (k := 4) (x := 4) rfl m2 (by decide) (by decide), Option.bind_some, v_draw rfl hm h0 (by omega), Option.bind_some]
    dsimp only
    rw [v_draw (k := 4) (x := 4) rfl m1 (by decide) (by decide), Option.bind_some]
    dsimp only
    generalize nx m / 65536 % n = b at b1
    generalize nx (nx m) / 65536 % 4 = s at s1
    have hS := hO.oks (by omega) b1
    have hX := v_canRoll hn stg knd siz plc onn axs (b := b) (by omega) s1 (hO.2.1 b b1) (by omega)
    have hM := v_mayRoll (stg := stg) hS (hg.ext b1) (Or.inr rfl) s1
    by_cases hc : CanR n stg knd siz plc onn axs b s
    · have hXP := v_push (wet := wet) (dep := dep) (b := b) (s := s) (by omega) s1 (hO.2.1 b b1) (by omega) hw hd.d9 hc
      have hMP := v_doRoll (wet := wet) (b := b) (s := s) (by omega) s1 (hO.2.1 b b1) (by omega) hw hd (hg b b1) hc
      have hV := roll_inv (wet := wet) hS (hg.ext b1) hd hw (by omega) (Or.inr rfl) s1 hc
      rw [hX.1 hc, hM.1 hc, Option.bind_some, Option.bind_some, if_neg i10, if_neg i10, hXP, hMP, Option.bind_some, Option.bind_some]
      dsimp only
      rw [nI_1]
      exact ih (i + 1) k k2 (B + 9) (nx (nx m)) (x + 1) _ _ _ _ _ _ _ _ (by omega) (by omega) (by omega) (by omega) m2 hV.1.ok1 hV.2.1.res hV.2.2
    · rw [hX.2 hc, hM.2 hc, Option.bind_some, Option.bind_some, if_pos i00, if_pos i00, nI_1]
      exact ih (i + 1) k k2 B (nx (nx m)) x _ _ _ _ _ _ _ _ (by omega) (by omega) (by omega) (by omega) m2 hO hg hd
theorem op_games {t : Nat} (ht : t < 64) (ltr lrd srs bks img : Int32) (pag : Nat → Int32) (n_cnt n_wet n_stg n_dys : Int32) (n_dep : Nat → Int32) (n_knd : Nat → Nat) (n_siz n_plc n_onn n_axs : Nat → Int32) (k_cnt k_wet k_stg k_dys : Int32) (k_dep : Nat → Int32) (k_knd : Nat → Nat) (k_siz k_plc k_onn k_axs : Nat → Int32) (t_cnt t_wet t_stg t_dys : Int32) (t_dep : Nat → Int32) (t_knd : Nat → Nat) (t_siz t_plc t_onn t_axs : Nat → Int32) (m_isLawn m_lawns m_wetness m_strength m_days m_balls m_asks m_books m_pageLength : Int32) (m_seedNow : Int64) (m_isKept m_keptLawn m_keptBalls m_keptStrength m_keptDays : Int32) (m_depthOf m_kindOf m_sizeOf m_placeOf m_onOf m_sticksOf m_page m_gameSize m_gamePlace m_gameSticks m_gameDepth m_keptDepth m_keptSize m_keptPlace m_keptOn m_keptSticks : Nat → Int32) (h : Rel t ltr lrd srs bks img pag n_cnt n_wet n_stg n_dys n_dep n_knd n_siz n_plc n_onn n_axs k_cnt k_wet k_stg k_dys k_dep k_knd k_siz k_plc k_onn k_axs m_isLawn m_lawns m_wetness m_strength m_days m_balls m_asks m_books m_pageLength m_depthOf m_kindOf m_sizeOf m_placeOf m_onOf m_sticksOf m_page m_isKept m_keptLawn m_keptBalls m_keptStrength m_keptDays m_keptDepth m_keptSize m_keptPlace m_keptOn m_keptSticks) (a1 a2 a3 : Int32) : ∃ (r t_cnt_ t_wet_ t_stg_ t_dys_ : Int32) (t_dep_ : Nat → Int32) (t_knd_ : Nat → Nat) (t_siz_ t_plc_ t_onn_ t_axs_ : Nat → Int32) (m_seedNow_ : Int64) (m_depthOf_ m_sizeOf_ m_placeOf_ m_sticksOf_ m_gameSize_ m_gamePlace_ m_gameSticks_ m_gameDepth_ : Nat → Int32), f_X7_games lrd n_cnt n_wet n_stg n_dys n_dep n_knd n_siz n_plc n_onn n_axs t_cnt t_wet t_stg t_dys t_dep t_knd t_siz t_plc t_onn t_axs a1 a2 a3 = some (r, t_cnt_, t_wet_, t_stg_, t_dys_, t_dep_, t_knd_, t_siz_, t_plc_, t_onn_, t_axs_) ∧ f_X8_games m_isLawn m_wetness m_strength m_balls m_seedNow m_depthOf m_kindOf m_sizeOf m_placeOf m_onOf m_sticksOf m_gameSize m_gamePlace m_gameSticks m_gameDepth a1 a2 a3 = some (r, m_seedNow_, m_depthOf_, m_sizeOf_, m_placeOf_, m_sticksOf_, m_gameSize_, m_gamePlace_, m_gameSticks_, m_gameDepth_) ∧ Rel (t + 1) ltr lrd srs bks img pag n_cnt n_wet n_stg n_dys n_dep n_knd n_siz n_plc n_onn n_axs k_cnt k_wet k_stg k_dys k_dep k_knd k_siz k_plc k_onn k_axs m_isLawn m_lawns m_wetness m_strength m_days m_balls m_asks m_books m_pageLength m_depthOf_ m_kindOf m_sizeOf_ m_placeOf_ m_onOf m_sticksOf_ m_page m_isKept m_keptLawn m_keptBalls m_keptStrength m_keptDays m_keptDepth m_keptSize m_keptPlace m_keptOn m_keptSticks := by
  obtain ⟨L, l, a, b, n, hG, hC, hN, hZ, hI⟩ := id h
  obtain ⟨n1, n2, ⟨w, w9, n3⟩, n4, n5, n6, n7, n8, n9⟩ := id hN
  have hn4 := n7.1
  subst n1; subst n2
  have q4 := n4.symm
  have q5 := n5.symm
  have q6 := n6.symm
  subst q4; subst q5; subst q6
  rw [f_X7_games, f_X8_games]
  rcases rng a1 (lo := 1) (hi := 60) (l := 1) (h := 60) rfl rfl (by omega) (by omega) with ⟨T, T1, T2, rfl, h4, h5⟩ | ⟨h4, h5⟩
  · rw [h4, h5, Option.bind_some, Option.bind_some, if_pos i00, if_neg i10]
    by_cases hs : a2 < 0
    · rw [if_pos hs, if_pos hs]
      exact ⟨_, _, _, _, _, _, _, _, _, _, _, _, _, _, _, _, _, _, _, _, rfl, rfl, h.up⟩
    · obtain ⟨m, m1, rfl⟩ := nI_of hs
      rw [if_neg hs, if_neg hs]
      rcases rng a3 (lo := 0) (hi := 3) (l := 0) (h := 3) rfl rfl (by omega) (by omega) with ⟨z, z1, z2, z3, h6, h7⟩ | ⟨h6, h7⟩
      · rw [h6, h7, Option.bind_some, Option.bind_some, if_pos i00, if_neg i10]
        rcases hasL hC (by omega) with ⟨l0, g1, g2, g3⟩ | ⟨l0, g1, g2⟩
        · rw [g1, Option.bind_some, if_neg i10, if_neg g2]
          by_cases hn0 : n = 0
          · subst hn0
            rw [if_pos (show nI 0 = (0 : Int32) from rfl), if_pos (show nI 0 ≤ (0 : Int32) from Int32.le_refl _)]
            exact ⟨_, _, _, _, _, _, _, _, _, _, _, _, _, _, _, _, _, _, _, _, rfl, rfl, h.up⟩
          · have hnp : ¬ nI n = (0 : Int32) := fun q => hn0 ((nI_eq (b := 0) (by omega) (by omega)).mp q)
            have hnl : ¬ nI n ≤ (0 : Int32) := Int32.not_le.mpr (nI_lt (a := 0) (by omega) (by omega))
            have hO : OK1 (9 * t + 1) n (cp 4 n_knd t_knd) (cp 4 n_siz t_siz) (cp 4 n_plc t_plc) (cp 4 n_onn t_onn) (cp 4 n_axs t_axs) := n7.congr fun i hi => ⟨cp_lt (by omega), cp_lt (by omega), cp_lt (by omega), cp_lt (by omega), cp_lt (by omega)⟩
            have hg : AG (fun i => i < n) (cp 4 n_knd t_knd) (cp 4 n_siz t_siz) (cp 4 n_plc t_plc) (cp 4 n_onn t_onn) (cp 4 n_axs t_axs) m_kindOf m_sizeOf m_placeOf m_onOf m_sticksOf := fun i hi => by
              have hi4 : i < 4 := by have : i < n := hi; omega
              rw [cp_lt hi4, cp_lt hi4, cp_lt hi4, cp_lt hi4, cp_lt hi4]; exact n8 i hi
            have hd : DOK (cp 20 n_dep t_dep) m_depthOf := fun p hp => by rw [cp_lt hp]; exact n9 p hp
            obtain ⟨r, dep', siz', plc', axs', sd, mD', mZ', mP', mX', e1, e2⟩ := g_sim (n := n) (by omega) T2 (wet := n_wet) ⟨w9, n3⟩ n_stg n_dys a3 (cp 4 n_knd t_knd) (cp 4 n_onn t_onn) m_kindOf m_onOf (cp n m_sizeOf m_gameSize) (cp n m_placeOf m_gamePlace) (cp n m_sticksOf m_gameSticks) (cp 20 m_depthOf m_gameDepth) T 0 70 70 (9 * t + 1) m 0 _ _ _ _ _ _ _ _ (by omega) (by omega) (by omega) (by omega) m1 hO hg hd
            have e3 := l_gsD hn4 m_isLawn n_wet n_stg (nI T) (nI m) a3 m_depthOf m_kindOf m_sizeOf m_placeOf m_onOf m_sticksOf m_gameSize m_gamePlace m_gameSticks m_gameDepth 20 0 70 rfl (by omega)
            have e4 := l_gbD hn4 sd mD' (cp n m_sizeOf m_gameSize) (cp n m_placeOf m_gamePlace) (cp n m_sticksOf m_gameSticks) (cp 20 m_depthOf m_gameDepth) mZ' mP' mX' r 20 0 70 rfl (by omega)
            rw [cp_0] at e3 e4
            rw [if_neg hnp, if_neg hnl, v_copyFrom, Option.bind_some]
            dsimp only
            rw [nI_l (by omega), f_X8_gamesNow]
            have e5 := (e3.trans ((show _ = _ by rw [g3, nI_l (show m < 2 ^ 31 by omega)]; rfl).trans e2)).trans e4
            replace e5 : f_X8_gamesNow_h3 m_isLawn n_wet n_stg (nI n) m_depthOf m_kindOf m_sizeOf m_placeOf m_onOf m_sticksOf m_gameSize m_gamePlace m_gameSticks (nI T) (nI m) a3 70 m_gameDepth 0 = _ := e5
            rw [e5, Option.bind_some]
            dsimp only
            refine ⟨_, _, _, _, _, _, _, _, _, _, _, _, _, _, _, _, _, _, _, _, e1, rfl, ?_⟩
            · refine ⟨L, l, a, b, n, hG, hC.up, ⟨rfl, rfl, ⟨w, w9, n3⟩, rfl, rfl, rfl, n7.up (by omega), fun i hi => ?_, fun p hp => ?_⟩, hZ, hI.up⟩
              · have hin : i < n := hi
                rw [cp_lt hin, cp_lt hin, cp_lt hin, cp_lt hin, cp_lt hin, cp_lt hin]
                exact n8 i hi
              · rw [cp_lt hp, cp_lt hp]; exact n9 p hp
        · rw [g1, Option.bind_some, if_pos i00, if_pos g2]
          exact ⟨_, _, _, _, _, _, _, _, _, _, _, _, _, _, _, _, _, _, _, _, rfl, rfl, h.up⟩
      · rw [h6, h7, Option.bind_some, Option.bind_some, if_neg i10, if_pos i00]
        exact ⟨_, _, _, _, _, _, _, _, _, _, _, _, _, _, _, _, _, _, _, _, rfl, rfl, h.up⟩
  · rw [h4, h5, Option.bind_some, Option.bind_some, if_neg i10, if_pos i00]
    exact ⟨_, _, _, _, _, _, _, _, _, _, _, _, _, _, _, _, _, _, _, _, rfl, rfl, h.up⟩
