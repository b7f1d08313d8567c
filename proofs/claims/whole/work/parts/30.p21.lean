/-! the three searches, both sides -/
theorem v_maySearch {B n i a : Nat} (ha : a ≤ 60) (hi : i < 5) {siz plc : Nat → Int32} (hB : 0 < siz i ↔ ¬ plc i = -1) : (plc i = -1 → f_X7_maySearch (nI a) siz (nI i) = some 0) ∧ (¬ plc i = -1 → a = 60 → f_X7_maySearch (nI a) siz (nI i) = some 0) ∧ (¬ plc i = -1 → a ≠ 60 → f_X7_maySearch (nI a) siz (nI i) = some 1) := by
  rw [f_X7_maySearch, if_pos (okT hi (by omega)), tnI (by omega), v_isGone, Option.bind_some]
  refine ⟨fun h => ?_, fun h h6 => ?_, fun h h6 => ?_⟩
  · rw [if_neg (fun q => hB.mp q h), if_neg i10]
  · rw [if_pos (hB.mpr h), if_pos i00, if_pos (show (60 : Int32) ≤ nI a by rw [h6]; exact Int32.le_refl _)]
  · rw [if_pos (hB.mpr h), if_pos i00, if_neg (show ¬ (60 : Int32) ≤ nI a from nI_ge (b := 60) (by omega) (by omega))]
theorem trial {t n i : Nat} (ht : t < 64) {knd tk : Nat → Nat} {dep siz plc onn axs td ts tp to tx mD mK mZ mP mO mX : Nat → Int32} (n7 : OK1 (9 * t + 1) n knd siz plc onn axs) (n8 : AG (fun i => i < n) knd siz plc onn axs mK mZ mP mO mX) (n9 : DOK dep mD) (hi : i < n) :
    GD (9 * t + 1) n i (cp 4 knd tk) (cp 4 onn to) (cp 20 dep td, cp 4 siz ts, cp 4 plc tp, cp 4 axs tx) ∧ MR n i (cp 4 knd tk) (cp 4 onn to) mK mO (cp 20 dep td, cp 4 siz ts, cp 4 plc tp, cp 4 axs tx) mD mZ mP mX := by
  have hn4 := n7.1
  have hO : OK1 (9 * t + 1) n (cp 4 knd tk) (cp 4 siz ts) (cp 4 plc tp) (cp 4 onn to) (cp 4 axs tx) := n7.congr fun i hi => ⟨cp_lt (by omega), cp_lt (by omega), cp_lt (by omega), cp_lt (by omega), cp_lt (by omega)⟩
  have hg : AG (fun i => i < n) (cp 4 knd tk) (cp 4 siz ts) (cp 4 plc tp) (cp 4 onn to) (cp 4 axs tx) mK mZ mP mO mX := fun i hi => by
    have hi4 : i < 4 := by have : i < n := hi; omega
    rw [cp_lt hi4, cp_lt hi4, cp_lt hi4, cp_lt hi4, cp_lt hi4]; exact n8 i hi
  have hd : DOK (cp 20 dep td) mD := fun p hp => by rw [cp_lt hp]; exact n9 p hp
  exact ⟨⟨RN.oks (by omega) hO hi, hd.d9⟩, hd, hg.ext hi⟩
theorem untrial {n i : Nat} (hn4 : n ≤ 4) {knd tk : Nat → Nat} {dep siz plc onn axs td ts tp to tx mD mK mZ mP mO mX : Nat → Int32} (h : MR n i (cp 4 knd tk) (cp 4 onn to) mK mO (cp 20 dep td, cp 4 siz ts, cp 4 plc tp, cp 4 axs tx) mD mZ mP mX) : AG (fun i => i < n) knd siz plc onn axs mK mZ mP mO mX ∧ DOK dep mD := by
  refine ⟨fun q hq => ?_, fun p hp => ?_⟩
  · have hi4 : q < 4 := by have : q < n := hq; omega
    have := h.2 q (Or.inl hq)
    dsimp only at this
    rw [cp_lt hi4, cp_lt hi4, cp_lt hi4, cp_lt hi4, cp_lt hi4] at this
    exact this
  · have := h.1 p hp
    dsimp only at this
    rw [cp_lt hp] at this
    exact this
theorem MR.sv {n b : Nat} {knd : Nat → Nat} {onn mK mO : Nat → Int32} {C : CS} {mD mZ mP mX : Nat → Int32} (h : MR n b knd onn mK mO C mD mZ mP mX) (sD : Nat → Int32) : SV b C (mZ b) (mP b) (mX b) (cp 20 mD sD) := by
  obtain ⟨-, h2, h3, -, h5⟩ := h.2 b (Or.inr rfl)
  exact ⟨h2, h3, h5, fun p hp => by rw [cp_lt hp]; exact h.1 p hp⟩
theorem RC.ask {t l a b : Nat} {lrd bks mla mil mbo : Int32} (h : RC t l a b lrd (nI a) bks mla mil (nI a) mbo) (ha : a < 60) : RC (t + 1) l (a + 1) b lrd (nI a + 1) bks mla mil (nI a + 1) mbo := by
  obtain ⟨h1, h2, h3, h4, -, -, -, h8⟩ := h
  exact ⟨h1, h2, by omega, h4, nI_1 a, nI_1 a, by omega, h8⟩
theorem RC.bks {t l a b : Nat} {lrd srs mla mil mas : Int32} (h : RC t l a b lrd srs (nI b) mla mil mas (nI b)) (hb : b < 60) : RC (t + 1) l a (b + 1) lrd srs (nI b + 1) mla mil mas (nI b + 1) := by
  obtain ⟨h1, h2, h3, h4, h5, h6, h7, -⟩ := h
  exact ⟨h1, h2, by omega, h4, h5, h6, h7, nI_1 b, nI_1 b, by omega⟩
theorem ne60 {a : Nat} (ha : a ≤ 60) : nI a = 60 ↔ a = 60 := ⟨fun q => (nI_eq (b := 60) (by omega) (by omega)).mp q, fun q => by rw [q]; rfl⟩
theorem op_comes {t : Nat} (ht : t < 64) (ltr lrd srs bks img : Int32) (pag : Nat → Int32) (n_cnt n_wet n_stg n_dys : Int32) (n_dep : Nat → Int32) (n_knd : Nat → Nat) (n_siz n_plc n_onn n_axs : Nat → Int32) (k_cnt k_wet k_stg k_dys : Int32) (k_dep : Nat → Int32) (k_knd : Nat → Nat) (k_siz k_plc k_onn k_axs : Nat → Int32) (t_cnt t_wet t_stg t_dys : Int32) (t_dep : Nat → Int32) (t_knd : Nat → Nat) (t_siz t_plc t_onn t_axs : Nat → Int32) (a_gfw a_gtg m_isLawn m_lawns m_wetness m_strength m_days m_balls m_asks m_books m_pageLength m_savedSize m_savedPlace m_savedSticks m_isKept m_keptLawn m_keptBalls m_keptStrength m_keptDays : Int32) (m_depthOf m_kindOf m_sizeOf m_placeOf m_onOf m_sticksOf m_page m_savedDepth m_keptDepth m_keptSize m_keptPlace m_keptOn m_keptSticks : Nat → Int32) (h : Rel t ltr lrd srs bks img pag n_cnt n_wet n_stg n_dys n_dep n_knd n_siz n_plc n_onn n_axs k_cnt k_wet k_stg k_dys k_dep k_knd k_siz k_plc k_onn k_axs m_isLawn m_lawns m_wetness m_strength m_days m_balls m_asks m_books m_pageLength m_depthOf m_kindOf m_sizeOf m_placeOf m_onOf m_sticksOf m_page m_isKept m_keptLawn m_keptBalls m_keptStrength m_keptDays m_keptDepth m_keptSize m_keptPlace m_keptOn m_keptSticks) (a1 a2 : Int32) : ∃ (r srs_ t_cnt_ t_wet_ t_stg_ t_dys_ : Int32) (t_dep_ : Nat → Int32) (t_knd_ : Nat → Nat) (t_siz_ t_plc_ t_onn_ t_axs_ : Nat → Int32) (a_gfw_ a_gtg_ m_asks_ m_savedSize_ m_savedPlace_ m_savedSticks_ : Int32) (m_depthOf_ m_sizeOf_ m_placeOf_ m_sticksOf_ m_savedDepth_ : Nat → Int32), f_X7_comes srs n_cnt n_wet n_stg n_dys n_dep n_knd n_siz n_plc n_onn n_axs t_cnt t_wet t_stg t_dys t_dep t_knd t_siz t_plc t_onn t_axs a_gfw a_gtg a1 a2 = some (r, srs_, t_cnt_, t_wet_, t_stg_, t_dys_, t_dep_, t_knd_, t_siz_, t_plc_, t_onn_, t_axs_, a_gfw_, a_gtg_) ∧ f_X8_comes m_wetness m_strength m_balls m_asks m_savedSize m_savedPlace m_savedSticks m_depthOf m_kindOf m_sizeOf m_placeOf m_onOf m_sticksOf m_savedDepth a1 a2 = some (r, m_asks_, m_savedSize_, m_savedPlace_, m_savedSticks_, m_depthOf_, m_sizeOf_, m_placeOf_, m_sticksOf_, m_savedDepth_) ∧ Rel (t + 1) ltr lrd srs_ bks img pag n_cnt n_wet n_stg n_dys n_dep n_knd n_siz n_plc n_onn n_axs k_cnt k_wet k_stg k_dys k_dep k_knd k_siz k_plc k_onn k_axs m_isLawn m_lawns m_wetness m_strength m_days m_balls m_asks_ m_books m_pageLength m_depthOf_ m_kindOf m_sizeOf_ m_placeOf_ m_onOf m_sticksOf_ m_page m_isKept m_keptLawn m_keptBalls m_keptStrength m_keptDays m_keptDepth m_keptSize m_keptPlace m_keptOn m_keptSticks := by
  obtain ⟨L, l, a, b, n, hG, hC, hN, hZ, hI⟩ := id h
  obtain ⟨n1, n2, ⟨w, w9, n3⟩, n4, n5, n6, n7, n8, n9⟩ := id hN
  have hn4 := n7.1
  subst n1; subst n2
  have q4 := n4.symm
  have q5 := n5.symm
  have q6 := n6.symm
  subst q4; subst q5; subst q6
  obtain ⟨l1, l2, l3, l4, s1, s2, s3, b1, b2, b3⟩ := id hC
  subst s1; subst s2
  rw [f_X7_comes, f_X8_comes]
  rcases isBl a1 hn4 with ⟨i, i1, i2, h4, h5⟩ | ⟨h4, h5⟩
  · rw [h4, h5, Option.bind_some, Option.bind_some, if_neg i10, if_neg i10]
    rcases isPl a2 with ⟨p, p1, p2, h6, h7⟩ | ⟨h6, h7⟩
    · rw [h6, h7, Option.bind_some, Option.bind_some, if_neg i10, if_neg i10, i2, if_pos (okT (show i < 5 by omega) (by omega)), tnI (show i < 2 ^ 31 by omega)]
      obtain ⟨-, -, eP, -⟩ := n8 i i1
      rw [eP]
      obtain ⟨m1, m2, m3⟩ := v_maySearch (B := 0) (n := 0) s3 (show i < 5 by omega) ((n7.2.1 i i1).alive (by omega))
      by_cases hp : n_plc i = -1
      · rw [m1 hp, Option.bind_some, if_pos i00, if_pos hp]
        exact ⟨_, _, _, _, _, _, _, _, _, _, _, _, _, _, _, _, _, _, _, _, _, _, _, rfl, rfl, h.up⟩
      · by_cases ha : a = 60
        · rw [m2 hp ha, Option.bind_some, if_pos i00, if_neg hp, if_pos ((ne60 s3).mpr ha)]
          exact ⟨_, _, _, _, _, _, _, _, _, _, _, _, _, _, _, _, _, _, _, _, _, _, _, rfl, rfl, h.up⟩
        · obtain ⟨hGD, hMR⟩ := trial (tk := t_knd) (td := t_dep) (ts := t_siz) (tp := t_plc) (to := t_onn) (tx := t_axs) ht n7 n8 n9 i1
          have hX := x_A ⟨w9, n3⟩ n_stg n_dys (cp 4 n_knd t_knd) (cp 4 n_onn t_onn) a2 (M := 6) (by omega) 6 7 (9 * t + 1) 0 _ (-1) (-1) (by omega) (by omega) (by omega) hGD
          rw [pre_lev (Cm_A i a2) _ _ _ _ _ _ _ (by omega)] at hX
          replace hX : fr_X7_explore_A 7 (nI n) n_wet n_stg n_dys (cp 20 n_dep t_dep) (cp 4 n_knd t_knd) (cp 4 n_siz t_siz) (cp 4 n_plc t_plc) (cp 4 n_onn t_onn) (cp 4 n_axs t_axs) (-1) a2 (nI i) 6 0 (-1) = _ := hX
          rw [m3 hp ha, Option.bind_some, if_neg i10, f_X0_begin, Option.bind_some]
          dsimp only
          rw [v_copyFrom, Option.bind_some]
          dsimp only
          rw [hX, Option.bind_some, if_neg hp, if_neg (fun q => ha ((ne60 s3).mp q)), f_X8_comesNow, if_pos (okT (show i < 5 by omega) (by omega)), tnI (show i < 2 ^ 31 by omega), eP]
          dsimp only
          have hlv : ∀ k : Nat, ∀ x ∈ lev (canT n n_stg (cp 4 n_knd t_knd) (cp 4 n_onn t_onn) i) (stpT n_wet (cp 4 n_knd t_knd) i) k (cp 20 n_dep t_dep, cp 4 n_siz t_siz, cp 4 n_plc t_plc, cp 4 n_axs t_axs) 0 (-1), x.2.1 = 0 + k := fun k x hx => lev_lvl _ _ k _ 0 (-1) x hx
          have hst : List.foldl (mtA i a2) (-1) (LV (fun k => lev (canT n n_stg (cp 4 n_knd t_knd) (cp 4 n_onn t_onn) i) (stpT n_wet (cp 4 n_knd t_knd) i) k (cp 20 n_dep t_dep, cp 4 n_siz t_siz, cp 4 n_plc t_plc, cp 4 n_axs t_axs) 0 (-1)) (R 0 (6 + 1))) = List.foldl (mtA i a2) (if n_plc i = a2 then nI 0 else -1) (LV (fun k => lev (canT n n_stg (cp 4 n_knd t_knd) (cp 4 n_onn t_onn) i) (stpT n_wet (cp 4 n_knd t_knd) i) k (cp 20 n_dep t_dep, cp 4 n_siz t_siz, cp 4 n_plc t_plc, cp 4 n_axs t_axs) 0 (-1)) (R 1 6)) := by
            show List.foldl (mtA i a2) (-1) ([(_, 0, -1)] ++ LV _ (R 1 6)) = _
            rw [List.foldl_append]
            show List.foldl (mtA i a2) (if cp 4 n_plc t_plc i = a2 then (if (-1 : Int32) = -1 then nI 0 else _) else -1) _ = _
            rw [cp_lt (show i < 4 by omega), if_pos (show (-1 : Int32) = -1 from rfl)]
          rw [hst]
          by_cases hpp : n_plc i = a2
          · rw [if_pos hpp, if_pos hpp, mtA_old (by omega) _ fun x hx => by
              have a1 := LV_up hlv 6 1 x hx
              omega]
            refine ⟨_, _, _, _, _, _, _, _, _, _, _, _, _, _, _, _, _, _, _, _, _, _, _, rfl, rfl, L, l, a + 1, b, n, hG, hC.ask (by omega), (hN.up), hZ, hI.up⟩
          · obtain ⟨mD', mZ', mP', mX', e1, e2⟩ := m_A2 ⟨w9, n3⟩ n_stg (by omega) hGD (hMR.sv m_savedDepth) a2 6 1 4100 m_depthOf m_sizeOf m_placeOf m_sticksOf (by omega) (by omega) hMR
            replace e1 : f_X8_comesNow_h19 n_wet n_stg (nI n) m_kindOf m_onOf (nI i) a2 4100 (m_sizeOf i) (m_placeOf i) (m_sticksOf i) m_depthOf m_sizeOf m_placeOf m_sticksOf (cp 20 m_depthOf m_savedDepth) 1 = _ := e1
            obtain ⟨u1, u2⟩ := untrial hn4 e2
            rw [if_neg hpp, if_neg hpp, v_save (by omega), Option.bind_some]
            dsimp only
            rw [e1, Option.bind_some]
            exact ⟨_, _, _, _, _, _, _, _, _, _, _, _, _, _, _, _, _, _, _, _, _, _, _, rfl, rfl, L, l, a + 1, b, n, hG, hC.ask (by omega), ⟨rfl, rfl, ⟨w, w9, n3⟩, rfl, rfl, rfl, n7.up (by omega), u1, u2⟩, hZ, hI.up⟩
    · rw [h6, h7, Option.bind_some, Option.bind_some, if_pos i00, if_pos i00]
      exact ⟨_, _, _, _, _, _, _, _, _, _, _, _, _, _, _, _, _, _, _, _, _, _, _, rfl, rfl, h.up⟩
  · rw [h4, h5, Option.bind_some, Option.bind_some, if_pos i00, if_pos i00]
    exact ⟨_, _, _, _, _, _, _, _, _, _, _, _, _, _, _, _, _, _, _, _, _, _, _, rfl, rfl, h.up⟩
theorem op_largest {t : Nat} (ht : t < 64) (ltr lrd srs bks img : Int32) (pag : Nat → Int32) (n_cnt n_wet n_stg n_dys : Int32) (n_dep : Nat → Int32) (n_knd : Nat → Nat) (n_siz n_plc n_onn n_axs : Nat → Int32) (k_cnt k_wet k_stg k_dys : Int32) (k_dep : Nat → Int32) (k_knd : Nat → Nat) (k_siz k_plc k_onn k_axs : Nat → Int32) (t_cnt t_wet t_stg t_dys : Int32) (t_dep : Nat → Int32) (t_knd : Nat → Nat) (t_siz t_plc t_onn t_axs : Nat → Int32) (l_gsz l_gsd l_gfw m_isLawn m_lawns m_wetness m_strength m_days m_balls m_asks m_books m_pageLength m_savedSize m_savedPlace m_savedSticks m_bestSize m_bestFirst m_isKept m_keptLawn m_keptBalls m_keptStrength m_keptDays : Int32) (m_depthOf m_kindOf m_sizeOf m_placeOf m_onOf m_sticksOf m_page m_savedDepth m_keptDepth m_keptSize m_keptPlace m_keptOn m_keptSticks : Nat → Int32) (h : Rel t ltr lrd srs bks img pag n_cnt n_wet n_stg n_dys n_dep n_knd n_siz n_plc n_onn n_axs k_cnt k_wet k_stg k_dys k_dep k_knd k_siz k_plc k_onn k_axs m_isLawn m_lawns m_wetness m_strength m_days m_balls m_asks m_books m_pageLength m_depthOf m_kindOf m_sizeOf m_placeOf m_onOf m_sticksOf m_page m_isKept m_keptLawn m_keptBalls m_keptStrength m_keptDays m_keptDepth m_keptSize m_keptPlace m_keptOn m_keptSticks) (a1 a2 a3 : Int32) : ∃ (r srs_ t_cnt_ t_wet_ t_stg_ t_dys_ : Int32) (t_dep_ : Nat → Int32) (t_knd_ : Nat → Nat) (t_siz_ t_plc_ t_onn_ t_axs_ : Nat → Int32) (l_gsz_ l_gsd_ l_gfw_ m_asks_ m_savedSize_ m_savedPlace_ m_savedSticks_ m_bestSize_ m_bestFirst_ : Int32) (m_depthOf_ m_sizeOf_ m_placeOf_ m_sticksOf_ m_savedDepth_ : Nat → Int32), f_X7_largest srs n_cnt n_wet n_stg n_dys n_dep n_knd n_siz n_plc n_onn n_axs t_cnt t_wet t_stg t_dys t_dep t_knd t_siz t_plc t_onn t_axs l_gsz l_gsd l_gfw a1 a2 a3 = some (r, srs_, t_cnt_, t_wet_, t_stg_, t_dys_, t_dep_, t_knd_, t_siz_, t_plc_, t_onn_, t_axs_, l_gsz_, l_gsd_, l_gfw_) ∧ f_X8_largest m_wetness m_strength m_balls m_asks m_savedSize m_savedPlace m_savedSticks m_bestSize m_bestFirst m_depthOf m_kindOf m_sizeOf m_placeOf m_onOf m_sticksOf m_savedDepth a1 a2 a3 = some (r, m_asks_, m_savedSize_, m_savedPlace_, m_savedSticks_, m_bestSize_, m_bestFirst_, m_depthOf_, m_sizeOf_, m_placeOf_, m_sticksOf_, m_savedDepth_) ∧ Rel (t + 1) ltr lrd srs_ bks img pag n_cnt n_wet n_stg n_dys n_dep n_knd n_siz n_plc n_onn n_axs k_cnt k_wet k_stg k_dys k_dep k_knd k_siz k_plc k_onn k_axs m_isLawn m_lawns m_wetness m_strength m_days m_balls m_asks_ m_books m_pageLength m_depthOf_ m_kindOf m_sizeOf_ m_placeOf_ m_onOf m_sticksOf_ m_page m_isKept m_keptLawn m_keptBalls m_keptStrength m_keptDays m_keptDepth m_keptSize m_keptPlace m_keptOn m_keptSticks := by
  obtain ⟨L, l, a, b, n, hG, hC, hN, hZ, hI⟩ := id h
  obtain ⟨n1, n2, ⟨w, w9, n3⟩, n4, n5, n6, n7, n8, n9⟩ := id hN
  have hn4 := n7.1
  subst n1; subst n2
  have q4 := n4.symm
  have q5 := n5.symm
  have q6 := n6.symm
  subst q4; subst q5; subst q6
  obtain ⟨l1, l2, l3, l4, s1, s2, s3, b1, b2, b3⟩ := id hC
  subst s1; subst s2
  rw [f_X7_largest, f_X8_largest]
  rcases isBl a1 hn4 with ⟨i, i1, i2, h4, h5⟩ | ⟨h4, h5⟩
  · rw [h4, h5, Option.bind_some, Option.bind_some, if_neg i10, if_neg i10]
    rcases rng a2 (lo := 0) (hi := 6) (l := 0) (h := 6) rfl rfl (by omega) (by omega) with ⟨M, M1, M6, M2, h6, h7⟩ | ⟨h6, h7⟩
    · rw [h6, h7, Option.bind_some, Option.bind_some, if_pos i00, if_neg i10]
      rcases rng a3 (lo := 0) (hi := 1) (l := 0) (h := 1) rfl rfl (by omega) (by omega) with ⟨T, T1, T2, T3, h8, h9⟩ | ⟨h8, h9⟩
      · rw [h8, h9, Option.bind_some, Option.bind_some, if_pos i00, if_neg i10, i2, if_pos (okT (show i < 5 by omega) (by omega)), tnI (show i < 2 ^ 31 by omega)]
        obtain ⟨-, eZ, eP, -⟩ := n8 i i1
        rw [eP]
        have hal := (n7.2.1 i i1).alive (by omega)
        obtain ⟨m1, m2, m3⟩ := v_maySearch (B := 0) (n := 0) s3 (show i < 5 by omega) hal
        by_cases hp : n_plc i = -1
        · rw [m1 hp, Option.bind_some, if_pos i00, if_pos hp]
          exact ⟨_, _, _, _, _, _, _, _, _, _, _, _, _, _, _, _, _, _, _, _, _, _, _, _, _, _, rfl, rfl, h.up⟩
        · by_cases ha : a = 60
          · rw [m2 hp ha, Option.bind_some, if_pos i00, if_neg hp, if_pos ((ne60 s3).mpr ha)]
            exact ⟨_, _, _, _, _, _, _, _, _, _, _, _, _, _, _, _, _, _, _, _, _, _, _, _, _, _, rfl, rfl, h.up⟩
          · obtain ⟨hGD, hMR⟩ := trial (tk := t_knd) (td := t_dep) (ts := t_siz) (tp := t_plc) (to := t_onn) (tx := t_axs) ht n7 n8 n9 i1
            have hX := x_L ⟨w9, n3⟩ n_stg n_dys (cp 4 n_knd t_knd) (cp 4 n_onn t_onn) (M := M) M6 M 7 (9 * t + 1) 0 _ (-1) 0 (-1) 0 (by omega) (by omega) (by omega) hGD
            rw [pre_lev (Cm_L i) _ _ _ _ _ _ _ (by omega)] at hX
            have hlv : ∀ k : Nat, ∀ x ∈ lev (canT n n_stg (cp 4 n_knd t_knd) (cp 4 n_onn t_onn) i) (stpT n_wet (cp 4 n_knd t_knd) i) k (cp 20 n_dep t_dep, cp 4 n_siz t_siz, cp 4 n_plc t_plc, cp 4 n_axs t_axs) 0 (-1), x.2.1 = k := fun k x hx => by have := lev_lvl _ _ k _ 0 (-1) x hx; omega
            have hz : 0 < n_siz i := hal.mpr hp
            have hst : List.foldl (mtL i) ((0 : Int32), (-1 : Int32), (0 : Int32)) (LV (fun k => lev (canT n n_stg (cp 4 n_knd t_knd) (cp 4 n_onn t_onn) i) (stpT n_wet (cp 4 n_knd t_knd) i) k (cp 20 n_dep t_dep, cp 4 n_siz t_siz, cp 4 n_plc t_plc, cp 4 n_axs t_axs) 0 (-1)) (R 0 (M + 1))) = List.foldl (mtL i) (n_siz i, -1, nI 0) (LV (fun k => lev (canT n n_stg (cp 4 n_knd t_knd) (cp 4 n_onn t_onn) i) (stpT n_wet (cp 4 n_knd t_knd) i) k (cp 20 n_dep t_dep, cp 4 n_siz t_siz, cp 4 n_plc t_plc, cp 4 n_axs t_axs) 0 (-1)) (R 1 M)) := by
              show List.foldl (mtL i) (0, -1, 0) ([(_, 0, -1)] ++ LV _ (R 1 M)) = _
              rw [List.foldl_append]
              show List.foldl (mtL i) (if cp 4 n_siz t_siz i < 0 then _ else if cp 4 n_siz t_siz i = 0 then _ else (cp 4 n_siz t_siz i, -1, nI 0)) _ = _
              rw [cp_lt (show i < 4 by omega), if_neg (fun q => Int32.lt_irrefl (Int32.lt_trans hz q)), if_neg (fun q => by rw [q] at hz; exact Int32.lt_irrefl hz)]
            obtain ⟨v', hv'⟩ := mtL_LV (b := i) hlv M 1 0 (n_siz i) (-1) (by omega) (by omega)
            rw [hst, hv'] at hX
            obtain ⟨bs', bf', mD', mZ', mP', mX', e1, e2, e3⟩ := m_L2 ⟨w9, n3⟩ n_stg (M := M) M6 (by omega) hGD (hMR.sv m_savedDepth) M 1 4100 (m_sizeOf i) (-1) m_depthOf m_sizeOf m_placeOf m_sticksOf (by omega) (by omega) (by omega) hMR
            rw [eZ] at e3
            rw [e3] at hX
            replace hX : fr_X7_explore_L 7 (nI n) n_wet n_stg n_dys (cp 20 n_dep t_dep) (cp 4 n_knd t_knd) (cp 4 n_siz t_siz) (cp 4 n_plc t_plc) (cp 4 n_onn t_onn) (cp 4 n_axs t_axs) 0 (-1) 0 (nI i) (nI M) 0 (-1) = some (cp 20 n_dep t_dep, cp 4 n_siz t_siz, cp 4 n_plc t_plc, cp 4 n_onn t_onn, cp 4 n_axs t_axs, bs', bf', nI v') := hX
            replace e1 : f_X8_layLargest_h22 n_wet n_stg (nI n) m_kindOf m_onOf (nI i) (nI M) 4100 (m_sizeOf i) (m_placeOf i) (m_sticksOf i) (m_sizeOf i) (-1) m_depthOf m_sizeOf m_placeOf m_sticksOf (cp 20 m_depthOf m_savedDepth) 1 = _ := e1
            obtain ⟨u1, u2⟩ := untrial hn4 e2
            rw [m3 hp ha, Option.bind_some, if_neg i10, f_X3_begin, Option.bind_some]
            dsimp only
            rw [v_copyFrom, Option.bind_some]
            dsimp only
            rw [M2, hX, Option.bind_some, if_neg hp, if_neg (fun q => ha ((ne60 s3).mp q)), f_X8_layLargest, if_pos (okT (show i < 5 by omega) (by omega)), tnI (show i < 2 ^ 31 by omega), v_save (by omega), Option.bind_some]
            dsimp only
            rw [e1, Option.bind_some]
            dsimp only
            by_cases h0 : a3 = 0
            · rw [if_pos h0, if_pos h0]
              exact ⟨_, _, _, _, _, _, _, _, _, _, _, _, _, _, _, _, _, _, _, _, _, _, _, _, _, _, rfl, rfl, L, l, a + 1, b, n, hG, hC.ask (by omega), ⟨rfl, rfl, ⟨w, w9, n3⟩, rfl, rfl, rfl, n7.up (by omega), u1, u2⟩, hZ, hI.up⟩
            · rw [if_neg h0, if_neg h0]
              exact ⟨_, _, _, _, _, _, _, _, _, _, _, _, _, _, _, _, _, _, _, _, _, _, _, _, _, _, rfl, rfl, L, l, a + 1, b, n, hG, hC.ask (by omega), ⟨rfl, rfl, ⟨w, w9, n3⟩, rfl, rfl, rfl, n7.up (by omega), u1, u2⟩, hZ, hI.up⟩
      · rw [h8, h9, Option.bind_some, Option.bind_some, if_neg i10, if_pos i00]
        exact ⟨_, _, _, _, _, _, _, _, _, _, _, _, _, _, _, _, _, _, _, _, _, _, _, _, _, _, rfl, rfl, h.up⟩
    · rw [h6, h7, Option.bind_some, Option.bind_some, if_neg i10, if_pos i00]
      exact ⟨_, _, _, _, _, _, _, _, _, _, _, _, _, _, _, _, _, _, _, _, _, _, _, _, _, _, rfl, rfl, h.up⟩
  · rw [h4, h5, Option.bind_some, Option.bind_some, if_pos i00, if_pos i00]
    exact ⟨_, _, _, _, _, _, _, _, _, _, _, _, _, _, _, _, _, _, _, _, _, _, _, _, _, _, rfl, rfl, h.up⟩
theorem op_book {t : Nat} (ht : t < 64) (ltr lrd srs bks img : Int32) (pag : Nat → Int32) (n_cnt n_wet n_stg n_dys : Int32) (n_dep : Nat → Int32) (n_knd : Nat → Nat) (n_siz n_plc n_onn n_axs : Nat → Int32) (k_cnt k_wet k_stg k_dys : Int32) (k_dep : Nat → Int32) (k_knd : Nat → Nat) (k_siz k_plc k_onn k_axs : Nat → Int32) (t_cnt t_wet t_stg t_dys : Int32) (t_dep : Nat → Int32) (t_knd : Nat → Nat) (t_siz t_plc t_onn t_axs : Nat → Int32) (w_gwy w_grl w_gsz m_isLawn m_lawns m_wetness m_strength m_days m_balls m_asks m_books m_pageLength m_savedSize m_savedPlace m_savedSticks m_isKept m_keptLawn m_keptBalls m_keptStrength m_keptDays : Int32) (m_depthOf m_kindOf m_sizeOf m_placeOf m_onOf m_sticksOf m_page m_savedDepth m_keptDepth m_keptSize m_keptPlace m_keptOn m_keptSticks : Nat → Int32) (h : Rel t ltr lrd srs bks img pag n_cnt n_wet n_stg n_dys n_dep n_knd n_siz n_plc n_onn n_axs k_cnt k_wet k_stg k_dys k_dep k_knd k_siz k_plc k_onn k_axs m_isLawn m_lawns m_wetness m_strength m_days m_balls m_asks m_books m_pageLength m_depthOf m_kindOf m_sizeOf m_placeOf m_onOf m_sticksOf m_page m_isKept m_keptLawn m_keptBalls m_keptStrength m_keptDays m_keptDepth m_keptSize m_keptPlace m_keptOn m_keptSticks) (a1 a2 a3 a4 : Int32) : ∃ (r bks_ t_cnt_ t_wet_ t_stg_ t_dys_ : Int32) (t_dep_ : Nat → Int32) (t_knd_ : Nat → Nat) (t_siz_ t_plc_ t_onn_ t_axs_ : Nat → Int32) (w_gwy_ w_grl_ w_gsz_ m_books_ m_savedSize_ m_savedPlace_ m_savedSticks_ : Int32) (m_depthOf_ m_kindOf_ m_sizeOf_ m_placeOf_ m_onOf_ m_sticksOf_ m_savedDepth_ : Nat → Int32), f_X7_book lrd bks n_cnt n_wet n_stg n_dys n_dep n_knd n_siz n_plc n_onn n_axs t_cnt t_wet t_stg t_dys t_dep t_knd t_siz t_plc t_onn t_axs w_gwy w_grl w_gsz a1 a2 a3 a4 = some (r, bks_, t_cnt_, t_wet_, t_stg_, t_dys_, t_dep_, t_knd_, t_siz_, t_plc_, t_onn_, t_axs_, w_gwy_, w_grl_, w_gsz_) ∧ f_X8_book m_isLawn m_wetness m_strength m_balls m_books m_savedSize m_savedPlace m_savedSticks m_depthOf m_kindOf m_sizeOf m_placeOf m_onOf m_sticksOf m_savedDepth a1 a2 a3 a4 = some (r, m_books_, m_savedSize_, m_savedPlace_, m_savedSticks_, m_depthOf_, m_kindOf_, m_sizeOf_, m_placeOf_, m_onOf_, m_sticksOf_, m_savedDepth_) ∧ Rel (t + 1) ltr lrd srs bks_ img pag n_cnt n_wet n_stg n_dys n_dep n_knd n_siz n_plc n_onn n_axs k_cnt k_wet k_stg k_dys k_dep k_knd k_siz k_plc k_onn k_axs m_isLawn m_lawns m_wetness m_strength m_days m_balls m_asks m_books_ m_pageLength m_depthOf_ m_kindOf_ m_sizeOf_ m_placeOf_ m_onOf_ m_sticksOf_ m_page m_isKept m_keptLawn m_keptBalls m_keptStrength m_keptDays m_keptDepth m_keptSize m_keptPlace m_keptOn m_keptSticks := by
  obtain ⟨L, l, a, b, n, hG, hC, hN, hZ, hI⟩ := id h
  obtain ⟨n1, n2, ⟨w, w9, n3⟩, n4, n5, n6, n7, n8, n9⟩ := id hN
  have hn4 := n7.1
  subst n1; subst n2
  have q4 := n4.symm
  have q5 := n5.symm
  have q6 := n6.symm
  subst q4; subst q5; subst q6
  obtain ⟨l1, l2, l3, l4, s1, s2, s3, b1, b2, b3⟩ := id hC
  subst b1; subst b2
  rw [f_X7_book, f_X8_book]
  rcases isKd a1 with ⟨c, c1, c2, h4, h5⟩ | ⟨h4, h5⟩
  · rw [h4, h5, Option.bind_some, Option.bind_some, if_neg i10, if_neg i10]
    rcases isPl a2 with ⟨p, p1, p2, h6, h7⟩ | ⟨h6, h7⟩
    · rw [h6, h7, Option.bind_some, Option.bind_some, if_neg i10, if_neg i10]
      rcases rng a3 (lo := 0) (hi := 5) (l := 0) (h := 5) rfl rfl (by omega) (by omega) with ⟨M, M1, M5, M2, h8, h9⟩ | ⟨h8, h9⟩
      · rw [h8, h9, Option.bind_some, Option.bind_some, if_pos i00, if_neg i10]
        rcases rng a4 (lo := 0) (hi := 99) (l := 0) (h := 99) rfl rfl (by omega) (by omega) with ⟨T, T1, T2, T3, h10, h11⟩ | ⟨h10, h11⟩
        · rw [h10, h11, Option.bind_some, Option.bind_some, if_pos i00, if_neg i10]
          rcases hasL hC (by omega) with ⟨l0, g1, g2, -⟩ | ⟨l0, g1, g2⟩
          · rw [g1, Option.bind_some, if_neg i10, if_neg g2]
            by_cases hb : b = 60
            · rw [if_neg (show ¬ nI b < 60 by rw [hb]; decide), if_pos ((ne60 b3).mpr hb)]
              exact ⟨_, _, _, _, _, _, _, _, _, _, _, _, _, _, _, _, _, _, _, _, _, _, _, _, _, _, rfl, rfl, h.up⟩
            · rw [if_pos (show nI b < 60 from nI_lt (b := 60) (by omega) (by omega)), if_neg (fun q => hb ((ne60 b3).mp q))]
              have hO : OK1 (9 * t + 1) n (va_up (cp 4 n_knd t_knd) 4 c) (upd (cp 4 n_siz t_siz) 4 1) (upd (cp 4 n_plc t_plc) 4 (nI p)) (upd (cp 4 n_onn t_onn) 4 (-1)) (upd (cp 4 n_axs t_axs) 4 (-1)) := n7.congr fun i hi => by
                have h4' : i ≠ 4 := by omega
                rw [vk_ne h4', upd_ne _ _ h4', upd_ne _ _ h4', upd_ne _ _ h4', upd_ne _ _ h4']
                exact ⟨cp_lt (by omega), cp_lt (by omega), cp_lt (by omega), cp_lt (by omega), cp_lt (by omega)⟩
              have hGD : GD (9 * t + 1) n 4 (va_up (cp 4 n_knd t_knd) 4 c) (upd (cp 4 n_onn t_onn) 4 (-1)) (cp 20 n_dep t_dep, upd (cp 4 n_siz t_siz) 4 1, upd (cp 4 n_plc t_plc) 4 (nI p), upd (cp 4 n_axs t_axs) 4 (-1)) := by
                refine ⟨⟨hO.1, by omega, by omega, fun i hi => ?_, hO.2.2⟩, fun q hq => ?_⟩
                · rcases hi with hi | rfl
                  · exact hO.2.1 i hi
                  · dsimp only
                    rw [vk_eq, upd_same, upd_same, upd_same, upd_same]
                    exact ⟨c1, Or.inr ⟨1, p, by omega, by omega, rfl, p1, rfl⟩, Or.inl rfl⟩
                · dsimp only
                  rw [cp_lt hq]; exact n9.d9 q hq
              have hMR : MR n 4 (va_up (cp 4 n_knd t_knd) 4 c) (upd (cp 4 n_onn t_onn) 4 (-1)) (upd m_kindOf 4 (nI c)) (upd m_onOf 4 (-1)) (cp 20 n_dep t_dep, upd (cp 4 n_siz t_siz) 4 1, upd (cp 4 n_plc t_plc) 4 (nI p), upd (cp 4 n_axs t_axs) 4 (-1)) m_depthOf (upd m_sizeOf 4 1) (upd m_placeOf 4 (nI p)) (upd m_sticksOf 4 (-1)) := by
                refine ⟨fun q hq => ?_, fun i hi => ?_⟩
                · dsimp only
                  rw [cp_lt hq]; exact n9 q hq
                · dsimp only
                  rcases hi with hi | rfl
                  · have h4' : i ≠ 4 := by omega
                    have hi4 : i < 4 := by omega
                    rw [vk_ne h4', upd_ne _ _ h4', upd_ne _ _ h4', upd_ne _ _ h4', upd_ne _ _ h4', upd_ne _ _ h4', upd_ne _ _ h4', upd_ne _ _ h4', upd_ne _ _ h4', upd_ne _ _ h4', cp_lt hi4, cp_lt hi4, cp_lt hi4, cp_lt hi4, cp_lt hi4]
                    exact n8 i hi
                  · rw [vk_eq, upd_same, upd_same, upd_same, upd_same, upd_same, upd_same, upd_same, upd_same, upd_same]
                    exact ⟨rfl, rfl, rfl, rfl, rfl⟩
              have hX := x_G ⟨w9, n3⟩ n_stg n_dys (va_up (cp 4 n_knd t_knd) 4 c) (upd (cp 4 n_onn t_onn) 4 (-1)) (nI M) a4 (M := M) (by omega) M 7 (9 * t + 1) 0 _ (-1) 0 (by omega) (by omega) (by omega) hGD
              have hlv : ∀ k : Nat, ∀ x ∈ lev (canT n n_stg (va_up (cp 4 n_knd t_knd) 4 c) (upd (cp 4 n_onn t_onn) 4 (-1)) 4) (stpT n_wet (va_up (cp 4 n_knd t_knd) 4 c) 4) k (cp 20 n_dep t_dep, upd (cp 4 n_siz t_siz) 4 1, upd (cp 4 n_plc t_plc) 4 (nI p), upd (cp 4 n_axs t_axs) 4 (-1)) 0 (-1), x.2.1 = 0 + k := fun k x hx => lev_lvl _ _ k _ 0 (-1) x hx
              have hLV : ∀ (g : Nat → List Nd) (j i : Nat), LV g (R i (j + 1)) = LV g (R i j) ++ g (i + j) := by
                intro g j
                induction j with
                | zero => intro i; show g i ++ [] = [] ++ g (i + 0); rw [List.append_nil, List.nil_append, Nat.add_zero]
                | succ j ih => intro i; show g i ++ LV g (R (i + 1) (j + 1)) = (g i ++ LV g (R (i + 1) j)) ++ g (i + (j + 1)); rw [ih, List.append_assoc, show i + 1 + j = i + (j + 1) by omega]
              rw [pre_lev (Cm_G 4 (nI M) a4) _ _ _ _ _ _ _ (by omega), hLV, List.foldl_append, Nat.zero_add, mtG_at _ _ (fun x hx => by have := hlv M x hx; omega), mtG_no (by omega) _ _ (fun x hx => by have := LV_up hlv M 0 x hx; omega)] at hX
              obtain ⟨mD', mZ', mP', mX', e1, e2⟩ := m_G1 ⟨w9, n3⟩ n_stg (k := M) (by omega) (by omega) hGD (hMR.sv m_savedDepth) a4 (4 ^ M) 0 1100 0 m_depthOf _ _ _ (by omega) (by have := (show ∀ k, k < 6 → 4 ^ k ≤ 1024 by decide +kernel) M (by omega); omega) hMR
              rw [cdr_lev] at e1
              generalize hcn : List.foldl (cnt 4 a4) 0 (lev (canT n n_stg (va_up (cp 4 n_knd t_knd) 4 c) (upd (cp 4 n_onn t_onn) 4 (-1)) 4) (stpT n_wet (va_up (cp 4 n_knd t_knd) 4 c) 4) M (cp 20 n_dep t_dep, upd (cp 4 n_siz t_siz) 4 1, upd (cp 4 n_plc t_plc) 4 (nI p), upd (cp 4 n_axs t_axs) 4 (-1)) 0 (-1)) = u at hX e1
              replace hX : fr_X7_explore_G 7 (nI n) n_wet n_stg n_dys (cp 20 n_dep t_dep) (va_up (cp 4 n_knd t_knd) 4 c) (upd (cp 4 n_siz t_siz) 4 1) (upd (cp 4 n_plc t_plc) 4 (nI p)) (upd (cp 4 n_onn t_onn) 4 (-1)) (upd (cp 4 n_axs t_axs) 4 (-1)) 0 (nI M) a4 4 (nI M) 0 (-1) = _ := hX
              replace e1 : f_X8_bookNow_h18 n_wet n_stg (nI n) (nI M) a4 1100 (upd m_sizeOf 4 1 4) (upd m_placeOf 4 (nI p) 4) (upd m_sticksOf 4 (-1) 4) m_depthOf (upd m_kindOf 4 (nI c)) (upd m_sizeOf 4 1) (upd m_placeOf 4 (nI p)) (upd m_onOf 4 (-1)) (upd m_sticksOf 4 (-1)) (cp 20 m_depthOf m_savedDepth) 0 0 = _ := e1
              have sv : f_X8_save m_depthOf (upd m_sizeOf 4 1) (upd m_placeOf 4 (nI p)) (upd m_sticksOf 4 (-1)) m_savedDepth 4 = _ := v_save (b := 4) (by omega) m_depthOf (upd m_sizeOf 4 1) (upd m_placeOf 4 (nI p)) (upd m_sticksOf 4 (-1)) m_savedDepth
              have ly : f_X8_lay m_kindOf m_sizeOf m_placeOf m_onOf m_sticksOf 4 (nI c) (nI p) = some (upd m_kindOf 4 (nI c), upd m_sizeOf 4 1, upd m_placeOf 4 (nI p), upd m_onOf 4 (-1), upd m_sticksOf 4 (-1)) := by
                rw [f_X8_lay, if_pos (show ok (4 : Int32) 5 = true by decide +kernel)]; rfl
              rw [f_X6_begin, Option.bind_some]
              dsimp only
              rw [v_copyFrom, Option.bind_some]
              dsimp only
              rw [c2, p2, M2, if_pos (okT (show c < 5 by omega) (by omega)), tnI (show c < 2 ^ 31 by omega), f_X1_begin, Option.bind_some]
              dsimp only
              rw [hX, Option.bind_some, f_X8_bookNow, ly, Option.bind_some]
              dsimp only
              rw [sv, Option.bind_some]
              dsimp only
              rw [e1, Option.bind_some]
              refine ⟨_, _, _, _, _, _, _, _, _, _, _, _, _, _, _, _, _, _, _, _, _, _, _, _, _, _, rfl, rfl, L, l, a, b + 1, n, hG, hC.bks (by omega), ⟨rfl, rfl, ⟨w, w9, n3⟩, rfl, rfl, rfl, n7.up (by omega), fun i hi => ?_, fun q hq => ?_⟩, hZ, hI.up⟩
              · have hin : i < n := hi
                have h4' : i ≠ 4 := by omega
                have hi4 : i < 4 := by omega
                have e := e2.2 i (Or.inl hin)
                dsimp only at e
                rw [vk_ne h4', upd_ne _ _ h4', upd_ne _ _ h4', upd_ne _ _ h4', upd_ne _ _ h4', upd_ne _ _ h4', upd_ne _ _ h4', cp_lt hi4, cp_lt hi4, cp_lt hi4, cp_lt hi4, cp_lt hi4] at e
                dsimp only
                rw [upd_ne _ _ h4', upd_ne _ _ h4']
                exact e
              · have e := e2.1 q hq
                dsimp only at e
                rw [cp_lt hq] at e
                exact e
          · rw [g1, Option.bind_some, if_pos i00, if_pos g2]
            exact ⟨_, _, _, _, _, _, _, _, _, _, _, _, _, _, _, _, _, _, _, _, _, _, _, _, _, _, rfl, rfl, h.up⟩
        · rw [h10, h11, Option.bind_some, Option.bind_some, if_neg i10, if_pos i00]
          exact ⟨_, _, _, _, _, _, _, _, _, _, _, _, _, _, _, _, _, _, _, _, _, _, _, _, _, _, rfl, rfl, h.up⟩
      · rw [h8, h9, Option.bind_some, Option.bind_some, if_neg i10, if_pos i00]
        exact ⟨_, _, _, _, _, _, _, _, _, _, _, _, _, _, _, _, _, _, _, _, _, _, _, _, _, _, rfl, rfl, h.up⟩
    · rw [h6, h7, Option.bind_some, Option.bind_some, if_pos i00, if_pos i00]
      exact ⟨_, _, _, _, _, _, _, _, _, _, _, _, _, _, _, _, _, _, _, _, _, _, _, _, _, _, rfl, rfl, h.up⟩
  · rw [h4, h5, Option.bind_some, Option.bind_some, if_pos i00, if_pos i00]
    exact ⟨_, _, _, _, _, _, _, _, _, _, _, _, _, _, _, _, _, _, _, _, _, _, _, _, _, _, rfl, rfl, h.up⟩
