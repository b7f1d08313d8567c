/-! the three searches, both sides -/
theorem v_maySearch {B n i a : Nat} (ha : a ≤ 60) (hi : i < 5) {siz plc : Nat → Int32} (hB : 0 < siz i ↔ ¬ plc i = -1) : (plc i = -1 → f_X7_maySearch (nI a) siz (nI i) = some 0) ∧ (¬ plc i = -1 → a = 60 → f_X7_maySearch (nI a) siz (nI i) = some 0) ∧ (¬ plc i = -1 → a ≠ 60 → f_X7_maySearch (nI a) siz (nI i) = some 1) := by
  rw [f_X7_maySearch, if_pos (okT hi (by omega)), tnI (by omega), v_isGone, Option.bind_some]
  refine ⟨fun h => ?_, fun h h6 => ?_, fun h h6 => ?_⟩
  · rw [if_neg (fun q => hB.mp q h), if_neg i10]
  · rw [if_pos (hB.mpr h), if_pos i00, if_pos (show (60 : Int32) ≤ nI a by rw [h6]; exact Int32.le_refl _)]
  · rw [if_pos (hB.mpr h), if_pos i00, if_neg (show ¬ (60 : Int32) ≤ nI a from nI_ge (b := 60) (by omega) (by omega))]
theorem trial {t n i : Nat} (ht : t < 64) {knd tk : Nat → Nat} {dep siz plc onn axs td ts tp to tx mD mK mZ mP mO mX : Nat → Int32} (n7 : OK1 (9 * t + 1) n knd siz plc onn axs) (n8 : AG (fun i => i < n) knd siz plc onn axs mK mZ mP mO mX) (n9 : DOK dep mD) (hi : i < n) :
    GD (9 * t + 1) n i (cp 4 knd tk) (cp 4 onn to) (cp 20 dep td, cp 4 siz ts, cp 4 plc tp, cp 4 axs tx) ∧ MR n i (cp 4 knd tk) (cp 4 onn to) mK mO (cp 20 dep td, cp 4 siz ts, cp 4 plc tp, cp 4 axs tx) mD mZ mP mX := by
  have hn4 := n7.1
  have hO : OK1 (9 * t + 1) n (cp 4 knd tk) (cp 4 siz ts) (cp 4 plc tp) (cp 4 onn to) (cp 4 axs tx) := n7.congr fun i hi => ⟨cp_lt (by omega), cp_lt (by omega), cp_lt (by omega), cp_lt (by omega), cp_lt (by omega)⟩
  have hg : AG (fun i => i < n) (cp 4 knd tk) (cp 4 siz ts) (cp 4 plc tp) (cp 4 onn to) (cp 4 axs tx) mK mZ mP mO mX := fun i hi => by
    have hi4 : i < 4 := by have : i < n := hi; omega
    rw [cp_lt hi4, cp_lt hi4, cp_lt hi4, cp_lt hi4, cp_lt hi4]; exact n8 i hi
  have hd : DOK (cp 20 dep td) mD := fun p hp => by rw [cp_lt hp]; exact n9 p hp
  exact ⟨⟨RN.oks (by omega) hO hi, hd.d9⟩, hd, hg.ext hi⟩
theorem untrial {n i : Nat} (hn4 : n ≤ 4) {knd tk : Nat → Nat} {dep siz plc onn axs td ts tp to tx mD mK mZ mP mO mX : Nat → Int32} (h : MR n i (cp 4 knd tk) (cp 4 onn to) mK mO (cp 20 dep td, cp 4 siz ts, cp 4 plc tp, cp 4 axs tx) mD mZ mP mX) : AG (fun i => i < n) knd siz plc onn axs mK mZ mP mO mX ∧ DOK dep mD := by
  refine ⟨fun q hq => ?_, fun p hp => ?_⟩
  · have hi4 : q < 4 := by have : q < n := hq; omega
    have := h.2 q (Or.inl hq)
    dsimp only at this
    rw [cp_lt hi4, cp_lt hi4, cp_lt hi4, cp_lt hi4, cp_lt hi4] at this
    exact this
  · have := h.1 p hp
    dsimp only at this
    rw [cp_lt hp] at this
    exact this
theorem MR.sv {n b : Nat} {knd : Nat → Nat} {onn mK mO : Nat → Int32} {C : CS} {mD mZ mP mX : Nat → Int32} (h : MR n b knd onn mK mO C mD mZ mP mX) (sD : Nat → Int32) : SV b C (mZ b) (mP b) (mX b) (cp 20 mD sD) := by
  obtain ⟨-, h2, h3, -, h5⟩ := h.2 b (Or.inr rfl)
  exact ⟨h2, h3, h5, fun p hp => by rw [cp_lt hp]; exact h.1 p hp⟩
theorem RC.ask {t l a b : Nat} {lrd bks mla mil mbo : Int32} (h : RC t l a b lrd (nI a) bks mla mil (nI a) mbo) (ha : a < 60) : RC (t + 1) l (a + 1) b lrd (nI a + 1) bks mla mil (nI a + 1) mbo := by
  obtain ⟨h1, h2, h3, h4, -, -, -, h8⟩ := h
  exact ⟨h1, h2, by omega, h4, nI_1 a, nI_1 a, by omega, h8⟩
theorem RC.bks {t l a b : Nat} {lrd srs mla mil mas : Int32} (h : RC t l a b lrd srs (nI b) mla mil mas (nI b)) (hb : b < 60) : RC (t + 1) l a (b + 1) lrd srs (nI b + 1) mla mil mas (nI b + 1) := by
  obtain ⟨h1, h2, h3, h4, h5, h6, h7, -⟩ := h
  exact ⟨h1, h2, by omega, h4, h5, h6, h7, nI_1 b, nI_1 b, by omega⟩
theorem ne60 {a : Nat} (ha : a ≤ 60) : nI a = 60 ↔ a = 60 := ⟨fun q => (nI_eq (b := 60) (by omega) (by omega)).mp q, fun q => by rw [q]; rfl⟩
theorem op_comes {t : Nat} (ht : t < 64) (ltr lrd srs bks img : Int32) (pag : Nat → Int32) (n_cnt n_wet n_stg n_dys : Int32) (n_dep : Nat → Int32) (n_knd : Nat → Nat) (n_siz n_plc n_onn n_axs : Nat → Int32) (k_cnt k_wet k_stg k_dys : Int32) (k_dep : Nat → Int32) (k_knd : Nat → Nat) (k_siz k_plc k_onn k_axs : Nat → Int32) (t_cnt t_wet t_stg t_dys : Int32) (t_dep : Nat → Int32) (t_knd : Nat → Nat) (t_siz t_plc t_onn t_axs : Nat → Int32) (a_gfw a_gtg m_isLawn m_lawns m_wetness m_strength m_days m_balls m_asks m_books m_pageLength m_savedSize m_savedPlace m_savedSticks m_isKept m_keptLawn m_keptBalls m_keptStrength m_keptDays : Int32) (m_depthOf m_kindOf m_sizeOf m_placeOf m_onOf m_sticksOf m_page m_savedDepth m_keptDepth m_keptSize m_keptPlace m_keptOn m_keptSticks : Nat → Int32) (h : Rel t ltr lrd srs bks img pag n_cnt n_wet n_stg n_dys n_dep n_knd n_siz n_plc n_onn n_axs k_cnt k_wet k_stg k_dys k_dep k_knd k_siz k_plc k_onn k_axs m_isLawn m_lawns m_wetness m_strength m_days m_balls m_asks m_books m_pageLength m_depthOf m_kindOf m_sizeOf m_placeOf m_onOf m_sticksOf m_page m_isKept m_keptLawn m_keptBalls m_keptStrength m_keptDays m_keptDepth m_keptSize m_keptPlace m_keptOn m_keptSticks) (a1 a2 : Int32) : ∃ (r srs_ t_cnt_ t_wet_ t_stg_ t_dys_ : Int32) (t_dep_ : Nat → Int32) (t_knd_ : Nat → Nat) (t_siz_ t_plc_ t_onn_ t_axs_ : Nat → Int32) (a_gfw_ a_gtg_ m_asks_ m_savedSize_ m_savedPlace_ m_savedSticks_ : Int32) (m_depthOf_ m_sizeOf_ m_placeOf_ m_sticksOf_ m_savedDepth_ : Nat → Int32), f_X7_comes srs n_cnt n_wet n_stg n_dys n_dep n_knd n_siz n_plc n_onn n_axs t_cnt t_wet t_stg t_dys t_dep t_knd t_siz t_plc t_onn t_axs a_gfw a_gtg a1 a2 = some (r, srs_, t_cnt_, t_wet_, t_stg_, t_dys_, t_dep_, t_knd_, t_siz_, t_plc_, t_onn_, t_axs_, a_gfw_, a_gtg_) ∧ f_X8_comes m_wetness m_strength m_balls m_asks m_savedSize m_savedPlace m_savedSticks m_depthOf m_kindOf m_sizeOf m_placeOf m_onOf m_sticksOf m_savedDepth a1 a2 = some (r, m_asks_, m_savedSize_, m_savedPlace_, m_savedSticks_, m_depthOf_, m_sizeOf_, m_placeOf_, m_sticksOf_, m_savedDepth_) ∧ Rel (t + 1) ltr lrd srs_ bks img pag n_cnt n_wet n_stg n_dys n_dep n_knd n_siz n_plc n_onn n_axs k_cnt k_wet k_stg k_dys k_dep k_knd k_siz k_plc k_onn k_axs m_isLawn m_lawns m_wetness m_strength m_days m_balls m_asks_ m_books m_pageLength m_depthOf_ m_kindOf m_sizeOf_ m_placeOf_ m_onOf m_sticksOf_ m_page m_isKept m_keptLawn m_keptBalls m_keptStrength m_keptDays m_keptDepth m_keptSize m_keptPlace m_keptOn m_keptSticks := by
  obtain ⟨L, l, a, b, n, hG, hC, hN, hZ, hI⟩ := id h
  obtain ⟨n1, n2, ⟨w, w9, n3⟩, n4, n5, n6, n7, n8, n9⟩ := id hN
  have hn4 := n7.1
  subst n1; subst n2
  have q4 := n4.symm
  have q5 := n5.symm
  have q6 := n6.symm
  subst q4; subst q5; subst q6
  obtain ⟨l1, l2, l3, l4, s1, s2, s3, b1, b2, b3⟩ := id hC
  subst s1; subst s2
  rw [f_X7_comes, f_X8_comes]
  rcases isBl a1 hn4 with ⟨i, i1, i2, h4, h5⟩ | ⟨h4, h5⟩
  · rw [h4, h5, Option.bind_some, Option.bind_some, if_neg i10, if_neg i10]
    rcases isPl a2 with ⟨p, p1, p2, h6, h7⟩ | ⟨h6, h7⟩
    · rw [h6, h7, Option.bind_some, Option.bind_some, if_neg i10, if_neg i10, i2, if_pos (okT (show i < 5 by omega) (by omega)), tnI (show i < 2 ^ 31 by omega)]
      obtain ⟨-, -, eP, -⟩ := n8 i i1
      rw [eP]
      obtain ⟨m1, m2, m3⟩ := v_maySearch (B := 0) (n := 0) s3 (show i < 5 by omega) ((n7.2.1 i i1).alive (by omega))
      by_cases hp : n_plc i = -1
      · rw [m1 hp, Option.bind_some, if_pos i00, if_pos hp]
        exact ⟨_, _, _, _, _, _, _, _, _, _, _, _, _, _, _, _, _, _, _, _, _, _, _, rfl, rfl, h.up⟩
      · by_cases ha : a = 60
        · rw [m2 hp ha, Option.bind_some, if_pos i00, if_neg hp, if_pos ((ne60 s3).mpr ha)]
          exact ⟨_, _, _, _, _, _, _, _, _, _, _, _, _, _, _, _, _, _, _, _, _, _, _, rfl, rfl, h.up⟩
        · obtain ⟨hGD, hMR⟩ := trial (tk := t_knd) (td := t_dep) (ts := t_siz) (tp := t_plc) (to := t_onn) (tx := t_axs) ht n7 n8 n9 i1
          have hX := x_A ⟨w9, n3⟩ n_stg n_dys (cp 4 n_knd t_knd) (cp 4 n_onn t_onn) a2 (M := 6) (by omega) 6 7 (9 * t + 1) 0 _ (-1) (-1) (by omega) (by omega) (by omega) hGD
          rw [pre_lev (Cm_A i a2) _ _ _ _ _ _ _ (by omega)] at hX
          replace hX : fr_X7_explore_A 7 (nI n) n_wet n_stg n_dys (cp 20 n_dep t_dep) (cp 4 n_knd t_knd) (cp 4 n_siz t_siz) (cp 4 n_plc t_plc) (cp 4 n_onn t_onn) (cp 4 n_axs t_axs) (-1) a2 (nI i) 6 0 (-1) = _ := hX
          rw [m3 hp ha, Option.bind_some, if_neg i10, f_X0_begin, Option.bind_some]
          dsimp only
          rw [v_copyFrom, Option.bind_some]
          dsimp only
          rw [hX, Option.bind_some, if_neg hp, if_neg (fun q => ha ((ne60 s3).mp q)), f_X8_comesNow, if_pos (okT (show i < 5 by omega) (by omega)), tnI (show i < 2 ^ 31 by omega), eP]
          dsimp only
          have hlv : ∀ k : Nat, ∀ x ∈ lev (canT n n_stg (cp 4 n_knd t_knd) (cp 4 n_onn t_onn) i) (stpT n_wet (cp 4 n_knd t_knd) i) k (cp 20 n_dep t_dep, cp 4 n_siz t_siz, cp 4 n_plc t_plc, cp 4 n_axs t_axs) 0 (-1), x.2.1 = 0 + k := fun k x hx => lev_lvl _ _ k _ 0 (-1) x hx
          have hst : List.foldl (mtA i a2) (-1) (LV (fun k => lev (canT n n_stg (cp 4 n_knd t_knd) (cp 4 n_onn t_onn) i) (stpT n_wet (cp 4 n_knd t_knd) i) k (cp 20 n_dep t_dep, cp 4 n_siz t_siz, cp 4 n_plc t_plc, cp 4 n_axs t_axs) 0 (-1)) (R 0 (6 + 1))) = List.foldl (mtA i a2) (if n_plc i = a2 then nI 0 else -1) (LV (fun k => lev (canT n n_stg (cp 4 n_knd t_knd) (cp 4 n_onn t_onn) i) (stpT n_wet (cp 4 n_knd t_knd) i) k (cp 20 n_dep t_dep, cp 4 n_siz t_siz, cp 4 n_plc t_plc, cp 4 n_axs t_axs) 0 (-1)) (R 1 6)) := by
            show List.foldl (mtA i a2) (-1) ([(_, 0, -1)] ++ LV _ (R 1 6)) = _
            rw [List.foldl_append]
            show List.foldl (mtA i a2) (if cp 4 n_plc t_plc i = a2 then (if (-1 : Int32) = -1 then nI 0 else _) else -1) _ = _
            rw [cp_lt (show i < 4 by omega), if_pos (show (-1 : Int32) = -1 from rfl)]
          rw [hst]
          by_cases hpp : n_plc i = a2
          · rw [if_pos hpp, if_pos hpp, mtA_old (by omega) _ fun x hx => by
              have a1 := LV_up hlv 6 1 x hx
              omega]
            refine ⟨_, _, _, _, _, _, _, _, _, _, _, _, _, _, _, _, _, _, _, _, _, _, _, rfl, rfl, L, l, a + 1, b, n, hG, hC.ask (by omega), (hN.up), hZ, hI.up⟩
          · obtain ⟨mD', mZ', mP', mX', e1, e2⟩ := m_A2 ⟨w9, n3⟩ n_stg (by omega) hGD (hMR.sv m_savedDepth) a2 6 1 4100 m_depthOf m_sizeOf m_placeOf m_sticksOf (by omega) (by omega) hMR
            replace e1 : f_X8_comesNow_h19 n_wet n_stg (nI n) m_kindOf m_onOf (nI i) a2 4100 (m_sizeOf i) (m_placeOf i) (m_sticksOf i) m_depthOf m_sizeOf m_placeOf m_sticksOf (cp 20 m_depthOf m_savedDepth) 1 = _ := e1
            obtain ⟨u1, u2⟩ := untrial hn4 e2
            rw [if_neg hpp, if_neg hpp, v_save (by omega), Option.bind_some]
            dsimp only
            rw [e1, Option.bind_some]
            exact ⟨_, _, _, _, _, _, _, _, _, _, _, _, _, _, _, _, _, _, _, _, _, _, _, rfl, rfl, L, l, a + 1, b, n, hG, hC.ask (by omega), ⟨rfl, rfl, ⟨w, w9, n3⟩, rfl, rfl, rfl, n7.up (by omega), u1, u2⟩, hZ, hI.up⟩
    · rw [h6, h7, Option.bind_some, Option.bind_some, if_pos i00, if_pos i00]
      exact ⟨_, _, _, _, _, _, _, _, _, _, _, _, _, _, _, _, _, _, _, _, _, _, _, rfl, rfl, h.up⟩
  · rw [h4, h5, Option.bind_some, Option.bind_some, if_pos i00, if_pos i00]
    exact ⟨_, _, _, _, _, _, _, _, _, _, _, _, _, _, _, _, _, _, _, _, _, _, _, rfl, rfl, h.up⟩
