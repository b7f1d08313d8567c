theorem firstL_cases (P : Nat → Prop) [DecidablePred P] : ∀ (l : List Nat), ((∀ q ∈ l, ¬ P q) ∧ firstL P l = -1) ∨ ∃ q ∈ l, P q ∧ firstL P l = nI q
  | [] => Or.inl ⟨fun q h => (List.not_mem_nil h).elim, rfl⟩
  | a :: l => by
    by_cases hp : P a
    · exact Or.inr ⟨a, List.mem_cons_self, hp, by show (if P a then nI a else firstL P l) = _; rw [if_pos hp]⟩
    · rcases firstL_cases P l with ⟨h1, h2⟩ | ⟨q, h1, h2, h3⟩
      · left
        refine ⟨fun q hq => ?_, by show (if P a then nI a else firstL P l) = _; rw [if_neg hp, h2]⟩
        rcases List.mem_cons.mp hq with rfl | hq
        · exact hp
        · exact h1 q hq
      · exact Or.inr ⟨q, List.mem_cons_of_mem _ h1, h2, by show (if P a then nI a else firstL P l) = _; rw [if_neg hp, h3]⟩
/-- the bottom of a place, first or last found -/
theorem first_last {n : Nat} {plc onn mP mO : Nat → Int32} (hs : STK n plc onn) (hg : ∀ i : Nat, i < n → mP i = plc i ∧ mO i = onn i) (t : Nat) (ht : t < 20) : firstL (fun q => plc q = nI t ∧ onn q = -1) (R 0 n) = lastL (fun q => mP q = nI t ∧ mO q = -1) (R 0 n) (-1) := by
  rcases firstL_cases (fun q => plc q = nI t ∧ onn q = -1) (R 0 n) with ⟨h1, h2⟩ | ⟨q, h1, h2, h3⟩
  · rcases lastL_cases (fun q => mP q = nI t ∧ mO q = -1) (R 0 n) (-1) with ⟨k1, k2⟩ | ⟨q, k1, k2, k3⟩
    · rw [h2, k2]
    · obtain ⟨g1, g2⟩ := hg q (R0.mp k1)
      exact absurd ⟨by rw [← g1]; exact k2.1, by rw [← g2]; exact k2.2⟩ (h1 q k1)
  · rcases lastL_cases (fun q => mP q = nI t ∧ mO q = -1) (R 0 n) (-1) with ⟨k1, k2⟩ | ⟨p, k1, k2, k3⟩
    · obtain ⟨g1, g2⟩ := hg q (R0.mp h1)
      exact absurd ⟨by rw [g1]; exact h2.1, by rw [g2]; exact h2.2⟩ (k1 q h1)
    · obtain ⟨g1, g2⟩ := hg p (R0.mp k1)
      have hpq : q = p := hs.2.2.2 q p (R0.mp h1) (R0.mp k1) h2.2 (by rw [← g2]; exact k2.2) (by rw [h2.1]; exact nI_m1 (by omega)) (by rw [h2.1, ← g1]; exact k2.1.symm)
      rw [h3, k3, hpq]
theorem BOK.size {B k : Nat} {z p o x : Int32} (h : BOK B k z p o x) (hB : B < 4000) : ∃ s : Nat, s < 4000 ∧ z = nI s := by
  obtain ⟨-, h | ⟨s, q, h1, h2, h3, -⟩, -⟩ := h
  · exact ⟨0, by omega, h.1⟩
  · exact ⟨s, by omega, h3⟩
theorem heights {n : Nat} (hn : n ≤ 4) {B : Nat} (hB : B < 4000) {knd : Nat → Nat} {siz plc onn axs mK mZ mP mO mX : Nat → Int32} (hk : ∀ i : Nat, i < n → BOK B (knd i) (siz i) (plc i) (onn i) (axs i)) (hg : AG (fun i => i < n) knd siz plc onn axs mK mZ mP mO mX) (a : Int32) : ∃ r : Int32, f_X4_heightAt (nI n) siz plc a = some r ∧ f_X8_heightOf (nI n) mZ mP a = some r := by
  refine ⟨_, v_heightAt hn siz plc (fun q hq => (hk q hq).size hB) a, ?_⟩
  rw [v_heightOf hn mZ mP (fun q hq => by rw [(hg q hq).2.1]; exact (hk q hq).size hB) a]
  refine congrArg some (sumL_congr fun q hq => ?_)
  obtain ⟨-, g2, g3, -, -⟩ := hg q (R0.mp hq)
  rw [g2, g3]
theorem op_place {t : Nat} (ht : t < 64) (ltr lrd srs bks img : Int32) (pag : Nat → Int32) (n_cnt n_wet n_stg n_dys : Int32) (n_dep : Nat → Int32) (n_knd : Nat → Nat) (n_siz n_plc n_onn n_axs : Nat → Int32) (k_cnt k_wet k_stg k_dys : Int32) (k_dep : Nat → Int32) (k_knd : Nat → Nat) (k_siz k_plc k_onn k_axs : Nat → Int32) (m_isLawn m_lawns m_wetness m_strength m_days m_balls m_asks m_books m_pageLength m_isKept m_keptLawn m_keptBalls m_keptStrength m_keptDays : Int32) (m_depthOf m_kindOf m_sizeOf m_placeOf m_onOf m_sticksOf m_page m_keptDepth m_keptSize m_keptPlace m_keptOn m_keptSticks : Nat → Int32) (h : Rel t ltr lrd srs bks img pag n_cnt n_wet n_stg n_dys n_dep n_knd n_siz n_plc n_onn n_axs k_cnt k_wet k_stg k_dys k_dep k_knd k_siz k_plc k_onn k_axs m_isLawn m_lawns m_wetness m_strength m_days m_balls m_asks m_books m_pageLength m_depthOf m_kindOf m_sizeOf m_placeOf m_onOf m_sticksOf m_page m_isKept m_keptLawn m_keptBalls m_keptStrength m_keptDays m_keptDepth m_keptSize m_keptPlace m_keptOn m_keptSticks) (a1 a2 : Int32) : ∃ (r : Int32), f_X7_place lrd n_cnt n_dep n_siz n_plc n_onn a1 a2 = some r ∧ f_X8_place m_isLawn m_balls m_depthOf m_sizeOf m_placeOf m_onOf a1 a2 = some r ∧ Rel (t + 1) ltr lrd srs bks img pag n_cnt n_wet n_stg n_dys n_dep n_knd n_siz n_plc n_onn n_axs k_cnt k_wet k_stg k_dys k_dep k_knd k_siz k_plc k_onn k_axs m_isLawn m_lawns m_wetness m_strength m_days m_balls m_asks m_books m_pageLength m_depthOf m_kindOf m_sizeOf m_placeOf m_onOf m_sticksOf m_page m_isKept m_keptLawn m_keptBalls m_keptStrength m_keptDays m_keptDepth m_keptSize m_keptPlace m_keptOn m_keptSticks := by
  obtain ⟨L, l, a, b, n, hG, hC, hN, hZ, hI⟩ := id h
  obtain ⟨n1, n2, ⟨w, w9, n3⟩, n4, n5, n6, n7, n8, n9⟩ := id hN
  have hn4 := n7.1
  subst n1; subst n2
  have q4 := n4.symm
  have q5 := n5.symm
  have q6 := n6.symm
  subst q4; subst q5; subst q6
  rcases isPl a1 with ⟨p, p1, p2, h4, h5⟩ | ⟨h4, h5⟩
  · rw [f_X7_place, f_X8_place, h4, h5, Option.bind_some, Option.bind_some, if_neg i10, if_neg i10]
    rcases rng a2 (lo := 0) (hi := 2) (l := 0) (h := 2) rfl rfl (by omega) (by omega) with ⟨c, c1, c2, c3, h6, h7⟩ | ⟨h6, h7⟩
    · rw [h6, h7, Option.bind_some, Option.bind_some, if_pos i00, if_neg i10]
      rcases hasL hC (by omega) with ⟨l0, g1, g2, -⟩ | ⟨l0, g1, g2⟩
      · rw [g1, Option.bind_some, if_neg i10, if_neg g2]
        by_cases e0 : a2 = 0
        · rw [if_pos e0, if_pos e0, p2, if_pos (okT p1 (by omega)), if_pos (okT p1 (by omega)), tnI (by omega)]
          obtain ⟨d, -, d1, d2⟩ := n9 p p1
          exact ⟨_, rfl, by rw [d1, d2], h.up⟩
        · rw [if_neg e0, if_neg e0]
          by_cases e1 : a2 = 1
          · rw [if_pos e1, if_pos e1, p2, v_lowestAt hn4, v_standsOn hn4, first_last n7.2.2 (fun i hi => ⟨(n8 i hi).2.2.1, (n8 i hi).2.2.2.1⟩) p p1]
            simp only [Option.bind_some]
            exact ⟨_, rfl, rfl, h.up⟩
          · rw [if_neg e1, if_neg e1]
            obtain ⟨r, r1, r2⟩ := heights hn4 (by omega) n7.2.1 n8 a1
            rw [r1, r2]
            simp only [Option.bind_some]
            exact ⟨_, rfl, rfl, h.up⟩
      · rw [g1, Option.bind_some, if_pos i00, if_pos g2]
        exact ⟨_, rfl, rfl, h.up⟩
    · rw [h6, h7, Option.bind_some, Option.bind_some, if_neg i10, if_pos i00]
      exact ⟨_, rfl, rfl, h.up⟩
  · rw [f_X7_place, f_X8_place, h4, h5, Option.bind_some, Option.bind_some, if_pos i00, if_pos i00]
    exact ⟨_, rfl, rfl, h.up⟩
theorem op_about {t : Nat} (ht : t < 64) (ltr lrd srs bks img : Int32) (pag : Nat → Int32) (n_cnt n_wet n_stg n_dys : Int32) (n_dep : Nat → Int32) (n_knd : Nat → Nat) (n_siz n_plc n_onn n_axs : Nat → Int32) (k_cnt k_wet k_stg k_dys : Int32) (k_dep : Nat → Int32) (k_knd : Nat → Nat) (k_siz k_plc k_onn k_axs : Nat → Int32) (m_isLawn m_lawns m_wetness m_strength m_days m_balls m_asks m_books m_pageLength m_isKept m_keptLawn m_keptBalls m_keptStrength m_keptDays : Int32) (m_depthOf m_kindOf m_sizeOf m_placeOf m_onOf m_sticksOf m_page m_keptDepth m_keptSize m_keptPlace m_keptOn m_keptSticks : Nat → Int32) (h : Rel t ltr lrd srs bks img pag n_cnt n_wet n_stg n_dys n_dep n_knd n_siz n_plc n_onn n_axs k_cnt k_wet k_stg k_dys k_dep k_knd k_siz k_plc k_onn k_axs m_isLawn m_lawns m_wetness m_strength m_days m_balls m_asks m_books m_pageLength m_depthOf m_kindOf m_sizeOf m_placeOf m_onOf m_sticksOf m_page m_isKept m_keptLawn m_keptBalls m_keptStrength m_keptDays m_keptDepth m_keptSize m_keptPlace m_keptOn m_keptSticks) (a1 a2 : Int32) : ∃ (r : Int32), f_X7_about n_cnt n_knd n_siz n_plc n_onn n_axs a1 a2 = some r ∧ f_X8_about m_balls m_kindOf m_sizeOf m_placeOf m_onOf m_sticksOf a1 a2 = some r ∧ Rel (t + 1) ltr lrd srs bks img pag n_cnt n_wet n_stg n_dys n_dep n_knd n_siz n_plc n_onn n_axs k_cnt k_wet k_stg k_dys k_dep k_knd k_siz k_plc k_onn k_axs m_isLawn m_lawns m_wetness m_strength m_days m_balls m_asks m_books m_pageLength m_depthOf m_kindOf m_sizeOf m_placeOf m_onOf m_sticksOf m_page m_isKept m_keptLawn m_keptBalls m_keptStrength m_keptDays m_keptDepth m_keptSize m_keptPlace m_keptOn m_keptSticks := by
  obtain ⟨L, l, a, b, n, hG, hC, hN, hZ, hI⟩ := id h
  obtain ⟨n1, n2, ⟨w, w9, n3⟩, n4, n5, n6, n7, n8, n9⟩ := id hN
  have hn4 := n7.1
  subst n1; subst n2
  have q4 := n4.symm
  have q5 := n5.symm
  have q6 := n6.symm
  subst q4; subst q5; subst q6
  rw [f_X7_about, f_X8_about]
  rcases isBl a1 hn4 with ⟨i, i1, i2, h4, h5⟩ | ⟨h4, h5⟩
  · rw [h4, h5, Option.bind_some, Option.bind_some, if_neg i10, if_neg i10]
    rcases rng a2 (lo := 0) (hi := 6) (l := 0) (h := 6) rfl rfl (by omega) (by omega) with ⟨c, c1, c2, c3, h6, h7⟩ | ⟨h6, h7⟩
    · obtain ⟨g1, g2, g3, g4, g5⟩ := n8 i i1
      have hk5 := (n7.2.1 i i1).1
      rw [h6, h7, Option.bind_some, Option.bind_some, if_pos i00, if_neg i10, f_X8_ballNow, i2, if_pos (okT (by omega) (by omega)), if_pos (okT (by omega) (by omega)), tnI (by omega), g1, g2, g3, g4, g5, if_pos hk5, v_weightX hk5, v_weighs (by omega) hk5 g1, g2]
      have hbr : f_X8_breadth m_kindOf m_sizeOf (nI i) = some ((1 + (n_siz i / 8)) + kf_moreBreadth (n_knd i)) := by
        rw [f_X8_breadth, if_pos (okT (by omega) (by omega)), tnI (by omega), g1, g2]
        generalize n_knd i = k at hk5
        match k, hk5 with
        | 0, _ => rfl
        | 1, _ => rfl
        | 2, _ => rfl
        | 3, _ => rfl
        | 4, _ => rfl
        | k + 5, h => exact absurd h (by omega)
      have hnum : kf_number (n_knd i) = nI (n_knd i) := by
        generalize n_knd i = k at hk5
        match k, hk5 with
        | 0, _ => rfl
        | 1, _ => rfl
        | 2, _ => rfl
        | 3, _ => rfl
        | 4, _ => rfl
        | k + 5, h => exact absurd h (by omega)
      have ck : ok (nI i) 5 = true := okT (by omega) (by omega)
      rw [hbr, f_X2_breadth, hnum]
      have bs : ∀ x : Option Int32, (x.bind fun r => some r) = x := fun x => by cases x <;> rfl
      simp only [bs, Option.bind_some, ck, hk5, eq_self, if_true]
      by_cases e0 : a2 = 0
      · rw [if_pos e0]; exact ⟨_, rfl, rfl, h.up⟩
      · rw [if_neg e0]
        by_cases e1 : a2 = 1
        · rw [if_pos e1]; exact ⟨_, rfl, rfl, h.up⟩
        · rw [if_neg e1]
          by_cases e2 : a2 = 2
          · rw [if_pos e2]; exact ⟨_, rfl, rfl, h.up⟩
          · rw [if_neg e2]
            by_cases e3 : a2 = 3
            · rw [if_pos e3]; exact ⟨_, rfl, rfl, h.up⟩
            · rw [if_neg e3]
              by_cases e4 : a2 = 4
              · rw [if_pos e4]; exact ⟨_, rfl, rfl, h.up⟩
              · rw [if_neg e4]
                by_cases e5 : a2 = 5
                · rw [if_pos e5]; exact ⟨_, rfl, rfl, h.up⟩
                · rw [if_neg e5]; exact ⟨_, rfl, rfl, h.up⟩
    · rw [h6, h7, Option.bind_some, Option.bind_some, if_neg i10, if_pos i00]
      exact ⟨_, rfl, rfl, h.up⟩
  · rw [h4, h5, Option.bind_some, Option.bind_some, if_pos i00, if_pos i00]
    exact ⟨_, rfl, rfl, h.up⟩
theorem op_as {t : Nat} (ht : t < 64) (ltr lrd srs bks img : Int32) (pag : Nat → Int32) (n_cnt n_wet n_stg n_dys : Int32) (n_dep : Nat → Int32) (n_knd : Nat → Nat) (n_siz n_plc n_onn n_axs : Nat → Int32) (k_cnt k_wet k_stg k_dys : Int32) (k_dep : Nat → Int32) (k_knd : Nat → Nat) (k_siz k_plc k_onn k_axs : Nat → Int32) (m_isLawn m_lawns m_wetness m_strength m_days m_balls m_asks m_books m_pageLength m_isKept m_keptLawn m_keptBalls m_keptStrength m_keptDays : Int32) (m_depthOf m_kindOf m_sizeOf m_placeOf m_onOf m_sticksOf m_page m_keptDepth m_keptSize m_keptPlace m_keptOn m_keptSticks : Nat → Int32) (h : Rel t ltr lrd srs bks img pag n_cnt n_wet n_stg n_dys n_dep n_knd n_siz n_plc n_onn n_axs k_cnt k_wet k_stg k_dys k_dep k_knd k_siz k_plc k_onn k_axs m_isLawn m_lawns m_wetness m_strength m_days m_balls m_asks m_books m_pageLength m_depthOf m_kindOf m_sizeOf m_placeOf m_onOf m_sticksOf m_page m_isKept m_keptLawn m_keptBalls m_keptStrength m_keptDays m_keptDepth m_keptSize m_keptPlace m_keptOn m_keptSticks) (a1 a2 : Int32) : ∃ (r : Int32), f_X7_as n_cnt n_knd a1 a2 = some r ∧ f_X8_as m_balls m_kindOf a1 a2 = some r ∧ Rel (t + 1) ltr lrd srs bks img pag n_cnt n_wet n_stg n_dys n_dep n_knd n_siz n_plc n_onn n_axs k_cnt k_wet k_stg k_dys k_dep k_knd k_siz k_plc k_onn k_axs m_isLawn m_lawns m_wetness m_strength m_days m_balls m_asks m_books m_pageLength m_depthOf m_kindOf m_sizeOf m_placeOf m_onOf m_sticksOf m_page m_isKept m_keptLawn m_keptBalls m_keptStrength m_keptDays m_keptDepth m_keptSize m_keptPlace m_keptOn m_keptSticks := by
  obtain ⟨L, l, a, b, n, hG, hC, hN, hZ, hI⟩ := id h
  obtain ⟨n1, n2, ⟨w, w9, n3⟩, n4, n5, n6, n7, n8, n9⟩ := id hN
  have hn4 := n7.1
  subst n1; subst n2
  have q4 := n4.symm
  have q5 := n5.symm
  have q6 := n6.symm
  subst q4; subst q5; subst q6
  rw [f_X7_as, f_X8_as]
  rcases isBl a1 hn4 with ⟨i, i1, i2, h4, h5⟩ | ⟨h4, h5⟩
  · rw [h4, h5, Option.bind_some, Option.bind_some, if_neg i10, if_neg i10]
    rcases isKd a2 with ⟨c, c1, c2, h6, h7⟩ | ⟨h6, h7⟩
    · obtain ⟨g1, g2, g3, g4, g5⟩ := n8 i i1
      have hk5 := (n7.2.1 i i1).1
      rw [h6, h7, Option.bind_some, Option.bind_some, if_neg i10, if_neg i10, i2, c2, if_pos (okT (by omega) (by omega)), if_pos (okT (by omega) (by omega)), if_pos (okT (by omega) (by omega)), tnI (by omega), tnI (by omega), if_pos hk5, g1]
      have hr : ∃ r : Int32, ((f_X2_isA (n_knd i) c).bind fun r_10 => if r_10 = 0 then some (-1) else some (nI i)) = some r ∧ (if nI c = 0 then some (nI i) else if nI (n_knd i) = nI c then some (nI i) else if nI c = 3 then if nI (n_knd i) = 4 then some (nI i) else some (-1) else some (-1)) = some r := by
        generalize n_knd i = k at hk5
        match k, hk5, c, c1 with
        | 0, _, 0, _ => exact ⟨_, rfl, rfl⟩
        | 0, _, 1, _ => exact ⟨_, rfl, rfl⟩
        | 0, _, 2, _ => exact ⟨_, rfl, rfl⟩
        | 0, _, 3, _ => exact ⟨_, rfl, rfl⟩
        | 0, _, 4, _ => exact ⟨_, rfl, rfl⟩
        | 1, _, 0, _ => exact ⟨_, rfl, rfl⟩
        | 1, _, 1, _ => exact ⟨_, rfl, rfl⟩
        | 1, _, 2, _ => exact ⟨_, rfl, rfl⟩
        | 1, _, 3, _ => exact ⟨_, rfl, rfl⟩
        | 1, _, 4, _ => exact ⟨_, rfl, rfl⟩
        | 2, _, 0, _ => exact ⟨_, rfl, rfl⟩
        | 2, _, 1, _ => exact ⟨_, rfl, rfl⟩
        | 2, _, 2, _ => exact ⟨_, rfl, rfl⟩
        | 2, _, 3, _ => exact ⟨_, rfl, rfl⟩
        | 2, _, 4, _ => exact ⟨_, rfl, rfl⟩
        | 3, _, 0, _ => exact ⟨_, rfl, rfl⟩
        | 3, _, 1, _ => exact ⟨_, rfl, rfl⟩
        | 3, _, 2, _ => exact ⟨_, rfl, rfl⟩
        | 3, _, 3, _ => exact ⟨_, rfl, rfl⟩
        | 3, _, 4, _ => exact ⟨_, rfl, rfl⟩
        | 4, _, 0, _ => exact ⟨_, rfl, rfl⟩
        | 4, _, 1, _ => exact ⟨_, rfl, rfl⟩
        | 4, _, 2, _ => exact ⟨_, rfl, rfl⟩
        | 4, _, 3, _ => exact ⟨_, rfl, rfl⟩
        | 4, _, 4, _ => exact ⟨_, rfl, rfl⟩
        | k + 5, h, _, _ => exact absurd h (by omega)
        | _, _, c + 5, h => exact absurd h (by omega)
      obtain ⟨r, r1, r2⟩ := hr
      exact ⟨r, r1, r2, h.up⟩
    · rw [h6, h7, Option.bind_some, Option.bind_some, if_pos i00, if_pos i00]
      exact ⟨_, rfl, rfl, h.up⟩
  · rw [h4, h5, Option.bind_some, Option.bind_some, if_pos i00, if_pos i00]
    exact ⟨_, rfl, rfl, h.up⟩
theorem op_may {t : Nat} (ht : t < 64) (ltr lrd srs bks img : Int32) (pag : Nat → Int32) (n_cnt n_wet n_stg n_dys : Int32) (n_dep : Nat → Int32) (n_knd : Nat → Nat) (n_siz n_plc n_onn n_axs : Nat → Int32) (k_cnt k_wet k_stg k_dys : Int32) (k_dep : Nat → Int32) (k_knd : Nat → Nat) (k_siz k_plc k_onn k_axs : Nat → Int32) (m_isLawn m_lawns m_wetness m_strength m_days m_balls m_asks m_books m_pageLength m_isKept m_keptLawn m_keptBalls m_keptStrength m_keptDays : Int32) (m_depthOf m_kindOf m_sizeOf m_placeOf m_onOf m_sticksOf m_page m_keptDepth m_keptSize m_keptPlace m_keptOn m_keptSticks : Nat → Int32) (h : Rel t ltr lrd srs bks img pag n_cnt n_wet n_stg n_dys n_dep n_knd n_siz n_plc n_onn n_axs k_cnt k_wet k_stg k_dys k_dep k_knd k_siz k_plc k_onn k_axs m_isLawn m_lawns m_wetness m_strength m_days m_balls m_asks m_books m_pageLength m_depthOf m_kindOf m_sizeOf m_placeOf m_onOf m_sticksOf m_page m_isKept m_keptLawn m_keptBalls m_keptStrength m_keptDays m_keptDepth m_keptSize m_keptPlace m_keptOn m_keptSticks) (a1 a2 : Int32) : ∃ (r : Int32), f_X7_may n_cnt n_stg n_knd n_siz n_plc n_onn n_axs a1 a2 = some r ∧ f_X8_may m_strength m_balls m_kindOf m_sizeOf m_placeOf m_onOf m_sticksOf a1 a2 = some r ∧ Rel (t + 1) ltr lrd srs bks img pag n_cnt n_wet n_stg n_dys n_dep n_knd n_siz n_plc n_onn n_axs k_cnt k_wet k_stg k_dys k_dep k_knd k_siz k_plc k_onn k_axs m_isLawn m_lawns m_wetness m_strength m_days m_balls m_asks m_books m_pageLength m_depthOf m_kindOf m_sizeOf m_placeOf m_onOf m_sticksOf m_page m_isKept m_keptLawn m_keptBalls m_keptStrength m_keptDays m_keptDepth m_keptSize m_keptPlace m_keptOn m_keptSticks := by
  obtain ⟨L, l, a, b, n, hG, hC, hN, hZ, hI⟩ := id h
  obtain ⟨n1, n2, ⟨w, w9, n3⟩, n4, n5, n6, n7, n8, n9⟩ := id hN
  have hn4 := n7.1
  subst n1; subst n2
  have q4 := n4.symm
  have q5 := n5.symm
  have q6 := n6.symm
  subst q4; subst q5; subst q6
  rw [f_X7_may, f_X8_may]
  rcases isBl a1 hn4 with ⟨i, i1, i2, h4, h5⟩ | ⟨h4, h5⟩
  · rw [h4, h5, Option.bind_some, Option.bind_some, if_neg i10, if_neg i10]
    rcases isSd a2 with ⟨s, c1, c2, h6, h7⟩ | ⟨h6, h7⟩
    · have hO := RN.oks (by omega) n7 i1
      have hX := v_canRoll hn4 n_stg n_knd n_siz n_plc n_onn n_axs (b := i) (by omega) c1 (n7.2.1 i i1) (by omega)
      have hM := v_mayRoll (stg := n_stg) hO (n8.ext i1) (Or.inr rfl) c1
      rw [h6, h7, Option.bind_some, Option.bind_some, if_neg i10, if_neg i10, i2, c2]
      by_cases hc : CanR n n_stg n_knd n_siz n_plc n_onn n_axs i s
      · simp only [hX.1 hc, hM.1 hc, Option.bind_some, i10, eq_self, if_true, if_false]
        exact ⟨_, rfl, rfl, h.up⟩
      · simp only [hX.2 hc, hM.2 hc, Option.bind_some, i10, eq_self, if_true, if_false]
        exact ⟨_, rfl, rfl, h.up⟩
    · rw [h6, h7, Option.bind_some, Option.bind_some, if_pos i00, if_pos i00]
      exact ⟨_, rfl, rfl, h.up⟩
  · rw [h4, h5, Option.bind_some, Option.bind_some, if_pos i00, if_pos i00]
    exact ⟨_, rfl, rfl, h.up⟩
theorem op_roll {t : Nat} (ht : t < 64) (ltr lrd srs bks img : Int32) (pag : Nat → Int32) (n_cnt n_wet n_stg n_dys : Int32) (n_dep : Nat → Int32) (n_knd : Nat → Nat) (n_siz n_plc n_onn n_axs : Nat → Int32) (k_cnt k_wet k_stg k_dys : Int32) (k_dep : Nat → Int32) (k_knd : Nat → Nat) (k_siz k_plc k_onn k_axs : Nat → Int32) (m_isLawn m_lawns m_wetness m_strength m_days m_balls m_asks m_books m_pageLength m_isKept m_keptLawn m_keptBalls m_keptStrength m_keptDays : Int32) (m_depthOf m_kindOf m_sizeOf m_placeOf m_onOf m_sticksOf m_page m_keptDepth m_keptSize m_keptPlace m_keptOn m_keptSticks : Nat → Int32) (h : Rel t ltr lrd srs bks img pag n_cnt n_wet n_stg n_dys n_dep n_knd n_siz n_plc n_onn n_axs k_cnt k_wet k_stg k_dys k_dep k_knd k_siz k_plc k_onn k_axs m_isLawn m_lawns m_wetness m_strength m_days m_balls m_asks m_books m_pageLength m_depthOf m_kindOf m_sizeOf m_placeOf m_onOf m_sticksOf m_page m_isKept m_keptLawn m_keptBalls m_keptStrength m_keptDays m_keptDepth m_keptSize m_keptPlace m_keptOn m_keptSticks) (a1 a2 : Int32) : ∃ (r : Int32) (n_dep_ n_siz_ n_plc_ n_onn_ n_axs_ m_depthOf_ m_sizeOf_ m_placeOf_ m_sticksOf_ : Nat → Int32), f_X7_roll n_cnt n_wet n_stg n_dep n_knd n_siz n_plc n_onn n_axs a1 a2 = some (r, n_dep_, n_siz_, n_plc_, n_onn_, n_axs_) ∧ f_X8_roll m_wetness m_strength m_balls m_depthOf m_kindOf m_sizeOf m_placeOf m_onOf m_sticksOf a1 a2 = some (r, m_depthOf_, m_sizeOf_, m_placeOf_, m_sticksOf_) ∧ Rel (t + 1) ltr lrd srs bks img pag n_cnt n_wet n_stg n_dys n_dep_ n_knd n_siz_ n_plc_ n_onn_ n_axs_ k_cnt k_wet k_stg k_dys k_dep k_knd k_siz k_plc k_onn k_axs m_isLawn m_lawns m_wetness m_strength m_days m_balls m_asks m_books m_pageLength m_depthOf_ m_kindOf m_sizeOf_ m_placeOf_ m_onOf m_sticksOf_ m_page m_isKept m_keptLawn m_keptBalls m_keptStrength m_keptDays m_keptDepth m_keptSize m_keptPlace m_keptOn m_keptSticks := by
  obtain ⟨L, l, a, b, n, hG, hC, hN, hZ, hI⟩ := id h
  obtain ⟨n1, n2, ⟨w, w9, n3⟩, n4, n5, n6, n7, n8, n9⟩ := id hN
  have hn4 := n7.1
  subst n1; subst n2
  have q4 := n4.symm
  have q5 := n5.symm
  have q6 := n6.symm
  subst q4; subst q5; subst q6
  rw [f_X7_roll, f_X8_roll]
  rcases isBl a1 hn4 with ⟨i, i1, i2, h4, h5⟩ | ⟨h4, h5⟩
  · rw [h4, h5, Option.bind_some, Option.bind_some, if_neg i10, if_neg i10]
    rcases isSd a2 with ⟨s, c1, c2, h6, h7⟩ | ⟨h6, h7⟩
    · have hO := RN.oks (by omega) n7 i1
      have hX := v_canRoll hn4 n_stg n_knd n_siz n_plc n_onn n_axs (b := i) (by omega) c1 (n7.2.1 i i1) (by omega)
      have hM := v_mayRoll (stg := n_stg) hO (n8.ext i1) (Or.inr rfl) c1
      rw [h6, h7, Option.bind_some, Option.bind_some, if_neg i10, if_neg i10, i2, c2]
      by_cases hc : CanR n n_stg n_knd n_siz n_plc n_onn n_axs i s
      · have hXP := v_push (wet := n_wet) (dep := n_dep) (b := i) (s := s) (by omega) c1 (n7.2.1 i i1) (by omega) ⟨w9, n3⟩ (fun p hp => by obtain ⟨d, d1, d2, -⟩ := n9 p hp; exact ⟨d, d1, d2⟩) hc
        have hMP := v_doRoll (wet := n_wet) (b := i) (s := s) (by omega) c1 (n7.2.1 i i1) (by omega) ⟨w9, n3⟩ n9 (n8 i i1) hc
        have hV := roll_inv (wet := n_wet) hO (n8.ext i1) n9 ⟨w9, n3⟩ (by omega) (Or.inr rfl) c1 hc
        rw [hX.1 hc, hM.1 hc, Option.bind_some, Option.bind_some, if_neg i10, if_neg i10, hXP, hMP, Option.bind_some, Option.bind_some]
        dsimp only
        rw [if_pos (okT (by omega) (by omega)), tnI (by omega), upd_same]
        refine ⟨_, _, _, _, _, _, _, _, _, _, rfl, rfl, L, l, a, b, n, hG, hC.up, ⟨rfl, rfl, ⟨w, w9, n3⟩, rfl, rfl, rfl, ?_, hV.2.1.res, hV.2.2⟩, fun q => absurd (hZ q).1 (by omega), hI.up⟩
        exact hV.1.ok1.up (by omega)
      · rw [hX.2 hc, hM.2 hc, Option.bind_some, Option.bind_some, if_pos i00, if_pos i00]
        exact ⟨_, _, _, _, _, _, _, _, _, _, rfl, rfl, h.up⟩
    · rw [h6, h7, Option.bind_some, Option.bind_some, if_pos i00, if_pos i00]
      exact ⟨_, _, _, _, _, _, _, _, _, _, rfl, rfl, h.up⟩
  · rw [h4, h5, Option.bind_some, Option.bind_some, if_pos i00, if_pos i00]
    exact ⟨_, _, _, _, _, _, _, _, _, _, rfl, rfl, h.up⟩
