/-! copies -/
def cp {α : Type} (i : Nat) (o f : Nat → α) : Nat → α := fun q => if q < i then o q else f q
theorem cp_lt {α : Type} {i q : Nat} {o f : Nat → α} (h : q < i) : cp i o f q = o q := if_pos h
theorem cp_0 {α : Type} (o f : Nat → α) : cp 0 o f = f := funext fun q => if_neg (by omega)
theorem cp_step (o f : Nat → Int32) (i : Nat) : upd (cp i o f) i (o i) = cp (i + 1) o f := by
  funext q
  by_cases h : q = i
  · subst h; rw [upd_same, cp_lt (by omega)]
  · rw [upd_ne _ _ h]
    by_cases h2 : q < i
    · rw [cp_lt h2, cp_lt (by omega)]
    · show (if q < i then o q else f q) = (if q < i + 1 then o q else f q)
      rw [if_neg h2, if_neg (by omega)]
theorem cp_stepK (o f : Nat → Nat) (i : Nat) : va_up (cp i o f) i (o i) = cp (i + 1) o f := by
  funext q
  by_cases h : q = i
  · subst h; rw [vk_eq, cp_lt (by omega)]
  · rw [vk_ne h]
    by_cases h2 : q < i
    · rw [cp_lt h2, cp_lt (by omega)]
    · show (if q < i then o q else f q) = (if q < i + 1 then o q else f q)
      rw [if_neg h2, if_neg (by omega)]
theorem l_cpB (o_cnt o_wet o_stg o_dys : Int32) (dep : Nat → Int32) (o_knd knd : Nat → Nat) (o_siz o_plc o_onn o_axs siz plc onn axs : Nat → Int32) : ∀ (j i k : Nat), i + j = 4 → j < k → f_X4_copyFrom_h28 o_cnt o_wet o_stg o_dys o_knd o_siz o_plc o_onn o_axs k dep (cp i o_knd knd) (cp i o_siz siz) (cp i o_plc plc) (cp i o_onn onn) (cp i o_axs axs) (nI i) = some (o_cnt, o_wet, o_stg, o_dys, dep, cp 4 o_knd knd, cp 4 o_siz siz, cp 4 o_plc plc, cp 4 o_onn onn, cp 4 o_axs axs) := by
  intro j
  induction j with
  | zero =>
    intro i k  h hk
    obtain ⟨k, rfl⟩ : ∃ z, k = z + 1 := ⟨k - 1, by omega⟩
    have hin : i = 4 := by omega
    subst hin
    rw [f_X4_copyFrom_h28, if_pos (show (4 : Int32) ≤ nI 4 from Int32.le_refl _)]
    
  | succ j ih =>
    intro i k  h hk
    obtain ⟨k, rfl⟩ : ∃ z, k = z + 1 := ⟨k - 1, by omega⟩
    have hi : i < 4 := by omega
    have cge : ¬ (4 : Int32) ≤ nI i := nI_ge (a := i) (b := 4) hi (by omega)
    have cok : ok (nI i) 5 = true := okT (by omega) (by omega)
    have ctn : (nI i).toNatClampNeg = i := tnI (by omega)
    rw [f_X4_copyFrom_h28, if_neg cge]
    rw [if_pos cok, ctn, f_X1_copyFrom, Option.bind_some, cp_stepK, cp_step, cp_step, cp_step, cp_step, nI_1]
    exact ih (i + 1) k (by omega) (by omega)

theorem l_cpD (o_cnt o_wet o_stg o_dys : Int32) (dep o_dep : Nat → Int32) (o_knd knd : Nat → Nat) (o_siz o_plc o_onn o_axs siz plc onn axs : Nat → Int32) : ∀ (j i k : Nat), i + j = 20 → j < k → f_X4_copyFrom_h2 knd siz plc onn axs o_cnt o_wet o_stg o_dys o_dep o_knd o_siz o_plc o_onn o_axs k (cp i o_dep dep) (nI i) = some (o_cnt, o_wet, o_stg, o_dys, cp 20 o_dep dep, cp 4 o_knd knd, cp 4 o_siz siz, cp 4 o_plc plc, cp 4 o_onn onn, cp 4 o_axs axs) := by
  intro j
  induction j with
  | zero =>
    intro i k  h hk
    obtain ⟨k, rfl⟩ : ∃ z, k = z + 1 := ⟨k - 1, by omega⟩
    have hin : i = 20 := by omega
    subst hin
    rw [f_X4_copyFrom_h2, if_pos (show (20 : Int32) ≤ nI 20 from Int32.le_refl _)]
    have e := l_cpB o_cnt o_wet o_stg o_dys (cp 20 o_dep dep) o_knd knd o_siz o_plc o_onn o_axs siz plc onn axs 4 0 70 rfl (by omega)
    rw [cp_0, cp_0, cp_0, cp_0, cp_0] at e
    exact e
  | succ j ih =>
    intro i k  h hk
    obtain ⟨k, rfl⟩ : ∃ z, k = z + 1 := ⟨k - 1, by omega⟩
    have hi : i < 20 := by omega
    have cge : ¬ (20 : Int32) ≤ nI i := nI_ge (a := i) (b := 20) hi (by omega)
    have cok : ok (nI i) 20 = true := okT (by omega) (by omega)
    have ctn : (nI i).toNatClampNeg = i := tnI (by omega)
    rw [f_X4_copyFrom_h2, if_neg cge]
    rw [if_pos cok, ctn, cp_step, nI_1]
    exact ih (i + 1) k (by omega) (by omega)

theorem v_copyFrom (o_cnt o_wet o_stg o_dys : Int32) (dep o_dep : Nat → Int32) (o_knd knd : Nat → Nat) (o_siz o_plc o_onn o_axs siz plc onn axs : Nat → Int32) : f_X4_copyFrom dep knd siz plc onn axs o_cnt o_wet o_stg o_dys o_dep o_knd o_siz o_plc o_onn o_axs = some (o_cnt, o_wet, o_stg, o_dys, cp 20 o_dep dep, cp 4 o_knd knd, cp 4 o_siz siz, cp 4 o_plc plc, cp 4 o_onn onn, cp 4 o_axs axs) := by
  have e := l_cpD o_cnt o_wet o_stg o_dys dep o_dep o_knd knd o_siz o_plc o_onn o_axs siz plc onn axs 20 0 70 rfl (by omega)
  rw [cp_0] at e
  rw [f_X4_copyFrom]
  exact e
theorem l_imB (m_balls ik kl kb ks kd : Int32) (kD Z P O X kZ kP kO kX : Nat → Int32) : ∀ (j i k : Nat), i + j = 4 → j < k → f_X8_image_h75 m_balls Z P O X k ik kl kb ks kd kD (cp i Z kZ) (cp i P kP) (cp i O kO) (cp i X kX) (nI i) = some (m_balls, ik, kl, kb, ks, kd, kD, cp 4 Z kZ, cp 4 P kP, cp 4 O kO, cp 4 X kX) := by
  intro j
  induction j with
  | zero =>
    intro i k  h hk
    obtain ⟨k, rfl⟩ : ∃ z, k = z + 1 := ⟨k - 1, by omega⟩
    have hin : i = 4 := by omega
    subst hin
    rw [f_X8_image_h75, if_pos (show (4 : Int32) ≤ nI 4 from Int32.le_refl _)]
    
  | succ j ih =>
    intro i k  h hk
    obtain ⟨k, rfl⟩ : ∃ z, k = z + 1 := ⟨k - 1, by omega⟩
    have hi : i < 4 := by omega
    have cge : ¬ (4 : Int32) ≤ nI i := nI_ge (a := i) (b := 4) hi (by omega)
    have cok : ok (nI i) 5 = true := okT (by omega) (by omega)
    have ctn : (nI i).toNatClampNeg = i := tnI (by omega)
    rw [f_X8_image_h75, if_neg cge]
    have cok4 : ok (nI i) 4 = true := okT (by omega) (by omega)
    rw [if_pos cok, if_pos cok4, ctn, cp_step, cp_step, cp_step, cp_step, nI_1]
    exact ih (i + 1) k (by omega) (by omega)

theorem l_imD (m_balls ik kl kb ks kd : Int32) (D kD Z P O X kZ kP kO kX : Nat → Int32) : ∀ (j i k : Nat), i + j = 20 → j < k → f_X8_image_h49 m_balls D Z P O X kZ kP kO kX k ik kl kb ks kd (cp i D kD) (nI i) = some (m_balls, ik, kl, kb, ks, kd, cp 20 D kD, cp 4 Z kZ, cp 4 P kP, cp 4 O kO, cp 4 X kX) := by
  intro j
  induction j with
  | zero =>
    intro i k  h hk
    obtain ⟨k, rfl⟩ : ∃ z, k = z + 1 := ⟨k - 1, by omega⟩
    have hin : i = 20 := by omega
    subst hin
    rw [f_X8_image_h49, if_pos (show (20 : Int32) ≤ nI 20 from Int32.le_refl _)]
    have e := l_imB m_balls ik kl kb ks kd (cp 20 D kD) Z P O X kZ kP kO kX 4 0 70 rfl (by omega)
    rw [cp_0, cp_0, cp_0, cp_0] at e
    exact e
  | succ j ih =>
    intro i k  h hk
    obtain ⟨k, rfl⟩ : ∃ z, k = z + 1 := ⟨k - 1, by omega⟩
    have hi : i < 20 := by omega
    have cge : ¬ (20 : Int32) ≤ nI i := nI_ge (a := i) (b := 20) hi (by omega)
    have cok : ok (nI i) 20 = true := okT (by omega) (by omega)
    have ctn : (nI i).toNatClampNeg = i := tnI (by omega)
    rw [f_X8_image_h49, if_neg cge]
    rw [if_pos cok, ctn, cp_step, nI_1]
    exact ih (i + 1) k (by omega) (by omega)

theorem l_reB (st dy mb : Int32) (mD Z P O X kZ kP kO kX : Nat → Int32) : ∀ (j i k : Nat), i + j = 4 → j < k → f_X8_restore_h73 kZ kP kO kX k st dy mb mD (cp i kZ Z) (cp i kP P) (cp i kO O) (cp i kX X) (nI i) = some (mb, st, dy, mb, mD, cp 4 kZ Z, cp 4 kP P, cp 4 kO O, cp 4 kX X) := by
  intro j
  induction j with
  | zero =>
    intro i k  h hk
    obtain ⟨k, rfl⟩ : ∃ z, k = z + 1 := ⟨k - 1, by omega⟩
    have hin : i = 4 := by omega
    subst hin
    rw [f_X8_restore_h73, if_pos (show (4 : Int32) ≤ nI 4 from Int32.le_refl _)]
    
  | succ j ih =>
    intro i k  h hk
    obtain ⟨k, rfl⟩ : ∃ z, k = z + 1 := ⟨k - 1, by omega⟩
    have hi : i < 4 := by omega
    have cge : ¬ (4 : Int32) ≤ nI i := nI_ge (a := i) (b := 4) hi (by omega)
    have cok : ok (nI i) 5 = true := okT (by omega) (by omega)
    have ctn : (nI i).toNatClampNeg = i := tnI (by omega)
    rw [f_X8_restore_h73, if_neg cge]
    have cok4 : ok (nI i) 4 = true := okT (by omega) (by omega)
    rw [if_pos cok4, if_pos cok, ctn, cp_step, cp_step, cp_step, cp_step, nI_1]
    exact ih (i + 1) k (by omega) (by omega)

theorem l_reD (st dy mb : Int32) (mD kD Z P O X kZ kP kO kX : Nat → Int32) : ∀ (j i k : Nat), i + j = 20 → j < k → f_X8_restore_h47 Z P O X kD kZ kP kO kX k st dy mb (cp i kD mD) (nI i) = some (mb, st, dy, mb, cp 20 kD mD, cp 4 kZ Z, cp 4 kP P, cp 4 kO O, cp 4 kX X) := by
  intro j
  induction j with
  | zero =>
    intro i k  h hk
    obtain ⟨k, rfl⟩ : ∃ z, k = z + 1 := ⟨k - 1, by omega⟩
    have hin : i = 20 := by omega
    subst hin
    rw [f_X8_restore_h47, if_pos (show (20 : Int32) ≤ nI 20 from Int32.le_refl _)]
    have e := l_reB st dy mb (cp 20 kD mD) Z P O X kZ kP kO kX 4 0 70 rfl (by omega)
    rw [cp_0, cp_0, cp_0, cp_0] at e
    exact e
  | succ j ih =>
    intro i k  h hk
    obtain ⟨k, rfl⟩ : ∃ z, k = z + 1 := ⟨k - 1, by omega⟩
    have hi : i < 20 := by omega
    have cge : ¬ (20 : Int32) ≤ nI i := nI_ge (a := i) (b := 20) hi (by omega)
    have cok : ok (nI i) 20 = true := okT (by omega) (by omega)
    have ctn : (nI i).toNatClampNeg = i := tnI (by omega)
    rw [f_X8_restore_h47, if_neg cge]
    rw [if_pos cok, ctn, cp_step, nI_1]
    exact ih (i + 1) k (by omega) (by omega)

theorem OK1.congr {B n : Nat} {knd knd' : Nat → Nat} {siz plc onn axs siz' plc' onn' axs' : Nat → Int32} (h : OK1 B n knd siz plc onn axs) (e : ∀ i : Nat, i < n → knd' i = knd i ∧ siz' i = siz i ∧ plc' i = plc i ∧ onn' i = onn i ∧ axs' i = axs i) : OK1 B n knd' siz' plc' onn' axs' := by
  obtain ⟨h0, h1, h2, ⟨r, h3⟩, h4, h5⟩ := h
  refine ⟨h0, fun i hi => ?_, fun i hi ho => ?_, ⟨r, fun i j hi hj q => ?_⟩, fun i j hi hj ho q => ?_, fun i j hi hj oi oj pi pij => ?_⟩
  · obtain ⟨e1, e2, e3, e4, e5⟩ := e i hi
    rw [e1, e2, e3, e4, e5]; exact h1 i hi
  · rw [(e i hi).2.2.2.1] at ho
    obtain ⟨j, j1, j2, j3, j4⟩ := h2 i hi ho
    exact ⟨j, j1, by rw [(e i hi).2.2.2.1]; exact j2, by rw [(e j j1).2.2.1, (e i hi).2.2.1]; exact j3, by rw [(e i hi).2.2.1]; exact j4⟩
  · rw [(e i hi).2.2.2.1] at q; exact h3 i j hi hj q
  · rw [(e i hi).2.2.2.1] at ho q
    rw [(e j hj).2.2.2.1] at q
    exact h4 i j hi hj ho q
  · rw [(e i hi).2.2.2.1] at oi
    rw [(e j hj).2.2.2.1] at oj
    rw [(e i hi).2.2.1] at pi pij
    rw [(e j hj).2.2.1] at pij
    exact h5 i j hi hj oi oj pi pij
theorem op_image {t : Nat} (ht : t < 64) (ltr lrd srs bks img : Int32) (pag : Nat → Int32) (n_cnt n_wet n_stg n_dys : Int32) (n_dep : Nat → Int32) (n_knd : Nat → Nat) (n_siz n_plc n_onn n_axs : Nat → Int32) (k_cnt k_wet k_stg k_dys : Int32) (k_dep : Nat → Int32) (k_knd : Nat → Nat) (k_siz k_plc k_onn k_axs : Nat → Int32) (m_isLawn m_lawns m_wetness m_strength m_days m_balls m_asks m_books m_pageLength m_isKept m_keptLawn m_keptBalls m_keptStrength m_keptDays : Int32) (m_depthOf m_kindOf m_sizeOf m_placeOf m_onOf m_sticksOf m_page m_keptDepth m_keptSize m_keptPlace m_keptOn m_keptSticks : Nat → Int32) (h : Rel t ltr lrd srs bks img pag n_cnt n_wet n_stg n_dys n_dep n_knd n_siz n_plc n_onn n_axs k_cnt k_wet k_stg k_dys k_dep k_knd k_siz k_plc k_onn k_axs m_isLawn m_lawns m_wetness m_strength m_days m_balls m_asks m_books m_pageLength m_depthOf m_kindOf m_sizeOf m_placeOf m_onOf m_sticksOf m_page m_isKept m_keptLawn m_keptBalls m_keptStrength m_keptDays m_keptDepth m_keptSize m_keptPlace m_keptOn m_keptSticks) : ∃ (r img_ k_cnt_ k_wet_ k_stg_ k_dys_ : Int32) (k_dep_ : Nat → Int32) (k_knd_ : Nat → Nat) (k_siz_ k_plc_ k_onn_ k_axs_ : Nat → Int32) (m_isKept_ m_keptLawn_ m_keptBalls_ m_keptStrength_ m_keptDays_ : Int32) (m_keptDepth_ m_keptSize_ m_keptPlace_ m_keptOn_ m_keptSticks_ : Nat → Int32), f_X7_image lrd img n_cnt n_wet n_stg n_dys n_dep n_knd n_siz n_plc n_onn n_axs k_cnt k_wet k_stg k_dys k_dep k_knd k_siz k_plc k_onn k_axs = some (r, img_, k_cnt_, k_wet_, k_stg_, k_dys_, k_dep_, k_knd_, k_siz_, k_plc_, k_onn_, k_axs_) ∧ f_X8_image m_isLawn m_lawns m_strength m_days m_balls m_isKept m_keptLawn m_keptBalls m_keptStrength m_keptDays m_depthOf m_sizeOf m_placeOf m_onOf m_sticksOf m_keptDepth m_keptSize m_keptPlace m_keptOn m_keptSticks = some (r, m_isKept_, m_keptLawn_, m_keptBalls_, m_keptStrength_, m_keptDays_, m_keptDepth_, m_keptSize_, m_keptPlace_, m_keptOn_, m_keptSticks_) ∧ Rel (t + 1) ltr lrd srs bks img_ pag n_cnt n_wet n_stg n_dys n_dep n_knd n_siz n_plc n_onn n_axs k_cnt_ k_wet_ k_stg_ k_dys_ k_dep_ k_knd_ k_siz_ k_plc_ k_onn_ k_axs_ m_isLawn m_lawns m_wetness m_strength m_days m_balls m_asks m_books m_pageLength m_depthOf m_kindOf m_sizeOf m_placeOf m_onOf m_sticksOf m_page m_isKept_ m_keptLawn_ m_keptBalls_ m_keptStrength_ m_keptDays_ m_keptDepth_ m_keptSize_ m_keptPlace_ m_keptOn_ m_keptSticks_ := by
  obtain ⟨L, l, a, b, n, hG, hC, hN, hZ, hI⟩ := id h
  obtain ⟨n1, n2, ⟨w, w9, n3⟩, n4, n5, n6, n7, n8, n9⟩ := id hN
  have hn4 := n7.1
  subst n1; subst n2
  have q4 := n4.symm
  have q5 := n5.symm
  have q6 := n6.symm
  subst q4; subst q5; subst q6
  rw [f_X7_image, f_X8_image]
  rcases hasL hC (by omega) with ⟨l0, g1, g2, -⟩ | ⟨l0, g1, g2⟩
  · have e := l_imD (nI n) 1 m_lawns (nI n) n_stg n_dys m_depthOf m_keptDepth m_sizeOf m_placeOf m_onOf m_sticksOf m_keptSize m_keptPlace m_keptOn m_keptSticks 20 0 70 rfl (by omega)
    rw [cp_0] at e
    replace e : f_X8_image_h49 (nI n) m_depthOf m_sizeOf m_placeOf m_onOf m_sticksOf m_keptSize m_keptPlace m_keptOn m_keptSticks 70 1 m_lawns (nI n) n_stg n_dys m_keptDepth 0 = _ := e
    simp only [g1, g2, v_copyFrom, e, Option.bind_some, i10, eq_self, if_true, if_false]
    refine ⟨_, _, _, _, _, _, _, _, _, _, _, _, _, _, _, _, _, _, _, _, _, _, rfl, rfl, L, l, a, b, n, hG, hC.up, hN.up, hZ, Or.inr ⟨rfl, l0, by decide, hC.2.1, n, Nat.le_refl _, rfl, rfl, rfl, rfl, rfl, ?_, fun i hi => ?_, fun p hp => ?_⟩⟩
    · exact (n7.up (show 9 * t + 1 ≤ 9 * (t + 1) + 1 by omega)).congr fun i hi => ⟨cp_lt (by omega), cp_lt (by omega), cp_lt (by omega), cp_lt (by omega), cp_lt (by omega)⟩
    · obtain ⟨g1, g2, g3, g4, g5⟩ := n8 i hi
      have hi4 : i < 4 := by omega
      rw [cp_lt hi4, cp_lt hi4, cp_lt hi4, cp_lt hi4, cp_lt hi4, cp_lt hi4, cp_lt hi4, cp_lt hi4, cp_lt hi4]
      exact ⟨rfl, g2, g3, g4, g5⟩
    · rw [cp_lt hp, cp_lt hp]; exact n9 p hp
  · rw [g2] at h
    simp only [g1, g2, Option.bind_some, i10, eq_self, if_true, if_false]
    exact ⟨_, _, _, _, _, _, _, _, _, _, _, _, _, _, _, _, _, _, _, _, _, _, rfl, rfl, h.up⟩
theorem op_restore {t : Nat} (ht : t < 64) (ltr lrd srs bks img : Int32) (pag : Nat → Int32) (n_cnt n_wet n_stg n_dys : Int32) (n_dep : Nat → Int32) (n_knd : Nat → Nat) (n_siz n_plc n_onn n_axs : Nat → Int32) (k_cnt k_wet k_stg k_dys : Int32) (k_dep : Nat → Int32) (k_knd : Nat → Nat) (k_siz k_plc k_onn k_axs : Nat → Int32) (m_isLawn m_lawns m_wetness m_strength m_days m_balls m_asks m_books m_pageLength m_isKept m_keptLawn m_keptBalls m_keptStrength m_keptDays : Int32) (m_depthOf m_kindOf m_sizeOf m_placeOf m_onOf m_sticksOf m_page m_keptDepth m_keptSize m_keptPlace m_keptOn m_keptSticks : Nat → Int32) (h : Rel t ltr lrd srs bks img pag n_cnt n_wet n_stg n_dys n_dep n_knd n_siz n_plc n_onn n_axs k_cnt k_wet k_stg k_dys k_dep k_knd k_siz k_plc k_onn k_axs m_isLawn m_lawns m_wetness m_strength m_days m_balls m_asks m_books m_pageLength m_depthOf m_kindOf m_sizeOf m_placeOf m_onOf m_sticksOf m_page m_isKept m_keptLawn m_keptBalls m_keptStrength m_keptDays m_keptDepth m_keptSize m_keptPlace m_keptOn m_keptSticks) : ∃ (r n_cnt_ n_wet_ n_stg_ n_dys_ : Int32) (n_dep_ : Nat → Int32) (n_knd_ : Nat → Nat) (n_siz_ n_plc_ n_onn_ n_axs_ : Nat → Int32) (m_strength_ m_days_ m_balls_ : Int32) (m_depthOf_ m_sizeOf_ m_placeOf_ m_onOf_ m_sticksOf_ : Nat → Int32), f_X7_restore img n_cnt n_wet n_stg n_dys n_dep n_knd n_siz n_plc n_onn n_axs k_cnt k_wet k_stg k_dys k_dep k_knd k_siz k_plc k_onn k_axs = some (r, n_cnt_, n_wet_, n_stg_, n_dys_, n_dep_, n_knd_, n_siz_, n_plc_, n_onn_, n_axs_) ∧ f_X8_restore m_lawns m_strength m_days m_balls m_isKept m_keptLawn m_keptBalls m_keptStrength m_keptDays m_depthOf m_sizeOf m_placeOf m_onOf m_sticksOf m_keptDepth m_keptSize m_keptPlace m_keptOn m_keptSticks = some (r, m_strength_, m_days_, m_balls_, m_depthOf_, m_sizeOf_, m_placeOf_, m_onOf_, m_sticksOf_) ∧ Rel (t + 1) ltr lrd srs bks img pag n_cnt_ n_wet_ n_stg_ n_dys_ n_dep_ n_knd_ n_siz_ n_plc_ n_onn_ n_axs_ k_cnt k_wet k_stg k_dys k_dep k_knd k_siz k_plc k_onn k_axs m_isLawn m_lawns m_wetness m_strength_ m_days_ m_balls_ m_asks m_books m_pageLength m_depthOf_ m_kindOf m_sizeOf_ m_placeOf_ m_onOf_ m_sticksOf_ m_page m_isKept m_keptLawn m_keptBalls m_keptStrength m_keptDays m_keptDepth m_keptSize m_keptPlace m_keptOn m_keptSticks := by
  obtain ⟨L, l, a, b, n, hG, hC, hN, hZ, hI⟩ := id h
  obtain ⟨n1, n2, ⟨w, w9, n3⟩, n4, n5, n6, n7, n8, n9⟩ := id hN
  have hn4 := n7.1
  subst n1; subst n2
  have q4 := n4.symm
  have q5 := n5.symm
  have q6 := n6.symm
  subst q4; subst q5; subst q6
  rw [f_X7_restore, f_X8_restore]
  rcases id hI with ⟨i0, i1⟩ | ⟨i1, i2, i3, i4, kn, g1, g2, g3, g4, g5, g6, g7, g8, g9⟩
  · rw [i0] at h
    rcases i1 with i1 | ⟨kl, i1, i2⟩
    · rw [i1] at h
      simp only [i0, i1, Option.bind_some, i10, eq_self, if_true, if_false]
      exact ⟨_, _, _, _, _, _, _, _, _, _, _, _, _, _, _, _, _, _, _, rfl, rfl, h.up⟩
    · have hne : ¬ m_keptLawn = m_lawns := by
        rw [i1, hC.2.1]
        have hl := hC.2.2.1
        exact fun q => absurd ((nI_eq (by omega) (by omega)).mp q) (by omega)
      rw [i0]
      rw [if_pos i00]
      by_cases hk : m_isKept = 0
      · rw [if_pos hk]
        exact ⟨_, _, _, _, _, _, _, _, _, _, _, _, _, _, _, _, _, _, _, rfl, rfl, h.up⟩
      · rw [if_neg hk, if_neg hne]
        exact ⟨_, _, _, _, _, _, _, _, _, _, _, _, _, _, _, _, _, _, _, rfl, rfl, h.up⟩
  · have e := l_reD m_keptStrength m_keptDays m_keptBalls m_depthOf m_keptDepth m_sizeOf m_placeOf m_onOf m_sticksOf m_keptSize m_keptPlace m_keptOn m_keptSticks 20 0 70 rfl (by omega)
    rw [cp_0] at e
    replace e : f_X8_restore_h47 m_sizeOf m_placeOf m_onOf m_sticksOf m_keptDepth m_keptSize m_keptPlace m_keptOn m_keptSticks 70 m_keptStrength m_keptDays m_keptBalls m_depthOf 0 = _ := e
    have hl : m_keptLawn = m_lawns := by rw [i4, hC.2.1]
    have hI2 := hI.up
    rw [if_neg (show ¬ img = 0 by rw [i1]; decide), if_neg i3, if_pos hl, v_copyFrom, e, Option.bind_some]
    dsimp only
    have kn4 := g7.1
    refine ⟨_, _, _, _, _, _, _, _, _, _, _, _, _, _, _, _, _, _, _, rfl, by rw [g3, ← g2], L, l, a, b, kn, hG, hC.up, ⟨g2, g2, by rw [g4]; exact ⟨w, w9, n3⟩, g4.symm, g5, g6, ?_, fun i hi => ?_, fun p hp => ?_⟩, fun q => absurd q (by omega), Or.inr ⟨i1, i2, i3, i4, kn, Nat.le_refl _, g2, g3, rfl, g5, g6, g7.up (by omega), fun i hi => ?_, g9⟩⟩
    · exact (g7.up (show 9 * t + 1 ≤ 9 * (t + 1) + 1 by omega)).congr fun i hi => ⟨cp_lt (by omega), cp_lt (by omega), cp_lt (by omega), cp_lt (by omega), cp_lt (by omega)⟩
    · have hik : i < kn := hi
      obtain ⟨e1, e2, e3, e4, e5⟩ := g8 i hik
      have hi4 : i < 4 := by omega
      obtain ⟨u1, -⟩ := n8 i (show i < n by omega)
      rw [cp_lt hi4, cp_lt hi4, cp_lt hi4, cp_lt hi4, cp_lt hi4, cp_lt hi4, cp_lt hi4, cp_lt hi4, cp_lt hi4]
      exact ⟨by rw [u1, e1], e2, e3, e4, e5⟩
    · rw [cp_lt hp, cp_lt hp]; exact g9 p hp
    · have hik : i < kn := hi
      have hi4 : i < 4 := by omega
      obtain ⟨e1, e2, e3, e4, e5⟩ := g8 i hik
      exact ⟨(cp_lt hi4).symm, e2, e3, e4, e5⟩
