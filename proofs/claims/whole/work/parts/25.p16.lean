/-! the digest -/
def mx (h : Int64) (v : Int32) : Int64 := 31 * h + Int32.toInt64 v
def fM (f : Nat → Int32) : List Nat → Int64 → Int64
  | [], h => h
  | c :: l, h => fM f l (mx h (f c))
def fF (g : Nat → Int64 → Int64) : List Nat → Int64 → Int64
  | [], h => h
  | c :: l, h => fF g l (g c h)
theorem v_mixX (h : Int64) (v : Int32) : f_X7_mixed h (Int32.toInt64 v) = some (mx h v) := rfl
theorem v_mixM (h : Int64) (v : Int32) : f_X8_mix h (Int32.toInt64 v) = some (mx h v) := rfl
theorem bs {α : Type} (x : Option α) : (x.bind fun r => some r) = x := by cases x <;> rfl
theorem ib_all : ∀ n, n < 5 → ∀ i, i < n → f_X7_isBall (nI n) (nI i) = some 1 ∧ f_X8_isBall (nI n) (nI i) = some 1 := by decide +kernel
theorem ip_all : ∀ i, i < 20 → f_X7_isPlace (nI i) = some 1 ∧ f_X8_isPlace (nI i) = some 1 := by decide +kernel
theorem w2_all : ∀ i, i < 3 → f_X8_within (nI i) 0 2 = some 1 := by decide +kernel
theorem w6_all : ∀ i, i < 7 → f_X8_within (nI i) 0 6 = some 1 := by decide +kernel
theorem sd_all : ∀ i, i < 4 → f_X7_isSide (nI i) = some 1 := by decide +kernel
theorem l_dp3 (kk : Int64 → Int32 → Option Int64) {lrd cnt : Int32} {dep siz plc onn : Nat → Int32} (x : Int32) {f : Nat → Int32} (hP : ∀ c : Nat, c < 3 → f_X7_place lrd cnt dep siz plc onn x (nI c) = some (f c)) : ∀ (j i k : Nat) (h : Int64), i + j = 3 → j < k → f_X7_digestOfPlaces_h24 kk lrd cnt dep siz plc onn k h x (nI i) = kk (fM f (R i j) h) (x + 1) := by
  intro j
  induction j with
  | zero =>
    intro i k h hh hk
    obtain ⟨k, rfl⟩ : ∃ z, k = z + 1 := ⟨k - 1, by omega⟩
    obtain rfl : i = 3 := by omega
    rw [f_X7_digestOfPlaces_h24, if_pos (show (2 : Int32) < nI 3 by decide)]; rfl
  | succ j ih =>
    intro i k h hh hk
    obtain ⟨k, rfl⟩ : ∃ z, k = z + 1 := ⟨k - 1, by omega⟩
    have hi : ¬ (2 : Int32) < nI i := Int32.not_lt.mpr ((nI_leI (b := 2) (by omega) (by omega)).mpr (by omega))
    rw [f_X7_digestOfPlaces_h24, if_neg hi, hP i (by omega), Option.bind_some, v_mixX, Option.bind_some, nI_1, ih (i + 1) k _ (by omega) (by omega)]; rfl
theorem l_dp {lrd cnt : Int32} {dep siz plc onn : Nat → Int32} {P : Nat → Nat → Int32} (hP : ∀ p : Nat, p < 20 → ∀ c : Nat, c < 3 → f_X7_place lrd cnt dep siz plc onn (nI p) (nI c) = some (P p c)) : ∀ (j i k : Nat) (hh : Int64), i + j = 20 → j < k → f_X7_digestOfPlaces_h14 lrd cnt dep siz plc onn k hh (nI i) = some (fF (fun p => fM (P p) (R 0 3)) (R i j) hh) := by
  intro j
  induction j with
  | zero =>
    intro i k hh h hk
    obtain ⟨k, rfl⟩ : ∃ z, k = z + 1 := ⟨k - 1, by omega⟩
    have hin : i = 20 := by omega
    subst hin
    rw [f_X7_digestOfPlaces_h14, if_pos (show (20 : Int32) ≤ nI 20 from Int32.le_refl _)]
    rfl
  | succ j ih =>
    intro i k hh h hk
    obtain ⟨k, rfl⟩ : ∃ z, k = z + 1 := ⟨k - 1, by omega⟩
    have hi : i < 20 := by omega
    have cge : ¬ (20 : Int32) ≤ nI i := nI_ge (a := i) (b := 20) hi (by omega)
    have cok : ok (nI i) 20 = true := okT (by omega) (by omega)
    have ctn : (nI i).toNatClampNeg = i := tnI (by omega)
    rw [f_X7_digestOfPlaces_h14, if_neg cge]
    have e := l_dp3 (fun x3 x5 => f_X7_digestOfPlaces_h14 lrd cnt dep siz plc onn k x3 x5) (nI i) (hP i hi) 3 0 70 hh (by omega) (by omega)
    replace e : f_X7_digestOfPlaces_h24 (fun x3 x5 => f_X7_digestOfPlaces_h14 lrd cnt dep siz plc onn k x3 x5) lrd cnt dep siz plc onn 70 hh (nI i) 0 = _ := e
    rw [e, nI_1]
    exact ih (i + 1) k _ (by omega) (by omega)

theorem l_db4 (kk : Int64 → Int32 → Option Int64) {cnt stg : Int32} {knd : Nat → Nat} {siz plc onn axs : Nat → Int32} (x : Int32) {f : Nat → Int32} (hP : ∀ c : Nat, c < 4 → f_X7_may cnt stg knd siz plc onn axs x (nI c) = some (f c)) : ∀ (j i k : Nat) (hh : Int64), i + j = 4 → j < k → f_X7_digestOfBalls_h50 kk cnt stg knd siz plc onn axs k hh x (nI i) = kk (fM f (R i j) hh) (x + 1) := by
  intro j
  induction j with
  | zero =>
    intro i k hh h hk
    obtain ⟨k, rfl⟩ : ∃ z, k = z + 1 := ⟨k - 1, by omega⟩
    have hin : i = 4 := by omega
    subst hin
    rw [f_X7_digestOfBalls_h50, if_pos (show (4 : Int32) ≤ nI 4 from Int32.le_refl _)]
    rfl
  | succ j ih =>
    intro i k hh h hk
    obtain ⟨k, rfl⟩ : ∃ z, k = z + 1 := ⟨k - 1, by omega⟩
    have hi : i < 4 := by omega
    have cge : ¬ (4 : Int32) ≤ nI i := nI_ge (a := i) (b := 4) hi (by omega)
    have ctn : (nI i).toNatClampNeg = i := tnI (by omega)
    rw [f_X7_digestOfBalls_h50, if_neg cge]
    rw [hP i hi, Option.bind_some, v_mixX, Option.bind_some, nI_1, ih (i + 1) k _ (by omega) (by omega)]; rfl

theorem l_db7 (kk : Int64 → Int32 → Option Int64) {cnt stg : Int32} {knd : Nat → Nat} {siz plc onn axs : Nat → Int32} (x : Int32) {f g : Nat → Int32} (hP : ∀ c : Nat, c < 4 → f_X7_may cnt stg knd siz plc onn axs x (nI c) = some (f c)) (hA : ∀ c : Nat, c < 7 → f_X7_about cnt knd siz plc onn axs x (nI c) = some (g c)) : ∀ (j i k : Nat) (hh : Int64), i + j = 7 → j < k → f_X7_digestOfBalls_h20 kk cnt stg knd siz plc onn axs k hh x (nI i) = kk (fM f (R 0 4) (fM g (R i j) hh)) (x + 1) := by
  intro j
  induction j with
  | zero =>
    intro i k hh h hk
    obtain ⟨k, rfl⟩ : ∃ z, k = z + 1 := ⟨k - 1, by omega⟩
    have hin : i = 7 := by omega
    subst hin
    rw [f_X7_digestOfBalls_h20, if_pos (show (7 : Int32) ≤ nI 7 from Int32.le_refl _)]
    exact l_db4 kk x hP 4 0 70 hh (by omega) (by omega)
  | succ j ih =>
    intro i k hh h hk
    obtain ⟨k, rfl⟩ : ∃ z, k = z + 1 := ⟨k - 1, by omega⟩
    have hi : i < 7 := by omega
    have cge : ¬ (7 : Int32) ≤ nI i := nI_ge (a := i) (b := 7) hi (by omega)
    have ctn : (nI i).toNatClampNeg = i := tnI (by omega)
    rw [f_X7_digestOfBalls_h20, if_neg cge]
    rw [hA i hi, Option.bind_some, v_mixX, Option.bind_some, nI_1, ih (i + 1) k _ (by omega) (by omega)]; rfl

theorem l_db {n : Nat} (hn : n ≤ 4) {stg : Int32} {knd : Nat → Nat} {siz plc onn axs : Nat → Int32} {Y Q : Nat → Nat → Int32} (hP : ∀ q : Nat, q < n → ∀ c : Nat, c < 4 → f_X7_may (nI n) stg knd siz plc onn axs (nI q) (nI c) = some (Y q c)) (hA : ∀ q : Nat, q < n → ∀ c : Nat, c < 7 → f_X7_about (nI n) knd siz plc onn axs (nI q) (nI c) = some (Q q c)) : ∀ (j i k : Nat) (hh : Int64), i + j = n → j < k → f_X7_digestOfBalls_h5 (nI n) stg knd siz plc onn axs k hh (nI i) = some (fF (fun q hh => fM (Y q) (R 0 4) (fM (Q q) (R 0 7) hh)) (R i j) hh) := by
  intro j
  induction j with
  | zero =>
    intro i k hh h hk
    obtain ⟨k, rfl⟩ : ∃ z, k = z + 1 := ⟨k - 1, by omega⟩
    have hin : n = i := by omega
    subst hin
    rw [f_X7_digestOfBalls_h5, if_pos (show (nI n : Int32) ≤ nI n from Int32.le_refl _)]
    rfl
  | succ j ih =>
    intro i k hh h hk
    obtain ⟨k, rfl⟩ : ∃ z, k = z + 1 := ⟨k - 1, by omega⟩
    have hi : i < n := by omega
    have cge : ¬ (nI n : Int32) ≤ nI i := nI_ge (a := i) (b := n) hi (by omega)
    have ctn : (nI i).toNatClampNeg = i := tnI (by omega)
    rw [f_X7_digestOfBalls_h5, if_neg cge]
    have e := l_db7 (fun x3 x5 => f_X7_digestOfBalls_h5 (nI n) stg knd siz plc onn axs k x3 x5) (nI i) (hP i hi) (hA i hi) 7 0 70 hh (by omega) (by omega)
    replace e : f_X7_digestOfBalls_h20 (fun x3 x5 => f_X7_digestOfBalls_h5 (nI n) stg knd siz plc onn axs k x3 x5) (nI n) stg knd siz plc onn axs 70 hh (nI i) 0 = _ := e
    rw [e, nI_1]
    exact ih (i + 1) k _ (by omega) (by omega)

theorem l_dc {ltr lrd srs bks cnt wet stg dys : Int32} {dep siz : Nat → Int32} {f : Nat → Int32} (hP : ∀ c : Nat, c < 12 → f_X7_count ltr lrd srs bks cnt wet stg dys dep siz (nI c) = some (f c)) : ∀ (j i k : Nat) (hh : Int64), i + j = 12 → j < k → f_X7_digest_h75 ltr lrd srs bks cnt wet stg dys dep siz k hh (nI i) = some (fM f (R i j) hh) := by
  intro j
  induction j with
  | zero =>
    intro i k hh h hk
    obtain ⟨k, rfl⟩ : ∃ z, k = z + 1 := ⟨k - 1, by omega⟩
    have hin : i = 12 := by omega
    subst hin
    rw [f_X7_digest_h75, if_pos (show (12 : Int32) ≤ nI 12 from Int32.le_refl _)]
    rfl
  | succ j ih =>
    intro i k hh h hk
    obtain ⟨k, rfl⟩ : ∃ z, k = z + 1 := ⟨k - 1, by omega⟩
    have hi : i < 12 := by omega
    have cge : ¬ (12 : Int32) ≤ nI i := nI_ge (a := i) (b := 12) hi (by omega)
    have ctn : (nI i).toNatClampNeg = i := tnI (by omega)
    rw [f_X7_digest_h75, if_neg cge]
    rw [hP i hi, Option.bind_some, v_mixX, Option.bind_some, nI_1, ih (i + 1) k _ (by omega) (by omega)]; rfl

theorem l_dg {L : Nat} (hL : L ≤ 26) {lrd srs bks cnt wet stg dys : Int32} {pag dep siz : Nat → Int32} {f : Nat → Int32} (hP : ∀ c : Nat, c < 12 → f_X7_count (nI L) lrd srs bks cnt wet stg dys dep siz (nI c) = some (f c)) : ∀ (j i k : Nat) (hh : Int64), i + j = L → j < k → f_X7_digest_h47 (nI L) lrd srs bks pag cnt wet stg dys dep siz k hh (nI i) = some (fM f (R 0 12) (fM pag (R i j) hh)) := by
  intro j
  induction j with
  | zero =>
    intro i k hh h hk
    obtain ⟨k, rfl⟩ : ∃ z, k = z + 1 := ⟨k - 1, by omega⟩
    have hin : L = i := by omega
    subst hin
    rw [f_X7_digest_h47, if_pos (show (nI L : Int32) ≤ nI L from Int32.le_refl _)]
    exact l_dc hP 12 0 70 hh (by omega) (by omega)
  | succ j ih =>
    intro i k hh h hk
    obtain ⟨k, rfl⟩ : ∃ z, k = z + 1 := ⟨k - 1, by omega⟩
    have hi : i < L := by omega
    have cge : ¬ (nI L : Int32) ≤ nI i := nI_ge (a := i) (b := L) hi (by omega)
    have cok : ok (nI i) 26 = true := okT (by omega) (by omega)
    have ctn : (nI i).toNatClampNeg = i := tnI (by omega)
    rw [f_X7_digest_h47, if_neg cge]
    rw [if_pos cok, ctn, v_mixX, Option.bind_some, nI_1, ih (i + 1) k _ (by omega) (by omega)]; rfl

theorem m_dc {il la we st dy ba as bo pl : Int32} {D Z P : Nat → Int32} {f : Nat → Int32} (hP : ∀ c : Nat, c < 12 → f_X8_howMany il la we st dy ba as bo pl D Z P (nI c) = some (f c)) : ∀ (j i k : Nat) (hh : Int64), i + j = 12 → j < k → f_X8_digest_h190 il la we st dy ba as bo pl D Z P k hh (nI i) = some (fM f (R i j) hh, fM f (R i j) hh) := by
  intro j
  induction j with
  | zero =>
    intro i k hh h hk
    obtain ⟨k, rfl⟩ : ∃ z, k = z + 1 := ⟨k - 1, by omega⟩
    have hin : i = 12 := by omega
    subst hin
    rw [f_X8_digest_h190, if_pos (show (12 : Int32) ≤ nI 12 from Int32.le_refl _)]
    rfl
  | succ j ih =>
    intro i k hh h hk
    obtain ⟨k, rfl⟩ : ∃ z, k = z + 1 := ⟨k - 1, by omega⟩
    have hi : i < 12 := by omega
    have cge : ¬ (12 : Int32) ≤ nI i := nI_ge (a := i) (b := 12) hi (by omega)
    have ctn : (nI i).toNatClampNeg = i := tnI (by omega)
    rw [f_X8_digest_h190, if_neg cge]
    rw [hP i hi, Option.bind_some, v_mixM, Option.bind_some, nI_1, ih (i + 1) k _ (by omega) (by omega)]; rfl

theorem m_dg {L : Nat} (hL : L ≤ 26) {il la we st dy ba as bo : Int32} {D Z P G : Nat → Int32} {f : Nat → Int32} (hP : ∀ c : Nat, c < 12 → f_X8_howMany il la we st dy ba as bo (nI L) D Z P (nI c) = some (f c)) : ∀ (j i k : Nat) (hh : Int64), i + j = L → j < k → f_X8_digest_h163 il la we st dy ba as bo (nI L) D Z P G k hh (nI i) = some (fM f (R 0 12) (fM G (R i j) hh), fM f (R 0 12) (fM G (R i j) hh)) := by
  intro j
  induction j with
  | zero =>
    intro i k hh h hk
    obtain ⟨k, rfl⟩ : ∃ z, k = z + 1 := ⟨k - 1, by omega⟩
    have hin : L = i := by omega
    subst hin
    rw [f_X8_digest_h163, if_pos (show (nI L : Int32) ≤ nI L from Int32.le_refl _)]
    exact m_dc hP 12 0 70 hh (by omega) (by omega)
  | succ j ih =>
    intro i k hh h hk
    obtain ⟨k, rfl⟩ : ∃ z, k = z + 1 := ⟨k - 1, by omega⟩
    have hi : i < L := by omega
    have cge : ¬ (nI L : Int32) ≤ nI i := nI_ge (a := i) (b := L) hi (by omega)
    have cok : ok (nI i) 26 = true := okT (by omega) (by omega)
    have ctn : (nI i).toNatClampNeg = i := tnI (by omega)
    rw [f_X8_digest_h163, if_neg cge]
    rw [if_pos cok, ctn, v_mixM, Option.bind_some, nI_1, ih (i + 1) k _ (by omega) (by omega)]; rfl

theorem m_d4 (kk : Int64 → Int32 → Option (Int64 × Int64)) {st ba : Int32} {K Z P O X : Nat → Int32} (x : Int32) {f : Nat → Int32} (hP : ∀ c : Nat, c < 4 → f_X8_mayRoll st ba K Z P O X x (nI c) = some (f c) ∧ (f c = 0 ∨ f c = 1)) : ∀ (j i k : Nat) (hh : Int64), i + j = 4 → j < k → f_X8_digest_h96 kk st ba K Z P O X k hh x (nI i) = kk (fM f (R i j) hh) (x + 1) := by
  intro j
  induction j with
  | zero =>
    intro i k hh h hk
    obtain ⟨k, rfl⟩ : ∃ z, k = z + 1 := ⟨k - 1, by omega⟩
    have hin : i = 4 := by omega
    subst hin
    rw [f_X8_digest_h96, if_pos (show (4 : Int32) ≤ nI 4 from Int32.le_refl _)]
    rfl
  | succ j ih =>
    intro i k hh h hk
    obtain ⟨k, rfl⟩ : ∃ z, k = z + 1 := ⟨k - 1, by omega⟩
    have hi : i < 4 := by omega
    have cge : ¬ (4 : Int32) ≤ nI i := nI_ge (a := i) (b := 4) hi (by omega)
    have ctn : (nI i).toNatClampNeg = i := tnI (by omega)
    rw [f_X8_digest_h96, if_neg cge]
    obtain ⟨u1, u2⟩ := hP i hi
    rw [u1, Option.bind_some]
    rcases u2 with u | u
    · rw [if_pos u, show (0 : Int64) = Int32.toInt64 (f i) by rw [u]; rfl, v_mixM, Option.bind_some, nI_1, ih (i + 1) k _ (by omega) (by omega)]; rfl
    · rw [if_neg (by rw [u]; decide), show (1 : Int64) = Int32.toInt64 (f i) by rw [u]; rfl, v_mixM, Option.bind_some, nI_1, ih (i + 1) k _ (by omega) (by omega)]; rfl

theorem m_d7 (kk : Int64 → Int32 → Option (Int64 × Int64)) {il la we st dy ba as bo pl : Int32} {D K Z P O X G : Nat → Int32} (x : Int32) {f g : Nat → Int32} (hP : ∀ c : Nat, c < 4 → f_X8_mayRoll st ba K Z P O X x (nI c) = some (f c) ∧ (f c = 0 ∨ f c = 1)) (hA : ∀ c : Nat, c < 7 → f_X8_ballNow K Z P O X x (nI c) = some (g c)) : ∀ (j i k : Nat) (hh : Int64), i + j = 7 → j < k → f_X8_digest_h71 kk il la we st dy ba as bo pl D K Z P O X G k hh x (nI i) = kk (fM f (R 0 4) (fM g (R i j) hh)) (x + 1) := by
  intro j
  induction j with
  | zero =>
    intro i k hh h hk
    obtain ⟨k, rfl⟩ : ∃ z, k = z + 1 := ⟨k - 1, by omega⟩
    have hin : i = 7 := by omega
    subst hin
    rw [f_X8_digest_h71, if_pos (show (7 : Int32) ≤ nI 7 from Int32.le_refl _)]
    exact m_d4 kk x hP 4 0 70 hh (by omega) (by omega)
  | succ j ih =>
    intro i k hh h hk
    obtain ⟨k, rfl⟩ : ∃ z, k = z + 1 := ⟨k - 1, by omega⟩
    have hi : i < 7 := by omega
    have cge : ¬ (7 : Int32) ≤ nI i := nI_ge (a := i) (b := 7) hi (by omega)
    have ctn : (nI i).toNatClampNeg = i := tnI (by omega)
    rw [f_X8_digest_h71, if_neg cge]
    rw [hA i hi, Option.bind_some, v_mixM, Option.bind_some, nI_1, ih (i + 1) k _ (by omega) (by omega)]; rfl

theorem m_db {n L : Nat} (hn : n ≤ 4) (hL : L ≤ 26) {il la we st dy as bo : Int32} {D K Z P O X G : Nat → Int32} {Y Q : Nat → Nat → Int32} (hP : ∀ q : Nat, q < n → ∀ c : Nat, c < 4 → f_X8_mayRoll st (nI n) K Z P O X (nI q) (nI c) = some (Y q c) ∧ (Y q c = 0 ∨ Y q c = 1)) (hA : ∀ q : Nat, q < n → ∀ c : Nat, c < 7 → f_X8_ballNow K Z P O X (nI q) (nI c) = some (Q q c)) {f : Nat → Int32} (hC : ∀ c : Nat, c < 12 → f_X8_howMany il la we st dy (nI n) as bo (nI L) D Z P (nI c) = some (f c)) {h0 h1 hl : Int32} (e0 : f_X8_highestNow st (nI n) K Z P 0 = some h0) (e1 : f_X8_highestNow st (nI n) K Z P 1 = some h1) (el : f_X8_lastsNow (nI n) K Z P 1 = some hl) : ∀ (j i k : Nat) (hh : Int64), i + j = n → j < k → f_X8_digest_h61 il la we st dy (nI n) as bo (nI L) D K Z P O X G k hh (nI i) = (fun z => some (z, z)) (fM f (R 0 12) (fM G (R 0 L) (mx (mx (mx (fF (fun q hh => fM (Y q) (R 0 4) (fM (Q q) (R 0 7) hh)) (R i j) hh) h0) h1) hl))) := by
  intro j
  induction j with
  | zero =>
    intro i k hh h hk
    obtain ⟨k, rfl⟩ : ∃ z, k = z + 1 := ⟨k - 1, by omega⟩
    have hin : n = i := by omega
    subst hin
    rw [f_X8_digest_h61, if_pos (show (nI n : Int32) ≤ nI n from Int32.le_refl _)]
    rw [e0, Option.bind_some, v_mixM, Option.bind_some, e1, Option.bind_some, v_mixM, Option.bind_some, el, Option.bind_some, v_mixM, Option.bind_some]
    exact m_dg hL hC L 0 70 _ (by omega) (by omega)
  | succ j ih =>
    intro i k hh h hk
    obtain ⟨k, rfl⟩ : ∃ z, k = z + 1 := ⟨k - 1, by omega⟩
    have hi : i < n := by omega
    have cge : ¬ (nI n : Int32) ≤ nI i := nI_ge (a := i) (b := n) hi (by omega)
    have ctn : (nI i).toNatClampNeg = i := tnI (by omega)
    rw [f_X8_digest_h61, if_neg cge]
    have e := m_d7 (il := il) (la := la) (we := we) (dy := dy) (as := as) (bo := bo) (pl := nI L) (D := D) (G := G) (fun m_h x1 => f_X8_digest_h61 il la we st dy (nI n) as bo (nI L) D K Z P O X G k m_h x1) (nI i) (hP i hi) (hA i hi) 7 0 70 hh (by omega) (by omega)
    replace e : f_X8_digest_h71 (fun m_h x1 => f_X8_digest_h61 il la we st dy (nI n) as bo (nI L) D K Z P O X G k m_h x1) il la we st dy (nI n) as bo (nI L) D K Z P O X G 70 hh (nI i) 0 = _ := e
    rw [e, nI_1]
    exact ih (i + 1) k _ (by omega) (by omega)

theorem m_dp {il la we st dy ba as bo pl : Int32} {D K Z P O X G : Nat → Int32} (hl : ¬ il = 0) {F : Nat → Nat → Int32} (hP : ∀ p : Nat, p < 20 → D p = F p 0 ∧ f_X8_standsOn ba P O (nI p) = some (F p 1) ∧ f_X8_heightOf ba Z P (nI p) = some (F p 2)) : ∀ (j i k : Nat) (hh : Int64), i + j = 20 → j < k → f_X8_digest_h9 il la we st dy ba as bo pl D K Z P O X G k hh (nI i) = f_X8_digest_h61 il la we st dy ba as bo pl D K Z P O X G 70 (fF (fun p => fM (F p) (R 0 3)) (R i j) hh) 0 := by
  intro j
  induction j with
  | zero =>
    intro i k hh h hk
    obtain ⟨k, rfl⟩ : ∃ z, k = z + 1 := ⟨k - 1, by omega⟩
    have hin : i = 20 := by omega
    subst hin
    rw [f_X8_digest_h9, if_pos (show (20 : Int32) ≤ nI 20 from Int32.le_refl _)]
    rfl
  | succ j ih =>
    intro i k hh h hk
    obtain ⟨k, rfl⟩ : ∃ z, k = z + 1 := ⟨k - 1, by omega⟩
    have hi : i < 20 := by omega
    have cge : ¬ (20 : Int32) ≤ nI i := nI_ge (a := i) (b := 20) hi (by omega)
    have cok : ok (nI i) 20 = true := okT (by omega) (by omega)
    have ctn : (nI i).toNatClampNeg = i := tnI (by omega)
    rw [f_X8_digest_h9, if_neg cge]
    obtain ⟨u1, u2, u3⟩ := hP i hi
    rw [if_neg hl, if_pos cok, ctn, u1, v_mixM, Option.bind_some, u2, Option.bind_some, v_mixM, Option.bind_some, u3, Option.bind_some, v_mixM, Option.bind_some, nI_1]
    exact ih (i + 1) k _ (by omega) (by omega)

theorem op_digest {t : Nat} (ht : t < 64) (ltr lrd srs bks img : Int32) (pag : Nat → Int32) (n_cnt n_wet n_stg n_dys : Int32) (n_dep : Nat → Int32) (n_knd : Nat → Nat) (n_siz n_plc n_onn n_axs : Nat → Int32) (k_cnt k_wet k_stg k_dys : Int32) (k_dep : Nat → Int32) (k_knd : Nat → Nat) (k_siz k_plc k_onn k_axs : Nat → Int32) (m_isLawn m_lawns m_wetness m_strength m_days m_balls m_asks m_books m_pageLength m_isKept m_keptLawn m_keptBalls m_keptStrength m_keptDays : Int32) (m_depthOf m_kindOf m_sizeOf m_placeOf m_onOf m_sticksOf m_page m_keptDepth m_keptSize m_keptPlace m_keptOn m_keptSticks : Nat → Int32) (h : Rel t ltr lrd srs bks img pag n_cnt n_wet n_stg n_dys n_dep n_knd n_siz n_plc n_onn n_axs k_cnt k_wet k_stg k_dys k_dep k_knd k_siz k_plc k_onn k_axs m_isLawn m_lawns m_wetness m_strength m_days m_balls m_asks m_books m_pageLength m_depthOf m_kindOf m_sizeOf m_placeOf m_onOf m_sticksOf m_page m_isKept m_keptLawn m_keptBalls m_keptStrength m_keptDays m_keptDepth m_keptSize m_keptPlace m_keptOn m_keptSticks) : ∃ (r m_h_ : Int64), f_X7_digest ltr lrd srs bks pag n_cnt n_wet n_stg n_dys n_dep n_knd n_siz n_plc n_onn n_axs = some r ∧ f_X8_digest m_isLawn m_lawns m_wetness m_strength m_days m_balls m_asks m_books m_pageLength m_depthOf m_kindOf m_sizeOf m_placeOf m_onOf m_sticksOf m_page = some (r, m_h_) ∧ Rel (t + 1) ltr lrd srs bks img pag n_cnt n_wet n_stg n_dys n_dep n_knd n_siz n_plc n_onn n_axs k_cnt k_wet k_stg k_dys k_dep k_knd k_siz k_plc k_onn k_axs m_isLawn m_lawns m_wetness m_strength m_days m_balls m_asks m_books m_pageLength m_depthOf m_kindOf m_sizeOf m_placeOf m_onOf m_sticksOf m_page m_isKept m_keptLawn m_keptBalls m_keptStrength m_keptDays m_keptDepth m_keptSize m_keptPlace m_keptOn m_keptSticks := by
  obtain ⟨L, l, a, b, n, hG, hC, hN, hZ, hI⟩ := id h
  obtain ⟨n1, n2, ⟨w, w9, n3⟩, n4, n5, n6, n7, n8, n9⟩ := id hN
  have hn4 := n7.1
  subst n1; subst n2
  have q4 := n4.symm
  have q5 := n5.symm
  have q6 := n6.symm
  subst q4; subst q5; subst q6
  have hL := hG.2.2.1
  have eL := hG.1
  have eL2 := hG.2.1
  subst eL; subst eL2
  -- the counts
  have hCn : ∀ c : Nat, c < 12 → ∃ r : Int32, f_X7_count (nI L) lrd srs bks (nI n) n_wet n_stg n_dys n_dep n_siz (nI c) = some r ∧ f_X8_howMany m_isLawn m_lawns n_wet n_stg n_dys (nI n) m_asks m_books (nI L) m_depthOf m_sizeOf m_placeOf (nI c) = some r := fun c hc => by
    obtain ⟨r, e1, e2, -⟩ := op_count (ht := ht) (h := h) (a1 := nI c)
    rw [f_X8_count, bs] at e2
    exact ⟨r, e1, e2⟩
  -- the balls
  have hAb : ∀ q : Nat, q < n → ∀ c : Nat, c < 7 → ∃ r : Int32, f_X7_about (nI n) n_knd n_siz n_plc n_onn n_axs (nI q) (nI c) = some r ∧ f_X8_ballNow m_kindOf m_sizeOf m_placeOf m_onOf m_sticksOf (nI q) (nI c) = some r := fun q hq c hc => by
    obtain ⟨r, e1, e2, -⟩ := op_about (ht := ht) (h := h) (a1 := nI q) (a2 := nI c)
    rw [f_X8_about, (ib_all n (by omega) q hq).2, Option.bind_some, if_neg i10, w6_all c hc, Option.bind_some, if_neg i10, bs] at e2
    exact ⟨r, e1, e2⟩
  have hMa : ∀ q : Nat, q < n → ∀ c : Nat, c < 4 → ∃ r : Int32, f_X7_may (nI n) n_stg n_knd n_siz n_plc n_onn n_axs (nI q) (nI c) = some r ∧ f_X8_mayRoll n_stg (nI n) m_kindOf m_sizeOf m_placeOf m_onOf m_sticksOf (nI q) (nI c) = some r ∧ (r = 0 ∨ r = 1) := fun q hq c hc => by
    have hO := RN.oks (by omega) n7 hq
    have hX := v_canRoll hn4 n_stg n_knd n_siz n_plc n_onn n_axs (b := q) (by omega) hc (n7.2.1 q hq) (by omega)
    have hM := v_mayRoll (stg := n_stg) hO (n8.ext hq) (Or.inr rfl) hc
    rw [f_X7_may, (ib_all n (by omega) q hq).1, Option.bind_some, if_neg i10, sd_all c hc, Option.bind_some, if_neg i10]
    by_cases hcr : CanR n n_stg n_knd n_siz n_plc n_onn n_axs q c
    · rw [hX.1 hcr, hM.1 hcr, Option.bind_some, if_neg i10]
      exact ⟨1, rfl, rfl, Or.inr rfl⟩
    · rw [hX.2 hcr, hM.2 hcr, Option.bind_some, if_pos i00]
      exact ⟨0, rfl, rfl, Or.inl rfl⟩
  -- the highest, the first day
  obtain ⟨h0, e0, f0, -⟩ := op_highest (ht := ht) (h := h) (a1 := 0)
  obtain ⟨h1, e1, f1, -⟩ := op_highest (ht := ht) (h := h) (a1 := 1)
  obtain ⟨hl, el, fl, -⟩ := op_lasts (ht := ht) (h := h) (a1 := 1)
  rw [f_X8_highest, show f_X8_within 0 0 1 = some 1 by decide +kernel, Option.bind_some, if_neg i10, bs] at f0
  rw [f_X8_highest, show f_X8_within 1 0 1 = some 1 by decide +kernel, Option.bind_some, if_neg i10, bs] at f1
  rw [f_X8_lasts, show f_X8_within 1 1 9 = some 1 by decide +kernel, Option.bind_some, if_neg i10, bs] at fl
  have gX {o : Option Int32} {r : Int32} (e : o = some r) : o = some (o.getD 0) := by rw [e]; rfl
  have gM {o p : Option Int32} {r : Int32} (e : o = some r) (e' : p = some r) : p = some (o.getD 0) := by rw [e, e']; rfl
  have cX : ∀ c : Nat, c < 12 → f_X7_count (nI L) lrd srs bks (nI n) n_wet n_stg n_dys n_dep n_siz (nI c) = some ((fun c : Nat => (f_X7_count (nI L) lrd srs bks (nI n) n_wet n_stg n_dys n_dep n_siz (nI c)).getD 0) c) := fun c hc => by
    obtain ⟨r, r1, r2⟩ := hCn c hc; exact gX r1
  have cM : ∀ c : Nat, c < 12 → f_X8_howMany m_isLawn m_lawns n_wet n_stg n_dys (nI n) m_asks m_books (nI L) m_depthOf m_sizeOf m_placeOf (nI c) = some ((fun c : Nat => (f_X7_count (nI L) lrd srs bks (nI n) n_wet n_stg n_dys n_dep n_siz (nI c)).getD 0) c) := fun c hc => by
    obtain ⟨r, r1, r2⟩ := hCn c hc; exact gM r1 r2
  generalize (fun c : Nat => (f_X7_count (nI L) lrd srs bks (nI n) n_wet n_stg n_dys n_dep n_siz (nI c)).getD 0) = fC at cX cM
  have aX : ∀ q : Nat, q < n → ∀ c : Nat, c < 7 → f_X7_about (nI n) n_knd n_siz n_plc n_onn n_axs (nI q) (nI c) = some ((fun q c : Nat => (f_X7_about (nI n) n_knd n_siz n_plc n_onn n_axs (nI q) (nI c)).getD 0) q c) := fun q hq c hc => by
    obtain ⟨r, r1, r2⟩ := hAb q hq c hc; exact gX r1
  have aM : ∀ q : Nat, q < n → ∀ c : Nat, c < 7 → f_X8_ballNow m_kindOf m_sizeOf m_placeOf m_onOf m_sticksOf (nI q) (nI c) = some ((fun q c : Nat => (f_X7_about (nI n) n_knd n_siz n_plc n_onn n_axs (nI q) (nI c)).getD 0) q c) := fun q hq c hc => by
    obtain ⟨r, r1, r2⟩ := hAb q hq c hc; exact gM r1 r2
  generalize (fun q c : Nat => (f_X7_about (nI n) n_knd n_siz n_plc n_onn n_axs (nI q) (nI c)).getD 0) = fA at aX aM
  have mX' : ∀ q : Nat, q < n → ∀ c : Nat, c < 4 → f_X7_may (nI n) n_stg n_knd n_siz n_plc n_onn n_axs (nI q) (nI c) = some ((fun q c : Nat => (f_X7_may (nI n) n_stg n_knd n_siz n_plc n_onn n_axs (nI q) (nI c)).getD 0) q c) := fun q hq c hc => by
    obtain ⟨r, r1, r2⟩ := hMa q hq c hc; exact gX r1
  have mM' : ∀ q : Nat, q < n → ∀ c : Nat, c < 4 → f_X8_mayRoll n_stg (nI n) m_kindOf m_sizeOf m_placeOf m_onOf m_sticksOf (nI q) (nI c) = some ((fun q c : Nat => (f_X7_may (nI n) n_stg n_knd n_siz n_plc n_onn n_axs (nI q) (nI c)).getD 0) q c) ∧ ((fun q c : Nat => (f_X7_may (nI n) n_stg n_knd n_siz n_plc n_onn n_axs (nI q) (nI c)).getD 0) q c = 0 ∨ (fun q c : Nat => (f_X7_may (nI n) n_stg n_knd n_siz n_plc n_onn n_axs (nI q) (nI c)).getD 0) q c = 1) := fun q hq c hc => by
    obtain ⟨r, r1, r2, r3⟩ := hMa q hq c hc
    refine ⟨gM r1 r2, ?_⟩
    show Option.getD _ 0 = 0 ∨ Option.getD _ 0 = 1
    rw [r1]; exact r3
  generalize (fun q c : Nat => (f_X7_may (nI n) n_stg n_knd n_siz n_plc n_onn n_axs (nI q) (nI c)).getD 0) = fY at mX' mM'
  -- the page
  have hpg : ∀ (j i : Nat) (hh : Int64), i + j = L → fM m_page (R i j) hh = fM pag (R i j) hh := by
    intro j
    induction j with
    | zero => intro i hh _; rfl
    | succ j ih =>
      intro i hh hi
      obtain ⟨c, -, -, c1, c2⟩ := hG.2.2.2 i (by omega)
      show fM m_page (R (i + 1) j) (mx hh (m_page i)) = fM pag (R (i + 1) j) (mx hh (pag i))
      rw [c1, c2, ih (i + 1) _ (by omega)]
  have X5 := fun hh => l_db hn4 mX' aX n 0 70 hh (by omega) (by omega)
  have X7 := fun hh => l_dg hL (pag := pag) cX L 0 70 hh (by omega) (by omega)
  have M6 := fun hh => m_db hn4 hL (G := m_page) mM' aM cM f0 f1 fl n 0 70 hh (by omega) (by omega)
  rw [f_X7_digest, f_X7_digestOfPlaces, f_X8_digest]
  rcases hasL hC (by omega) with ⟨l0, g1, g2, -⟩ | ⟨l0, g1, g2⟩
  · have hPl : ∀ p : Nat, p < 20 → ∀ c : Nat, c < 3 → ∃ r : Int32, f_X7_place lrd (nI n) n_dep n_siz n_plc n_onn (nI p) (nI c) = some r ∧ f_X8_place m_isLawn (nI n) m_depthOf m_sizeOf m_placeOf m_onOf (nI p) (nI c) = some r := fun p hp c hc => by
      obtain ⟨r, e1, e2, -⟩ := op_place (ht := ht) (h := h) (a1 := nI p) (a2 := nI c)
      exact ⟨r, e1, e2⟩
    have pX : ∀ p : Nat, p < 20 → ∀ c : Nat, c < 3 → f_X7_place lrd (nI n) n_dep n_siz n_plc n_onn (nI p) (nI c) = some ((fun p c : Nat => (f_X7_place lrd (nI n) n_dep n_siz n_plc n_onn (nI p) (nI c)).getD 0) p c) := fun p hp c hc => by
      obtain ⟨r, r1, r2⟩ := hPl p hp c hc; exact gX r1
    have pM : ∀ p : Nat, p < 20 → ∀ c : Nat, c < 3 → f_X8_place m_isLawn (nI n) m_depthOf m_sizeOf m_placeOf m_onOf (nI p) (nI c) = some ((fun p c : Nat => (f_X7_place lrd (nI n) n_dep n_siz n_plc n_onn (nI p) (nI c)).getD 0) p c) := fun p hp c hc => by
      obtain ⟨r, r1, r2⟩ := hPl p hp c hc; exact gM r1 r2
    generalize (fun p c : Nat => (f_X7_place lrd (nI n) n_dep n_siz n_plc n_onn (nI p) (nI c)).getD 0) = fP at pX pM
    have pM' : ∀ p : Nat, p < 20 → m_depthOf p = fP p 0 ∧ f_X8_standsOn (nI n) m_placeOf m_onOf (nI p) = some (fP p 1) ∧ f_X8_heightOf (nI n) m_sizeOf m_placeOf (nI p) = some (fP p 2) := fun p hp => by
      have a0 := pM p hp 0 (by omega)
      have a1 := pM p hp 1 (by omega)
      have a2 := pM p hp 2 (by omega)
      rw [f_X8_place, (ip_all p hp).2, Option.bind_some, if_neg i10, w2_all 0 (by omega), Option.bind_some, if_neg i10, if_neg g2, if_pos (show nI 0 = (0 : Int32) from rfl), if_pos (okT hp (by omega)), tnI (by omega)] at a0
      rw [f_X8_place, (ip_all p hp).2, Option.bind_some, if_neg i10, w2_all 1 (by omega), Option.bind_some, if_neg i10, if_neg g2, if_neg (show ¬ nI 1 = (0 : Int32) by decide), if_pos (show nI 1 = (1 : Int32) from rfl), bs] at a1
      rw [f_X8_place, (ip_all p hp).2, Option.bind_some, if_neg i10, w2_all 2 (by omega), Option.bind_some, if_neg i10, if_neg g2, if_neg (show ¬ nI 2 = (0 : Int32) by decide), if_neg (show ¬ nI 2 = (1 : Int32) by decide), bs] at a2
      exact ⟨Option.some.inj a0, a1, a2⟩
    have X1 := l_dp pX 20 0 70 727 (by omega) (by omega)
    have M1 := m_dp (la := m_lawns) (we := n_wet) (st := n_stg) (dy := n_dys) (as := m_asks) (bo := m_books) (pl := nI L) (K := m_kindOf) (X := m_sticksOf) (G := m_page) g2 pM' 20 0 70 727 (by omega) (by omega)
    replace X1 : f_X7_digestOfPlaces_h14 lrd (nI n) n_dep n_siz n_plc n_onn 70 727 0 = _ := X1
    replace M1 : f_X8_digest_h9 m_isLawn m_lawns n_wet n_stg n_dys (nI n) m_asks m_books (nI L) m_depthOf m_kindOf m_sizeOf m_placeOf m_onOf m_sticksOf m_page 70 727 0 = _ := M1
    rw [g1, Option.bind_some, if_neg i10, X1, Option.bind_some, M1, f_X7_digestOfBalls]
    generalize fF (fun p => fM (fP p) (R 0 3)) (R 0 20) 727 = hh
    have X5' := X5 hh
    have M6' := M6 hh
    replace X5' : f_X7_digestOfBalls_h5 (nI n) n_stg n_knd n_siz n_plc n_onn n_axs 70 hh 0 = _ := X5'
    replace M6' : f_X8_digest_h61 m_isLawn m_lawns n_wet n_stg n_dys (nI n) m_asks m_books (nI L) m_depthOf m_kindOf m_sizeOf m_placeOf m_onOf m_sticksOf m_page 70 hh 0 = _ := M6'
    rw [hpg L 0 _ (by omega)] at M6'
    rw [X5', M6', Option.bind_some, e0, Option.bind_some, v_mixX, Option.bind_some, e1, Option.bind_some, v_mixX, Option.bind_some, el, Option.bind_some, v_mixX, Option.bind_some]
    have X7' := X7 (mx (mx (mx (fF (fun q hh => fM (fY q) (R 0 4) (fM (fA q) (R 0 7) hh)) (R 0 n) hh) h0) h1) hl)
    exact ⟨_, _, X7', rfl, h.up⟩
  · rw [g1, Option.bind_some, if_pos i00, Option.bind_some, f_X8_digest_h9, if_neg (show ¬ (20 : Int32) ≤ 0 by decide), if_pos g2, f_X7_digestOfBalls]
    generalize (727 : Int64) = hh
    have X5' := X5 hh
    have M6' := M6 hh
    replace X5' : f_X7_digestOfBalls_h5 (nI n) n_stg n_knd n_siz n_plc n_onn n_axs 70 hh 0 = _ := X5'
    replace M6' : f_X8_digest_h61 m_isLawn m_lawns n_wet n_stg n_dys (nI n) m_asks m_books (nI L) m_depthOf m_kindOf m_sizeOf m_placeOf m_onOf m_sticksOf m_page 70 hh 0 = _ := M6'
    rw [hpg L 0 _ (by omega)] at M6'
    rw [X5', M6', Option.bind_some, e0, Option.bind_some, v_mixX, Option.bind_some, e1, Option.bind_some, v_mixX, Option.bind_some, el, Option.bind_some, v_mixX, Option.bind_some]
    have X7' := X7 (mx (mx (mx (fF (fun q hh => fM (fY q) (R 0 4) (fM (fA q) (R 0 7) hh)) (R 0 n) hh) h0) h1) hl)
    exact ⟨_, _, X7', rfl, h.up⟩
