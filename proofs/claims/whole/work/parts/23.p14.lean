/-! the highest of three, the reference's side -/
def MAY (stg : Int32) (knd : Nat → Nat) (siz plc : Nat → Int32) (a b c : Nat) : Prop := ¬ plc a = -1 ∧ ¬ plc b = -1 ∧ ¬ plc c = -1 ∧ ¬ siz a ≤ siz b ∧ ¬ siz b ≤ siz c ∧ wOK stg knd siz b ∧ wOK stg knd siz c
theorem v_mayStand {n : Nat} (hn : n ≤ 4) {stg : Int32} {knd : Nat → Nat} {siz plc onn axs mK mZ mP mO mX : Nat → Int32} (hk : ∀ q : Nat, q < n → knd q < 5) (hg : AG (fun i => i < n) knd siz plc onn axs mK mZ mP mO mX) {a b c : Nat} (ha : a < n) (hb : b < n) (hc : c < n) :
    (MAY stg knd siz plc a b c → f_X8_mayStand stg mK mZ mP (nI a) (nI b) (nI c) = some 1) ∧ (¬ MAY stg knd siz plc a b c → f_X8_mayStand stg mK mZ mP (nI a) (nI b) (nI c) = some 0) := by
  obtain ⟨a1, a2, a3, -⟩ := hg a ha
  obtain ⟨b1, b2, b3, -⟩ := hg b hb
  obtain ⟨c1, c2, c3, -⟩ := hg c hc
  have wb := v_weighs (mZ := mZ) (b := b) (by omega) (hk b hb) b1
  have wc := v_weighs (mZ := mZ) (b := c) (by omega) (hk c hc) c1
  rw [b2] at wb
  rw [c2] at wc
  have ka : ok (nI a) 5 = true := okT (by omega) (by omega)
  have kb : ok (nI b) 5 = true := okT (by omega) (by omega)
  have kc : ok (nI c) 5 = true := okT (by omega) (by omega)
  have ta : (nI a).toNatClampNeg = a := tnI (by omega)
  have tb : (nI b).toNatClampNeg = b := tnI (by omega)
  have tc : (nI c).toNatClampNeg = c := tnI (by omega)
  rw [f_X8_mayStand]
  simp only [ka, kb, kc, if_true, ta, tb, tc, wb, wc, Option.bind_some, a2, a3, b2, b3, c2, c3]
  unfold MAY wOK
  refine ⟨fun ⟨h1, h2, h3, h4, h5, h6, h7⟩ => by rw [if_neg h1, if_neg h2, if_neg h3, if_neg h4, if_neg h5, if_neg h6, if_neg h7], fun h => ?_⟩
  by_cases h4 : siz a ≤ siz b
  · simp only [h4, if_true, ite_self]
  · by_cases h5 : siz b ≤ siz c
    · simp only [h4, h5, if_true, if_false, ite_self]
    · by_cases h1 : plc a = -1
      · simp only [h1, h4, h5, if_true, if_false, ite_self]
      · by_cases h2 : plc b = -1
        · simp only [h1, h2, h4, h5, if_true, if_false, ite_self]
        · by_cases h3 : plc c = -1
          · simp only [h1, h2, h3, h4, h5, if_true, if_false, ite_self]
          · by_cases h6 : stg < 2 * (siz b * kf_weightTimes (knd b))
            · simp only [h1, h2, h3, h4, h5, h6, if_true, if_false]
            · by_cases h7 : stg < 2 * (siz c * kf_weightTimes (knd c))
              · simp only [h1, h2, h3, h4, h5, h6, h7, if_true, if_false]
              · exact absurd ⟨h1, h2, h3, h4, h5, h6, h7⟩ h
def HC (r : Nat → Nat) (i : Nat) : Nat := r (i / 16) + r (i / 4 % 4) + r (i % 4)
def SC (i : Nat) : Nat := 2 ^ (i / 16) ||| 2 ^ (i / 4 % 4) ||| 2 ^ (i % 4)
def QC (n : Nat) (stg : Int32) (knd : Nat → Nat) (siz plc : Nat → Int32) (i : Nat) : Prop := i / 16 < n ∧ i / 4 % 4 < n ∧ i % 4 < n ∧ MAY stg knd siz plc (i / 16) (i / 4 % 4) (i % 4)
theorem dg_all : ∀ i, i < 64 → nI i / 16 = nI (i / 16) ∧ (nI i / 4 - nI i / 4 / 4 * 4) = nI (i / 4 % 4) ∧ (nI i - nI i / 4 * 4) = nI (i % 4) ∧ (((1 <<< (nI (i / 16) &&& 31)) ||| (1 <<< (nI (i / 4 % 4) &&& 31))) ||| (1 <<< (nI (i % 4) &&& 31)) : Int32) = nI (SC i) ∧ SC i < 16 := by decide +kernel
def BM (n : Nat) (stg : Int32) (knd : Nat → Nat) (siz plc : Nat → Int32) (r : Nat → Nat) (i : Nat) (x2 x3 : Int32) : Prop :=
  (x2 = -1 ∧ x3 = -1 ∧ ∀ c : Nat, c < i → ¬ QC n stg knd siz plc c) ∨ ∃ c : Nat, c < i ∧ QC n stg knd siz plc c ∧ x2 = nI (HC r c) ∧ x3 = nI (SC c) ∧ ∀ d : Nat, d < i → QC n stg knd siz plc d → HC r d < HC r c ∨ (HC r d = HC r c ∧ SC c ≤ SC d)
theorem l_high8 {n : Nat} (hn : n ≤ 4) {stg a1 : Int32} {knd : Nat → Nat} {siz plc onn axs mK mZ mP mO mX : Nat → Int32} (hk : ∀ q : Nat, q < n → knd q < 5) (hg : AG (fun i => i < n) knd siz plc onn axs mK mZ mP mO mX) {r : Nat → Nat} (hr : ∀ q : Nat, q < n → f_X8_root (siz q) = some (nI (r q)) ∧ r q < 64) : ∀ (j i k : Nat) (x2 x3 : Int32), i + j = 64 → j < k → BM n stg knd siz plc r i x2 x3 → ∃ y2 y3 : Int32, f_X8_highestNow_h7 stg (nI n) mK mZ mP a1 k x2 x3 (nI i) = some (if a1 = 0 then y2 else y3) ∧ BM n stg knd siz plc r 64 y2 y3 := by
  intro j
  induction j with
  | zero =>
    intro i k x2 x3 h hk1 hB
    obtain ⟨k, rfl⟩ : ∃ z, k = z + 1 := ⟨k - 1, by omega⟩
    have hin : i = 64 := by omega
    subst hin
    rw [f_X8_highestNow_h7, if_pos (show (64 : Int32) ≤ nI 64 from Int32.le_refl _)]
    refine ⟨x2, x3, ?_, hB⟩
    by_cases h0 : a1 = 0
    · rw [if_pos h0, if_pos h0]
    · rw [if_neg h0, if_neg h0]
  | succ j ih =>
    intro i k x2 x3 h hk1 hB
    obtain ⟨k, rfl⟩ : ∃ z, k = z + 1 := ⟨k - 1, by omega⟩
    have hi : i < 64 := by omega
    have cge : ¬ (64 : Int32) ≤ nI i := nI_ge (b := 64) hi (by omega)
    obtain ⟨e1, e2, e3, e4, e5⟩ := dg_all i hi
    have keep : ¬ QC n stg knd siz plc i → BM n stg knd siz plc r (i + 1) x2 x3 := fun hq => by
      rcases hB with ⟨b1, b2, b3⟩ | ⟨s, s1, s2, s3, s4, s5⟩
      · refine Or.inl ⟨b1, b2, fun s hs => ?_⟩
        by_cases hsi : s = i
        · subst hsi; exact hq
        · exact b3 s (by omega)
      · refine Or.inr ⟨s, by omega, s2, s3, s4, fun d hd => ?_⟩
        by_cases hsi : d = i
        · subst hsi; exact fun z => absurd z hq
        · exact s5 d (by omega)
    have q1 : i / 16 < 4 := by omega
    have q2 : i / 4 % 4 < 4 := by omega
    have q3 : i % 4 < 4 := by omega
    rw [f_X8_highestNow_h7, if_neg cge, e1, e2, e3, e4, nI_1]
    have g1 : nI n ≤ nI (i / 16) ↔ ¬ i / 16 < n := by rw [nI_leI (by omega) (by omega)]; omega
    have g2 : nI n ≤ nI (i / 4 % 4) ↔ ¬ i / 4 % 4 < n := by rw [nI_leI (by omega) (by omega)]; omega
    have g3 : nI n ≤ nI (i % 4) ↔ ¬ i % 4 < n := by rw [nI_leI (by omega) (by omega)]; omega
    by_cases h1 : i / 16 < n
    · by_cases h2 : i / 4 % 4 < n
      · by_cases h3 : i % 4 < n
        · rw [if_neg (fun z => g1.mp z h1), if_neg (fun z => g2.mp z h2), if_neg (fun z => g3.mp z h3)]
          have S := v_mayStand (stg := stg) hn hk hg h1 h2 h3
          by_cases hm : MAY stg knd siz plc (i / 16) (i / 4 % 4) (i % 4)
          · have hQ : QC n stg knd siz plc i := ⟨h1, h2, h3, hm⟩
            have z1 := (hg _ h1).2.1
            have z2 := (hg _ h2).2.1
            have z3 := (hg _ h3).2.1
            obtain ⟨r1, r1b⟩ := hr _ h1
            obtain ⟨r2, r2b⟩ := hr _ h2
            obtain ⟨r3, r3b⟩ := hr _ h3
            rw [S.1 hm, Option.bind_some, if_neg i10, if_pos (okT (by omega) (by omega)), tnI (by omega), z1, r1, Option.bind_some, if_pos (okT (by omega) (by omega)), tnI (by omega), z2, r2, Option.bind_some, if_pos (okT (by omega) (by omega)), tnI (by omega), z3, r3, Option.bind_some, nI_add, nI_add]
            have eH : r (i / 16) + r (i / 4 % 4) + r (i % 4) = HC r i := rfl
            rw [eH]
            have hH : HC r i < 200 := by rw [← eH]; omega
            generalize hHv : HC r i = H at hH
            rcases hB with ⟨b1, b2, b3⟩ | ⟨s, s1, s2, s3, s4, s5⟩
            · have c1 : x2 < nI H := by rw [b1]; exact Int32.lt_of_lt_of_le (b := 0) (by decide) (nI_pos' (by omega))
              rw [if_pos c1, if_neg (Int32.not_le.mpr c1)]
              refine ih (i + 1) k _ _ (by omega) (by omega) (Or.inr ⟨i, by omega, hQ, by rw [hHv], rfl, fun d hd hq => ?_⟩)
              by_cases hdi : d = i
              · subst hdi; exact Or.inr ⟨rfl, Nat.le_refl _⟩
              · exact absurd hq (b3 d (by omega))
            · obtain ⟨t1, t2, t3, t4⟩ := id s2
              have hs200 : HC r s < 200 := by
                have := (hr _ t1).2
                have := (hr _ t2).2
                have := (hr _ t3).2
                show r (s / 16) + r (s / 4 % 4) + r (s % 4) < 200
                omega
              have hs16 := (dg_all s (by omega)).2.2.2.2
              subst s3; subst s4
              have old : (H < HC r s ∨ (H = HC r s ∧ SC s ≤ SC i)) → BM n stg knd siz plc r (i + 1) (nI (HC r s)) (nI (SC s)) := fun hh => by
                refine Or.inr ⟨s, by omega, s2, rfl, rfl, fun d hd hq => ?_⟩
                by_cases hdi : d = i
                · subst hdi; rw [hHv]; exact hh
                · exact s5 d (by omega) hq
              have new : (HC r s < H ∨ (HC r s = H ∧ SC i ≤ SC s)) → BM n stg knd siz plc r (i + 1) (nI H) (nI (SC i)) := fun hh => by
                refine Or.inr ⟨i, by omega, hQ, by rw [hHv], rfl, fun d hd hq => ?_⟩
                rw [hHv]
                by_cases hdi : d = i
                · subst hdi; exact Or.inr ⟨hHv, Nat.le_refl _⟩
                · rcases s5 d (by omega) hq with z | z <;> rcases hh with y | y <;> omega
              by_cases c1 : HC r s < H
              · have c1' : nI (HC r s) < nI H := nI_lt c1 (by omega)
                rw [if_pos c1', if_neg (Int32.not_le.mpr c1')]
                exact ih (i + 1) k _ _ (by omega) (by omega) (new (Or.inl c1))
              · have c1' : nI H ≤ nI (HC r s) := (nI_leI (by omega) (by omega)).mpr (by omega)
                rw [if_neg (Int32.not_lt.mpr c1')]
                by_cases c2 : H = HC r s
                · rw [if_pos (show nI H = nI (HC r s) by rw [c2])]
                  by_cases c3 : SC s ≤ SC i
                  · rw [if_pos ((nI_leI (by omega) (by omega)).mpr c3), if_pos c1']
                    exact ih (i + 1) k _ _ (by omega) (by omega) (old (Or.inr ⟨c2, c3⟩))
                  · rw [if_neg (fun z => c3 ((nI_leI (by omega) (by omega)).mp z)), if_pos c1']
                    have := new (Or.inr ⟨c2.symm, by omega⟩)
                    rw [c2] at this
                    exact ih (i + 1) k _ _ (by omega) (by omega) this
                · rw [if_neg (fun z => c2 ((nI_eq (by omega) (by omega)).mp z)), if_pos c1']
                  exact ih (i + 1) k _ _ (by omega) (by omega) (old (Or.inl (by omega)))
          · rw [S.2 hm, Option.bind_some, if_pos i00]
            exact ih (i + 1) k _ _ (by omega) (by omega) (keep fun z => hm z.2.2.2)
        · rw [if_neg (fun z => g1.mp z h1), if_neg (fun z => g2.mp z h2), if_pos (g3.mpr h3)]
          exact ih (i + 1) k _ _ (by omega) (by omega) (keep fun z => h3 z.2.2.1)
      · rw [if_neg (fun z => g1.mp z h1), if_pos (g2.mpr h2)]
        exact ih (i + 1) k _ _ (by omega) (by omega) (keep fun z => h2 z.2.1)
    · rw [if_pos (g1.mpr h1)]
      exact ih (i + 1) k _ _ (by omega) (by omega) (keep fun z => h1 z.1)
