/-- what a roll keeps -/
theorem roll_inv {B n b a s : Nat} {stg wet : Int32} {dep : Nat → Int32} {knd : Nat → Nat} {siz plc onn axs : Nat → Int32} (h : OKS B n b knd siz plc onn axs) {mD mK mZ mP mO mX : Nat → Int32} (hg : AG (fun i => i < n ∨ i = b) knd siz plc onn axs mK mZ mP mO mX) (hd : DOK dep mD) {w : Nat} (hw : w ≤ 9 ∧ wet = nI w) (hB : B < 2 ^ 18) (ha : a < n ∨ a = b) (hs : s < 4) (hc : CanR n stg knd siz plc onn axs a s) :
    OKS (B + 9) n b knd (pSiz wet dep knd siz plc a s) (pPlc wet dep knd siz plc a s) onn (pAxs knd axs a s) ∧
    AG (fun i => i < n ∨ i = b) knd (pSiz wet dep knd siz plc a s) (pPlc wet dep knd siz plc a s) onn (pAxs knd axs a s) mK (upd mZ a (pSiz wet dep knd siz plc a s a)) (upd mP a (pPlc wet dep knd siz plc a s a)) mO (upd mX a (pAxs knd axs a s a)) ∧
    DOK (pDep wet dep knd siz plc a s) (upd mD (pT plc a s) (pDep wet dep knd siz plc a s (pT plc a s))) := by
  obtain ⟨hn, hb, -, hk, hstk⟩ := h
  have hc0 := hc
  obtain ⟨c1, c2, c3, -, -, p, t, hp, e, ht, et, hfree⟩ := hc
  obtain ⟨w9, rfl⟩ := hw
  have hBa := hk a ha
  obtain ⟨hk5, h0 | ⟨z, p', z1, z2, ez, -, -⟩, hx⟩ := hBa
  · rw [h0.1] at c1; exact absurd c1 (by decide)
  obtain ⟨d, d9, ed, emd⟩ := hd t ht
  have eT : pT plc a s = t := by rw [pT, e, tnI (by omega), et, tnI (by omega)]
  have eZ : (siz a).toNatClampNeg = z := by rw [ez, tnI (by omega)]
  have eK : pK (nI w) dep knd siz plc a s = tkN (knd a) z d w := by rw [pK, eT, eZ, ed, tnI (by omega), tnI (by omega)]
  have hle := tkN_le (knd a) z d w
  generalize hT : tkN (knd a) z d w = tk at eK hle
  have eZ2 : pZ (nI w) dep knd siz plc a s = z + tk := by rw [pZ, eZ, eK]
  have ne : ∀ (f : Nat → Int32) (x : Int32) (i : Nat), i ≠ a → upd f a x i = f i := fun f x i hi => upd_ne f x hi
  have axo : ∀ i : Nat, i ≠ a → pAxs knd axs a s i = axs i := by
    intro i hi
    rw [pAxs]
    by_cases h1 : knd a = 1
    · rw [if_pos h1, upd_ne _ _ hi]
    · rw [if_neg h1]
  have hax : pAxs knd axs a s a = -1 ∨ (knd a = 1 ∧ (pAxs knd axs a s a = 0 ∨ pAxs knd axs a s a = 1)) := by
    rw [pAxs]
    by_cases h1 : knd a = 1
    · right
      refine ⟨h1, ?_⟩
      rw [if_pos h1, upd_same]
      have : s % 2 = 0 ∨ s % 2 = 1 := by omega
      rcases this with q | q <;> rw [q]
      · exact Or.inl rfl
      · exact Or.inr rfl
    · rw [if_neg h1]
      rcases hx with h | h
      · exact Or.inl h
      · exact absurd h.1 h1
  have hnew : BOK (B + 9) (knd a) (pSiz (nI w) dep knd siz plc a s a) (pPlc (nI w) dep knd siz plc a s a) (onn a) (pAxs knd axs a s a) := by
    refine ⟨hk5, ?_, hax⟩
    rw [pSiz, pPlc, upd_same, upd_same]
    by_cases hcr : pCr (nI w) dep knd siz plc a s = true
    · rw [if_pos hcr, if_pos hcr]; exact Or.inl ⟨rfl, rfl, c2⟩
    · rw [if_neg hcr, if_neg hcr, eZ2, eT]; exact Or.inr ⟨z + tk, t, by omega, by omega, rfl, ht, rfl⟩
  have plo : ∀ i : Nat, i ≠ a → pPlc (nI w) dep knd siz plc a s i = plc i := fun i hi => ne _ _ i hi
  have szo : ∀ i : Nat, i ≠ a → pSiz (nI w) dep knd siz plc a s i = siz i := fun i hi => ne _ _ i hi
  refine ⟨⟨hn, hb, by omega, fun i hi => ?_, ?_⟩, fun i hi => ?_, fun q hq => ?_⟩
  · by_cases hia : i = a
    · subst hia; exact hnew
    · rw [szo i hia, plo i hia, axo i hia]; exact (hk i hi).up (by omega)
  · obtain ⟨s1, s2, s3, s4⟩ := hstk
    refine ⟨fun i hi ho => ?_, s2, s3, fun i j hi hj oi oj pi pij => ?_⟩
    · have hia : i ≠ a := fun q => by subst q; exact ho c2
      obtain ⟨j, j1, j2, j3, j4⟩ := s1 i hi ho
      have hja : j ≠ a := fun q => by subst q; exact c3 i hi j2
      exact ⟨j, j1, j2, by rw [plo j hja, plo i hia]; exact j3, by rw [plo i hia]; exact j4⟩
    · by_cases hia : i = a
      · by_cases hja : j = a
        · rw [hia, hja]
        · exfalso
          subst hia
          rw [plo j hja, pPlc, upd_same] at pij
          rw [pPlc, upd_same] at pi
          by_cases hcr : pCr (nI w) dep knd siz plc i s = true
          · rw [if_pos hcr] at pi; exact pi rfl
          · rw [if_neg hcr, eT] at pij
            exact hfree j hj pij.symm
      · by_cases hja : j = a
        · exfalso
          subst hja
          rw [plo i hia] at pi
          rw [plo i hia, pPlc, upd_same] at pij
          by_cases hcr : pCr (nI w) dep knd siz plc j s = true
          · rw [if_pos hcr] at pij; exact pi pij
          · rw [if_neg hcr, eT] at pij
            exact hfree i hi pij
        · rw [plo i hia] at pi
          rw [plo i hia, plo j hja] at pij
          exact s4 i j hi hj oi oj pi pij
  · obtain ⟨g1, g2, g3, g4, g5⟩ := hg i hi
    by_cases hia : i = a
    · subst hia; exact ⟨g1, upd_same _ _ _, upd_same _ _ _, g4, upd_same _ _ _⟩
    · rw [szo i hia, plo i hia, axo i hia, ne _ _ i hia, ne _ _ i hia, ne _ _ i hia]; exact ⟨g1, g2, g3, g4, g5⟩
  · rw [eT]
    by_cases hqt : q = t
    · subst hqt
      refine ⟨d - tk, by omega, ?_, ?_⟩
      · rw [pDep, eT, eK, upd_same, ed]; exact pk_sub hle
      · rw [upd_same, pDep, eT, eK, upd_same, ed]; exact pk_sub hle
    · obtain ⟨d', h1, h2, h3⟩ := hd q hq
      exact ⟨d', h1, by rw [pDep, eT, upd_ne _ _ hqt]; exact h2, by rw [upd_ne _ _ hqt]; exact h3⟩
