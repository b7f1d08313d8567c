/-! the law's start: what the tables and the premises give -/
theorem k_arr {args : Array Value} {s : State} {ty : FieldType} (hp : ∀ C, ty ≠ .object C) (h : (Cond.arrayClass ty).before args s = true) : ∃ cA : ClassId, ArrOfT s cA ty ∧ va_RA s cA ty := by
  obtain ⟨c, k, comp, h1, h2, h3⟩ := Cond.arrayClass_spec h
  refine ⟨c, fun n z => ⟨fun k h => (by cases h), k, h2, comp, h3⟩, ?_⟩
  cases ty with
  | object C => exact absurd rfl (hp C)
  | _ => exact h1
theorem k_arrQ {args : Array Value} {s : State} {C : String} (h : (Cond.arrayOver (.object C)).before args s = true) : ∃ cA : ClassId, ArrOfT s cA (.object C) ∧ va_RA s cA (.object C) := by
  obtain ⟨comp, cA, kA, f1, f2, f3, f4, f5⟩ := Cond.arrayOver_spec h
  exact ⟨cA, fun N z => ⟨fun k h => (by cases h), kA, f3, comp, f4⟩, kA, comp, f3, f4, f1, f5⟩
theorem k_cls {args : Array Value} {s : State} (hts : ∀ w ∈ TB, w.before args s = true) : ∃ D : va_G, ∀ (c : Nat) (q : vw_C), vwCl[c]? = some q → u_Kn s q.1 q.2.1 q.2.2 (D.1 c) (D.2 c) := by
  have h : ∀ c : Nat, ∃ (cC : ClassId) (iS : Nat → Nat), ∀ q : vw_C, vwCl[c]? = some q → u_Kn s q.1 q.2.1 q.2.2 cC iS := by
    intro c
    by_cases hc : c < 7
    · have hw : ∃ n, ∀ q : vw_C, vwCl[c]? = some q → (∀ w ∈ u_ws q.1 q.2.1 q.2.2, w ∈ TB) ∧ Cond.instantiable q.1 n ∈ TB := by
        rcases (show c = 0 ∨ c = 1 ∨ c = 2 ∨ c = 3 ∨ c = 4 ∨ c = 5 ∨ c = 6 by omega) with rfl | rfl | rfl | rfl | rfl | rfl | rfl
        · exact ⟨2, fun q hq => by cases hq; exact ⟨inT0, t_114⟩⟩
        · exact ⟨5, fun q hq => by cases hq; exact ⟨inT1, t_29⟩⟩
        · exact ⟨3, fun q hq => by cases hq; exact ⟨inT3, t_93⟩⟩
        · exact ⟨6, fun q hq => by cases hq; exact ⟨inT4, t_22⟩⟩
        · exact ⟨3, fun q hq => by cases hq; exact ⟨inT6, t_128⟩⟩
        · exact ⟨12, fun q hq => by cases hq; exact ⟨inT7, t_14⟩⟩
        · exact ⟨39, fun q hq => by cases hq; exact ⟨inT8, t_548⟩⟩
      obtain ⟨n, hn⟩ := hw
      cases hq : vwCl[c]? with
      | none => exact ⟨0, fun _ => 0, fun q h => by cases h⟩
      | some q =>
        obtain ⟨h1, h2⟩ := hn q hq
        obtain ⟨cC, iS, h3⟩ := u_known hts h1 (hts _ h2)
        exact ⟨cC, iS, fun q' h => by cases h; exact h3⟩
    · exact ⟨0, fun _ => 0, fun q h => by
        have : c < 7 := (List.getElem?_eq_some_iff.mp h).1
        exact absurd this hc⟩
  exact ⟨(fun c => Classical.choose (h c), fun c => Classical.choose (Classical.choose_spec (h c))), fun c => Classical.choose_spec (Classical.choose_spec (h c))⟩
theorem k_all {args : Array Value} {s : State} (hts : ∀ w ∈ TB, w.before args s = true) (hq : va_AO "SnowBalls$Ball" s) : ∃ (D : va_G) (cI cC cB cQ : ClassId), va_K D vwCl (tysOf cI cC cB cQ) s := by
  obtain ⟨D, hD⟩ := k_cls hts
  obtain ⟨cI, i1, i2⟩ := k_arr (ty := .int) (fun C h => by cases h) (hts _ t_66)
  obtain ⟨cC, c1, c2⟩ := k_arr (ty := .char) (fun C h => by cases h) (hts _ t_65)
  obtain ⟨cB, b1, b2⟩ := k_arr (ty := .byte) (fun C h => by cases h) (hts _ t_671)
  obtain ⟨cQ, q1, q2⟩ := k_arrQ (C := "SnowBalls$Ball") (va_AO.use (A := #[]) hq)
  refine ⟨D, cI, cC, cB, cQ, hD, fun k q hk => ?_⟩
  have hk4 : k < 4 := (List.getElem?_eq_some_iff.mp hk).1
  rcases (show k = 0 ∨ k = 1 ∨ k = 2 ∨ k = 3 by omega) with rfl | rfl | rfl | rfl
  · cases hk; exact ⟨i1, i2⟩
  · cases hk; exact ⟨c1, c2⟩
  · cases hk; exact ⟨b1, b2⟩
  · cases hk; exact ⟨q1, q2⟩
