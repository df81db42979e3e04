/-! Arrays.fill -/
def gFill (M : gMem) (k : Nat) (i n v : Int) : gMem := fun k' j => if k' = k ∧ i ≤ j ∧ j < n then v else M k' j
theorem gFill_end (M : gMem) (k : Nat) {i n : Int} (v : Int) (h : n ≤ i) : gFill M k i n v = M := by
  funext k' j
  simp only [gFill]
  rw [if_neg (by omega)]
theorem gFill_step (M : gMem) (k : Nat) {i n : Int} (v : Int) (h : i < n) : gFill (gSt M k i v) k (i + 1) n v = gFill M k i n v := by
  funext k' j
  simp only [gFill, gSt]
  by_cases h1 : k' = k ∧ i + 1 ≤ j ∧ j < n
  · rw [if_pos h1, if_pos (by omega)]
  · rw [if_neg h1]
    by_cases h2 : k' = k ∧ j = i
    · rw [if_pos h2, if_pos (by omega)]
    · rw [if_neg h2, if_neg (by omega)]
theorem fill_loop {k0 n0 : Nat} {x1 : Int} (hn : n0 < 2147483648) {Q : gMem → Prop} : ∀ (m : Nat) (i : Int) (M : gMem), 0 ≤ i → i ≤ n0 → n0 - i < m → Q (gFill M k0 i n0 x1) → fJ7_fill_53178_L5 k0 n0 x1 n0 m i M Q := by
  intro m
  induction m with
  | zero => intro i M h1 h2 h3; omega
  | succ m ih =>
    intro i M h1 h2 h3 hQ
    refine ⟨⟨by omega, by omega⟩, ⟨by omega, by omega⟩, fun h => ⟨⟨h1, h⟩, fun M1 hM1 => ?_⟩, fun h => ?_⟩
    · subst hM1
      exact ih (i + 1) _ (by omega) (by omega) (by omega) (by rw [gFill_step M k0 x1 h]; exact hQ)
    · rw [gFill_end M k0 x1 (by omega)] at hQ
      exact hQ
theorem fill_all {k0 n0 : Nat} {x1 : Int} (hn : n0 < 2147483648) {M : gMem} {Q : gMem → Prop} (hQ : Q (gFill M k0 0 n0 x1)) : fJ7_fill_53178 k0 n0 x1 M Q :=
  ⟨n0 + 1, fill_loop hn (n0 + 1) 0 M (Int.le_refl _) (by omega) (by omega) hQ⟩
theorem fill_adr {dD : va_G} {cl : List vw_C} {tys : List (ClassId × FieldType)} {a sz n q : Nat} {cA : Nat → ClassId} {nl : List (String × Nat × MethodName × String)} {e : va_E} (h : gAd (dD, cl, tys, (fun _ => a), cA, nl) [.inl (0, n)] sz q) : va_A [(a, e)] sz q := by
  rcases h with ⟨k, hk, rfl⟩ | h
  · exact Or.inl ⟨0, e, rfl⟩
  · exact Or.inr h
