/-! the cuts of a FILE -/
def cuE (N : gMem) (r f a : Int) : Int := eoF (N 4 r) (N 5 r) (N 6 r) (N 7 r) (N 8 r) (N 9 r) (fun i => N 2 (600 * f + i)) (N 1 f) a
def cp (N : gMem) (r f : Int) : Nat → Int
  | 0 => 0
  | k + 1 => cuE N r f (cp N r f k)
/-- n pieces -/
def CN (N : gMem) (r f : Int) (n : Nat) : Prop := n ≤ 600 ∧ cp N r f n = N 1 f ∧ ∀ k, k < n → cp N r f k < N 1 f
def RU (N : gMem) (r : Int) : Prop := (0 < N 4 r ∧ N 4 r ≤ 4) ∧ (1 ≤ N 5 r ∧ N 5 r ≤ N 6 r ∧ N 6 r ≤ 200) ∧ (N 4 r = 2 ∨ N 4 r = 3 → 1 ≤ N 7 r ∧ N 7 r ≤ 16 ∧ 0 ≤ N 8 r ∧ N 8 r ≤ 8) ∧ (0 ≤ N 9 r ∧ N 9 r ≤ 255)
theorem ru_of {t : Nat} {M N : gMem} (hI : Inv t M N) {r : Int} (hr : 0 ≤ r ∧ r < 6) (hs : 0 < N 4 r) : RU N r := by
  obtain ⟨i1, i2, i3, i4, i5⟩ := hI.2.2.1 r hr.1 hr.2
  obtain ⟨j1, j2, j3, j4, j5, j6, j7, j8⟩ := i4 hs
  exact ⟨⟨hs, i3⟩, ⟨j4, j5, j6⟩, fun h => by have := i5 h; omega, ⟨j7, j8⟩⟩
theorem cuE_bd {N : gMem} {r f a : Int} (hR : RU N r) (ha : a < N 1 f) : a < cuE N r f a ∧ cuE N r f a ≤ N 1 f ∧ cuE N r f a ≤ a + 200 := by
  have := eoF_bd (k := N 4 r) (w := N 7 r) (b := N 8 r) (x := N 9 r) (bf := fun i => N 2 (600 * f + i)) hR.2.1.1 hR.2.1.2.1 ha
  have := hR.2.1.2.2
  unfold cuE
  omega
theorem CN_ex {N : gMem} {r f : Int} (hR : RU N r) (hL : 0 ≤ N 1 f ∧ N 1 f ≤ 600) : ∃ n, CN N r f n := by
  have key : ∀ m : Nat, (∃ n, CN N r f n) ∨ ∀ k, k ≤ m → cp N r f k < N 1 f ∧ (k : Int) ≤ cp N r f k := by
    intro m
    induction m with
    | zero =>
      by_cases h : N 1 f = 0
      · exact Or.inl ⟨0, by omega, by rw [cp]; omega, fun k hk => by omega⟩
      · refine Or.inr (fun k hk => ?_)
        have : k = 0 := by omega
        subst this
        rw [cp]
        omega
    | succ m ih =>
      rcases ih with h | h
      · exact Or.inl h
      · have h1 := h m (Nat.le_refl m)
        have h2 := cuE_bd hR h1.1
        by_cases e : cuE N r f (cp N r f m) = N 1 f
        · exact Or.inl ⟨m + 1, by omega, by rw [cp]; exact e, fun k hk => (h k (by omega)).1⟩
        · refine Or.inr (fun k hk => ?_)
          by_cases e2 : k ≤ m
          · exact h k e2
          · have : k = m + 1 := by omega
            subst this
            rw [cp]
            omega
  rcases key 601 with h | h
  · exact h
  · have := h 601 (Nat.le_refl _)
    omega
theorem CN_st {N : gMem} {r f : Int} {n : Nat} (hR : RU N r) (hn : CN N r f n) {k : Nat} (hk : k < n) : cp N r f k < cp N r f (k + 1) ∧ cp N r f (k + 1) ≤ N 1 f ∧ cp N r f (k + 1) ≤ cp N r f k + 200 := cuE_bd hR (hn.2.2 k hk)
theorem CN_le {N : gMem} {r f : Int} {n : Nat} (hR : RU N r) (hn : CN N r f n) : ∀ k : Nat, k ≤ n → (k : Int) ≤ cp N r f k ∧ cp N r f k ≤ N 1 f := by
  intro k
  induction k with
  | zero => intro h; rw [cp]; refine ⟨by omega, ?_⟩
            by_cases e : n = 0
            · have := hn.2.1; rw [e, cp] at this; omega
            · have := hn.2.2 0 (by omega); rw [cp] at this; omega
  | succ k ih => intro h; have := ih (by omega); have := CN_st hR hn (by omega : k < n); omega
theorem CN_nat {N : gMem} {r f : Int} {n : Nat} (hn : CN N r f n) {j : Int} (h0 : 0 ≤ j) (hj : j ≤ n) : ∃ k : Nat, j = k ∧ k ≤ n := ⟨j.toNat, by omega, by omega⟩
theorem sp_cutsOf {r f : Int} {N N' : gMem} {n : Nat} {Q : gMem → Prop} (hR : RU N r) (hr : 0 ≤ r ∧ r < 6) (hf : 0 ≤ f ∧ f < 8) (hL : 0 ≤ N 1 f ∧ N 1 f ≤ 600) (hb : ∀ i, 0 ≤ i → i < N 1 f → 0 ≤ N 2 (600 * f + i) ∧ N 2 (600 * f + i) < 256) (hn : CN N r f n) (hN : ∀ k, essM k → k ≠ 0 → N' k = N k)
    (hQ : ∀ N2 : gMem, (∀ k, k ≠ 0 → k ≠ 10 → N2 k = N' k) → (∀ i, i ≠ 10 → N2 0 i = N' 0 i) → N2 0 10 = n → (∀ j : Nat, j ≤ n → N2 10 j = cp N r f j) → Q N2) : fX9_cutsOf r f N' Q := by
  have key : ∀ (m j : Nat) (N2 : gMem), j ≤ n → n - j < m → (∀ k, k ≠ 0 → k ≠ 10 → N2 k = N' k) → (∀ i, i ≠ 10 → N2 0 i = N' 0 i) → N2 0 10 = j → (∀ i : Nat, i ≤ j → N2 10 i = cp N r f i) → fX9_cutsOf_L12 r f m N2 Q := by
    intro m
    induction m with
    | zero => intro j N2 g1 g2; omega
    | succ m ih =>
      intro j N2 g1 g2 g3 g4 g5 g6
      have hC : ∀ k, k = 1 ∨ k = 2 ∨ k = 4 ∨ k = 5 ∨ k = 6 ∨ k = 7 ∨ k = 8 ∨ k = 9 → N2 k = N k := fun k hk => by rw [g3 k (by omega) (by omega), hN k (by unfold essM; omega) (by omega)]
      have hj := CN_le hR hn j g1
      have hn6 := hn.1
      rw [fX9_cutsOf_L12, g5, g6 j (Nat.le_refl j), hC 1 (by simp)]
      refine ⟨⟨by omega, by omega⟩, hf, ⟨by omega, by omega⟩, ⟨by omega, by omega⟩, fun hlt => ⟨⟨by omega, by omega⟩, ?_⟩, fun hge => ?_⟩
      · have hjn : j < n := by
          rcases Nat.lt_or_ge j n with h | h
          · exact h
          · have : j = n := by omega
            subst this
            have := hn.2.1
            omega
        refine sp_endOf hr ?_ ?_ ?_ ?_ hf ?_ ?_ ?_ ⟨⟨by omega, by omega⟩, fun M1 e1 M2 e2 => ?_⟩
        · rw [hC 4 (by simp)]; exact hR.1
        · rw [hC 5 (by simp), hC 6 (by simp)]; exact hR.2.1
        · rw [hC 4 (by simp), hC 7 (by simp), hC 8 (by simp)]; exact hR.2.2.1
        · rw [hC 9 (by simp)]; exact hR.2.2.2
        · rw [hC 1 (by simp)]; exact hL.2
        · rw [hC 1 (by simp)]; omega
        · rw [hC 1 (by simp), hC 2 (by simp)]; exact hb
        · rw [hC 4 (by simp), hC 5 (by simp), hC 6 (by simp), hC 7 (by simp), hC 8 (by simp), hC 9 (by simp), hC 1 (by simp), hC 2 (by simp)] at e1
          have e1' : M1 = gSt N2 10 ((j : Int) + 1) (cp N r f (j + 1)) := e1
          subst e2
          subst e1'
          have e0 : gSt N2 10 ((j : Int) + 1) (cp N r f (j + 1)) 0 10 = j := by rw [gSt_ne _ _ _ _ _ (by decide), g5]
          rw [e0]
          refine ih (j + 1) _ hjn (by omega) (fun k h1 h2 => by rw [gSt_ne _ _ _ _ _ h1, gSt_ne _ _ _ _ _ h2, g3 k h1 h2]) (fun i hi => by rw [gSt_at, if_neg hi, gSt_ne _ _ _ _ _ (by decide), g4 i hi]) (by rw [gSt_eq]; omega) (fun i hi => ?_)
          rw [gSt_ne _ _ _ _ _ (by decide), gSt_at]
          by_cases ei : i = j + 1
          · subst ei; rw [if_pos (by omega)]
          · rw [if_neg (by omega), g6 i (by omega)]
      · have hjn : j = n := by
          rcases Nat.lt_or_ge j n with h | h
          · exact absurd (hn.2.2 j h) hge
          · omega
        subst hjn
        exact hQ N2 g3 g4 g5 g6
  intro M1 e1
  refine ⟨⟨by decide, by decide⟩, fun M3 e3 => ⟨n + 1, ?_⟩⟩
  subst e3
  subst e1
  refine key (n + 1) 0 _ (by omega) (by omega) (fun k h1 h2 => by rw [gSt_ne _ _ _ _ _ h2, gSt_ne _ _ _ _ _ h1]) (fun i hi => by rw [gSt_ne _ _ _ _ _ (by decide), gSt_at, if_neg hi]) (by rw [gSt_ne _ _ _ _ _ (by decide), gSt_eq]; rfl) (fun i hi => ?_)
  have : i = 0 := by omega
  subst this
  rw [cp]
  exact gSt_eq _ _ _ _
theorem sp_divide {t : Nat} {r f : Int} {M N M' : gMem} {k0 n : Nat} {Q : gMem → Prop} (hI : Inv t M N) (hM : ∀ k, essC k → M' k = M k) (hz : M' (k0 + 2) 0 = 0) (hk : k0 = 13 ∨ k0 = 16) (hr : 0 ≤ r ∧ r < 6) (hs : 0 < N 4 r) (hf : 0 ≤ f ∧ f < 8) (hn : CN N r f n)
    (hQ : ∀ M2 : gMem, (∀ k, k ≠ k0 → k ≠ k0 + 1 → k ≠ k0 + 2 → M2 k = M' k) → M2 k0 3 = n → M2 k0 4 = f → (∀ j : Nat, j ≤ n → M2 (k0 + 2) j = cp N r f j) → Q M2) : fX0_divide k0 (7 + r.toNat) f M' Q := by
  have hR := ru_of hI hr hs
  obtain ⟨a1, a2, a3, a4⟩ := hI.1 f hf.1 hf.2
  have hIR := hI.2.2.1 r hr.1 hr.2
  simp only at hIR
  have hn6 := hn.1
  have key : ∀ (m j : Nat) (M2 : gMem), j ≤ n → n - j < m → (∀ k, k ≠ k0 → k ≠ k0 + 1 → k ≠ k0 + 2 → M2 k = M' k) → M2 k0 3 = j → M2 k0 4 = f → (∀ i : Nat, i ≤ j → M2 (k0 + 2) i = cp N r f i) → (N 4 r = 2 ∨ N 4 r = 3 → ∀ i, 0 ≤ i → i < N 1 f → M2 (k0 + 1) i = smA (fun i => N 2 (600 * f + i)) (N 7 r) i) → fX0_divide_L23 k0 (7 + r.toNat) f m M2 Q := by
    intro m
    induction m with
    | zero => intro j M2 g1 g2; omega
    | succ m ih =>
      intro j M2 g1 g2 g3 g4 g5 g6 g7
      have hC : ∀ k, essC k → M2 k = M k := fun k he => by rw [g3 k (by unfold essC at he; omega) (by unfold essC at he; omega) (by unfold essC at he; omega), hM k he]
      have hj := CN_le hR hn j g1
      have c3 : M2 3 = M 3 := hC 3 (by simp [essC])
      have c2 : M2 2 = M 2 := hC 2 (by simp [essC])
      have ck : M2 (7 + r.toNat) = M (7 + r.toNat) := hC _ (by unfold essC; omega)
      have fin : cp N r f j = N 1 f → Q M2 := fun e => by
        have hjn : j = n := by
          rcases Nat.lt_or_ge j n with h | h
          · have := hn.2.2 j h; omega
          · omega
        subst hjn
        exact hQ M2 g3 g4 g5 g6
      rw [fX0_divide_L23, g4, g6 j (Nat.le_refl j), c3, a1]
      refine ⟨⟨by omega, by omega⟩, fun hlt6 => ⟨⟨by omega, by omega⟩, hf, ⟨by omega, by omega⟩, ⟨by omega, by omega⟩, fun hlt => ⟨⟨by omega, by omega⟩, ?_⟩, fun hge => fin (by omega)⟩, fun hge => fin (by omega)⟩
      have hjn : j < n := by
        rcases Nat.lt_or_ge j n with h | h
        · exact h
        · have : j = n := by omega
          subst this
          have := hn.2.1
          omega
      refine sp_endOfPiece (hR := by rw [ck]; exact hIR) hs hf g5 (by rw [c3, a1]) a3 ⟨by omega, hlt⟩ (fun i h1 h2 => by rw [c2]; exact (a4 i h1 h2).symm) g7 ⟨⟨by omega, by omega⟩, fun M1 e1 M3 e3 => ?_⟩
      have e1' : M1 = gSt M2 (k0 + 2) ((j : Int) + 1) (cp N r f (j + 1)) := e1
      subst e3
      subst e1'
      have e0 : gSt M2 (k0 + 2) ((j : Int) + 1) (cp N r f (j + 1)) k0 3 = j := by rw [gSt_ne _ _ _ _ _ (by omega), g4]
      rw [e0]
      refine ih (j + 1) _ hjn (by omega) (fun k h1 h2 h3 => by rw [gSt_ne _ _ _ _ _ h1, gSt_ne _ _ _ _ _ h3, g3 k h1 h2 h3]) (by rw [gSt_eq]; omega) (by rw [gSt_at, if_neg (by decide), gSt_ne _ _ _ _ _ (by omega), g5]) (fun i hi => ?_) (fun h i i1 i2 => by rw [gSt_ne _ _ _ _ _ (by omega), gSt_ne _ _ _ _ _ (by omega)]; exact g7 h i i1 i2)
      rw [gSt_ne _ _ _ _ _ (by omega), gSt_at]
      by_cases ei : i = j + 1
      · subst ei; rw [if_pos (by omega)]
      · rw [if_neg (by omega), g6 i (by omega)]
  have go : ∀ M1 : gMem, (∀ k, k ≠ k0 + 1 → M1 k = M' k) → (N 4 r = 2 ∨ N 4 r = 3 → ∀ i, 0 ≤ i → i < N 1 f → M1 (k0 + 1) i = smA (fun i => N 2 (600 * f + i)) (N 7 r) i) → ∀ M2, M2 = gSt M1 k0 4 f → ∀ M3, M3 = gSt M2 k0 3 0 → ∃ m, fX0_divide_L23 k0 (7 + r.toNat) f m M3 Q := by
    intro M1 h1 h2 M2 e2 M3 e3
    subst e3
    subst e2
    refine ⟨n + 1, key (n + 1) 0 _ (by omega) (by omega) (fun k g1 g2 g3 => by rw [gSt_ne _ _ _ _ _ g1, gSt_ne _ _ _ _ _ g1, h1 k g2]) (by rw [gSt_eq]; rfl) (by rw [gSt_at, if_neg (by decide), gSt_eq]) (fun i hi => ?_) (fun h i i1 i2 => by rw [gSt_ne _ _ _ _ _ (by omega), gSt_ne _ _ _ _ _ (by omega)]; exact h2 h i i1 i2)⟩
    have : i = 0 := by omega
    subst this
    rw [cp, gSt_ne _ _ _ _ _ (by omega), gSt_ne _ _ _ _ _ (by omega), h1 _ (by omega)]
    exact hz
  have ck : M' (7 + r.toNat) = M (7 + r.toNat) := hM _ (by unfold essC; omega)
  have c2 : M' 2 = M 2 := hM 2 (by simp [essC])
  have c3 : M' 3 = M 3 := hM 3 (by simp [essC])
  obtain ⟨i1, i2, i3, i4, i5⟩ := id hIR
  refine sp_hasWindow (by rw [ck]; exact ⟨by omega, by omega⟩) (fun h => q1 ?_) (fun h => q0 ?_)
  · rw [ck] at h
    have hk : N 4 r = 2 ∨ N 4 r = 3 := by omega
    obtain ⟨w1, w2, w3, w4, -⟩ := i5 hk
    refine sp_addUp (by omega) (by omega) hf (by rw [c3]; omega) (by rw [ck]; exact w1) ⟨w3, w4⟩ (fun M1 e1 e2 => go M1 e1 (fun _ i h1 h2 => ?_))
    rw [e2 i h1 (by rw [c3]; omega), c2]
    unfold smA
    rw [smE_congr w3 (fun j g1 g2 => (a4 j g1 (by omega)).symm)]
  · rw [ck] at h
    exact go M' (fun _ _ => rfl) (fun hk => by omega)
