/-! the class: take -/
theorem SR_inc {M M' : gMem} {S pb pr H : Int → Int} {p : Int} (h : SR M S pb pr H) (hs : 0 < S p) (hp : 1 ≤ p ∧ p ≤ 300) (e : ∀ k, 22 ≤ k → k ≤ 26 → M' k = M k) (e7 : ∀ q, M' 27 q = if q = p then M 27 p + 1 else M 27 q) : SR M' S pb pr (fun q => if q = p then H p + 1 else H q) := by
  unfold SR
  rw [e 22 (by omega) (by omega), e 23 (by omega) (by omega), e 24 (by omega) (by omega), e 25 (by omega) (by omega), e 26 (by omega) (by omega)]
  refine ⟨fun q a b => ?_, h.2⟩
  obtain ⟨i1, i2, i3, i4⟩ := h.1 q a b
  refine ⟨i1, i2, fun z => ?_, fun z => ?_⟩
  · have : ¬ q = p := fun c => by subst c; omega
    rw [e7, if_neg this]
    exact i3 z
  · obtain ⟨j1, j2, j3, j4, j5, j6, j7, j8⟩ := i4 z
    refine ⟨j1, j2, ?_, ?_, j5, j6, j7, j8⟩
    · show M' 27 q = if q = p then H p + 1 else H q
      rw [e7]
      by_cases c : q = p
      · subst c; rw [if_pos rfl, if_pos rfl, j3]
      · rw [if_neg c, if_neg c]; exact j3
    · show 0 < if q = p then H p + 1 else H q
      by_cases c : q = p
      · subst c; rw [if_pos rfl]; omega
      · rw [if_neg c]; exact j4
theorem SR_same {M M' : gMem} {S pb pr H : Int → Int} (h : SR M S pb pr H) (e : ∀ k, 23 ≤ k → k ≤ 27 → M' k = M k) (e9 : M' 22 9 = M 22 9) (e10 : M' 22 10 = M 22 10) : SR M' S pb pr H := by
  unfold SR
  rw [e9, e10, e 23 (by omega) (by omega), e 24 (by omega) (by omega), e 25 (by omega) (by omega), e 26 (by omega) (by omega), e 27 (by omega) (by omega)]
  exact h
theorem SR_used {M : gMem} {S pb pr H : Int → Int} (h : SR M S pb pr H) : 0 ≤ M 22 10 ∧ M 22 10 ≤ Wt H S := by
  rw [h.2.2.2]
  refine ⟨sI_nonneg (fun i a b => (h.1 (i + 1) (by omega) (by omega)).1), ?_⟩
  unfold Wt
  refine sI_le (fun i a b => ?_)
  obtain ⟨i1, i2, i3, i4⟩ := h.1 (i + 1) (by omega) (by omega)
  by_cases z : S (i + 1) = 0
  · rw [z, Int.mul_zero]; omega
  · have := (i4 (by omega)).2.2.2.1
    have := Int.mul_le_mul_of_nonneg_right (by omega : 1 ≤ H (i + 1)) i1
    omega
theorem Wt_0 {M N : gMem} (h : IS M N) : Wt (N 19) (N 16) ≤ 4800 := by
  obtain ⟨s1, s2, s3, s4, s5⟩ := h
  refine Int.le_trans (Int.le_of_eq ?_) (kc_sum s4)
  unfold Wt
  refine sI_congr (fun i a b => ?_)
  obtain ⟨i1, i2, i3, i4⟩ := s1 (i + 1) (by omega) (by omega)
  have h5 := s5 (i + 1) (by omega) (by omega)
  by_cases z : N 16 (i + 1) = 0
  · rw [z, Int.mul_zero, Int.mul_zero]
  · have := (i4 (by omega)).2.2.1
    rw [← this, h5]
theorem hd_le {M N : gMem} (h : IS M N) {p : Int} (a : 1 ≤ p) (b : p ≤ 300) : (0 < N 16 p → N 19 p = kc (N 20) (N 21) (N 22) p ∧ 0 < N 19 p ∧ N 19 p ≤ 4800) ∧ (N 16 p = 0 → kc (N 20) (N 21) (N 22) p = 0) := by
  obtain ⟨s1, s2, s3, s4, s5⟩ := h
  obtain ⟨i1, i2, i3, i4⟩ := s1 p a b
  have h5 := s5 p a b
  have hb := kc_bd s4 p
  refine ⟨fun z => ?_, fun z => ?_⟩
  · obtain ⟨-, -, j3, j4, -⟩ := i4 z
    omega
  · have := i3 z
    omega
theorem sp_take {t : Nat} {M N M1 : gMem} (hI : Inv t M N) {r f : Int} {n : Nat} {Q : Int → gMem → Prop} (hr : 0 ≤ r ∧ r < 6) (hs : 0 < N 4 r) (hf : 0 ≤ f ∧ f < 8) (hn : CN N r f n) (hM1 : ∀ k, k ≠ 13 → k ≠ 14 → k ≠ 15 → M1 k = M k) (m3 : M1 13 3 = n) (m4 : M1 13 4 = f) (m5 : ∀ j : Nat, j ≤ n → M1 15 j = cp N r f j)
    (hX : (∀ w, LK N r f n w → 300 < ndS (N 16) + w) → ∀ M2 : gMem, (∀ k, (k < 22 ∨ 27 < k) → k ≠ 37 → M2 k = M1 k) → (∀ i, i ≠ 9 → i ≠ 10 → M2 22 i = M1 22 i) → SR M2 (N 16) (N 17) (N 18) (N 19) → Q (-2) M2)
    (hY : ∀ (Z : gMem) (v : Int), CS N r f n Z → LK N r f n v → ndS (N 16) + v ≤ 300 → ∀ M2 : gMem, (∀ k, (k < 22 ∨ 27 < k) → k ≠ 37 → k ≠ 38 → k ≠ 29 + f.toNat → M2 k = M1 k) → M2 22 11 = Z 0 27 → SR M2 (fun p => if 0 < Z 19 p - kt (N 20) (N 21) (N 22) p f then Z 16 p else 0) (Z 17) (Z 18) (fun p => Z 19 p - kt (N 20) (N 21) (N 22) p f) → (∀ g, M2 38 g = if g = f then (n : Int) else M 38 g) → (∀ k : Nat, k < n → M2 (29 + f.toNat) k = Z 22 (600 * f + k)) → Q v M2) : fX5_take 13 f M1 Q := by
  have hIS := hI.2.2.2.2.1
  obtain ⟨s1, s2, s3, s4, s5⟩ := id hIS
  have hG := hI.2.2.2.2.2.1
  have hn6 := hn.1
  have hRU := ru_of hI hr hs
  have hW := Wt_0 hIS
  have hL := (by_of hI hf).1
  refine ⟨n + 1, ?_⟩
  have key : ∀ (w k : Nat) (Z Mk : gMem), k ≤ n → n - k < w → CS N r f k Z → (∀ k', (k' < 22 ∨ 27 < k') → k' ≠ 37 → Mk k' = M1 k') → (∀ i, i ≠ 9 → i ≠ 10 → i ≠ 11 → Mk 22 i = M1 22 i) → Mk 22 11 = Z 0 27 → SR Mk (Z 16) (Z 17) (Z 18) (Z 19) → (∀ i : Nat, i < k → Mk 37 i = Z 22 (600 * f + i)) → fX5_take_L14 13 w k Mk (fun x5_17 M_18 =>
  (fX5_release 37 600 x5_17 M_18 (fun M_19 =>
    (∀ M_20, M_20 = gSt M_19 22 11 (M1 22 11) → Q (-2) M_20)))) (fun M_21 =>
  ((0 ≤ f ∧ f < 8) ∧ ((0 ≤ f ∧ f < 8) ∧ (fX5_release (29 + (f).toNat) 600 (M_21 38 f) M_21 (fun M_24 =>
    ((0 ≤ f ∧ f < 8) ∧ (0 ≤ (0 : Int) ∧ 0 ≤ (0 : Int) ∧ 0 ≤ (M_24 13 3) ∧ (0 : Int) + (M_24 13 3) ≤ 600 ∧ (0 : Int) + (M_24 13 3) ≤ 600 ∧ ∀ M_26, M_26 = gCp M_24 37 (29 + (f).toNat) 0 0 (M_24 13 3) → ((0 ≤ f ∧ f < 8) ∧ ∀ M_33, M_33 = gSt M_26 38 f (M_26 13 3) → Q ((M_21 22 9) - (M1 22 9)) M_33)))))))) Q := by
    intro w
    induction w with
    | zero => intro k Z Mk g1 g2; omega
    | succ w ih =>
      intro k Z Mk g1 g2 g3 g4 g5 g6 g7 g8
      obtain ⟨c1, c2, c3, ⟨v, c4, c4'⟩, c5, c6, c7, c8, c9⟩ := CS_CI hI hr hs hf hn g1 g3
      have used := SR_used g7
      have hck := CN_le hRU hn k g1
      have d13 : Mk 13 = M1 13 := g4 13 (by omega) (by decide)
      have d15 : Mk 15 = M1 15 := g4 15 (by omega) (by decide)
      have d2 : Mk 2 = M 2 := by rw [g4 2 (by omega) (by decide), hM1 2 (by decide) (by decide) (by decide)]
      have hRb : ∀ p, 1 ≤ p → p ≤ 300 → 0 < Z 16 p → Z 19 p ≤ 100000 := fun p a b z => by
        obtain ⟨e1, e2, e3, e4⟩ := c1 p a b
        have cb := cn_bd (fun i => Z 22 (600 * f + i)) p k
        have hl := hd_le hIS a b
        have nn := (s1 p a b).1
        by_cases y : N 16 p = 0
        · have := e3 y z; omega
        · have := (e2 (by omega)).2.2.2
          have := hl.1 (by omega)
          omega
      rw [fX5_take_L14, d13, m3]
      refine ⟨⟨by omega, by omega⟩, ⟨by omega, by omega⟩, fun hlt => ?_, fun hge => ?_⟩
      · have hk : k < n := by omega
        obtain ⟨u1, u2⟩ := pc_ok hI hr hs hf hn hk
        refine sp_startC (f := f) (by rw [d13, m4]) ⟨by omega, by omega⟩ ⟨⟨by omega, by omega⟩, ⟨by omega, by omega⟩, ?_⟩
        have b1 : Mk (13 + 2) (k : Int) = cp N r f k := by rw [show Mk (13 + 2) = M1 15 from d15, m5 k (by omega)]
        have b2 : Mk (13 + 2) ((k : Int) + 1) = cp N r f (k + 1) := by rw [show Mk (13 + 2) = M1 15 from d15]; exact m5 (k + 1) (by omega)
        rw [b1, b2]
        have ckn := CN_le hRU hn (k + 1) (by omega)
        have ub : Mk 22 10 + pL N r f k ≤ 5400 := by unfold pL; omega
        refine sp_share (s := pS N r f k) (l := pL N r f k) (j := 600 * f + k) hI d2 u2 g7 ub hRb (fun p la M2 m1 m2 m3' => ?_) (fun hno p lf M2 m1 m2 m3' m4' => ?_) (fun hno hall M2 m1 m2 => ?_)
        · obtain ⟨lp, la1, la2⟩ := id la
          have hpl : 0 < Z 16 p := by have := la1.1; unfold pL at this; omega
          refine ⟨⟨by omega, by omega⟩, fun g => by omega, fun _ => ⟨by omega, by omega, fun M3 e3 => ⟨⟨by omega, by omega⟩, fun M4 e4 => ?_⟩⟩⟩
          have o27 : M2 27 = Mk 27 := m1 27 (by decide)
          rw [o27] at e3
          have ko : ∀ k', k' ≠ 27 → k' ≠ 37 → M4 k' = M2 k' := fun k' h1 h2 => by rw [e4, gSt_ne _ _ _ _ _ h2, e3, gSt_ne _ _ _ _ _ h1]
          have hst : Step N r f k Z (coF Z (600 * f + k) (pL N r f k) (pP N r f k) p) := Or.inl ⟨p, la, rfl⟩
          refine ih (k + 1) (coF Z (600 * f + k) (pL N r f k) (pP N r f k) p) M4 (by omega) (by omega) ⟨Z, g3, hst⟩ (fun k' h1 h2 => by rw [ko k' (by omega) h2, m1 k' (by omega), g4 k' h1 h2]) (fun i h9 h10 h11 => by rw [ko 22 (by decide) (by decide), m2 i h11, g5 i h9 h10 h11]) ?_ ?_ (fun i hi => ?_)
          · rw [ko 22 (by decide) (by decide), m3', g6, coF_0, if_pos rfl]
            rfl
          · have e19 : coF Z (600 * f + k) (pL N r f k) (pP N r f k) p 19 = fun q => if q = p then Z 19 p + 1 else Z 19 q := by funext q; rw [coF_19]
            rw [coF_o (k := 16) (by decide), coF_o (k := 17) (by decide), coF_o (k := 18) (by decide), e19]
            have hS2 : SR M2 (Z 16) (Z 17) (Z 18) (Z 19) := SR_same g7 (fun k' h1 h2 => m1 k' (by omega)) (m2 9 (by decide)) (m2 10 (by decide))
            refine SR_inc hS2 hpl lp (fun k' h1 h2 => ko k' (by omega) (by omega)) (fun q => ?_)
            rw [e4, gSt_ne _ _ _ _ _ (by decide), e3, gSt_at, o27]
          · rw [e4, gSt_at, coF_22]
            by_cases c : i = k
            · subst c; rw [if_pos rfl, if_pos rfl]
            · rw [if_neg (by omega), if_neg (by omega), e3, gSt_ne _ _ _ _ _ (by decide), m1 37 (by decide), g8 i (by omega)]
        · obtain ⟨lp, lf1, lf2⟩ := id lf
          refine ⟨⟨by omega, by omega⟩, fun g => by omega, fun _ => ⟨by omega, by omega, fun M3 e3 => ⟨⟨by omega, by omega⟩, fun M4 e4 => ?_⟩⟩⟩
          have hS3 := m4' M3 e3
          have ko : ∀ k', k' ≠ 27 → k' ≠ 37 → M4 k' = M2 k' := fun k' h1 h2 => by rw [e4, gSt_ne _ _ _ _ _ h2, e3, gSt_ne _ _ _ _ _ h1]
          have hst : Step N r f k Z (coN Z (N 2) (600 * f + k) (pS N r f k) (pL N r f k) (pP N r f k) p) := Or.inr ⟨hno, p, lf, rfl⟩
          refine ih (k + 1) (coN Z (N 2) (600 * f + k) (pS N r f k) (pL N r f k) (pP N r f k) p) M4 (by omega) (by omega) ⟨Z, g3, hst⟩ (fun k' h1 h2 => by rw [ko k' (by omega) h2, m1 k' (by omega), g4 k' h1 h2]) (fun i h9 h10 h11 => by rw [ko 22 (by decide) (by decide), m2 i h9 h10 h11, g5 i h9 h10 h11]) ?_ ?_ (fun i hi => ?_)
          · rw [ko 22 (by decide) (by decide), m3', g6, coN_0, if_pos rfl]
            rfl
          · exact SR_same hS3 (fun k' h1 h2 => by rw [e4, gSt_ne _ _ _ _ _ (by omega)]) (by rw [e4, gSt_ne _ _ _ _ _ (by decide)]) (by rw [e4, gSt_ne _ _ _ _ _ (by decide)])
          · rw [e4, gSt_at, coN_22]
            by_cases c : i = k
            · subst c; rw [if_pos rfl, if_pos rfl]
            · rw [if_neg (by omega), if_neg (by omega), e3, gSt_ne _ _ _ _ _ (by decide), m1 37 (by omega), g8 i (by omega)]
        · -- no room: what came goes again
          refine ⟨rg_m1, fun _ => ?_, fun g => absurd rfl g⟩
          have hS2 : SR M2 (Z 16) (Z 17) (Z 18) (Z 19) := SR_same g7 (fun k' h1 h2 => m1 k' (by omega)) (m2 9 (by decide)) (m2 10 (by decide))
          have o37 : ∀ i : Nat, i < k → M2 37 i = Z 22 (600 * f + i) := fun i hi => by rw [m1 37 (by decide), g8 i hi]
          have ecn : ∀ p, cn (M2 37) k p = cn (fun i => Z 22 (600 * f + i)) k p := fun p => cn_congr (fun i i1 i2 => by
            have := o37 i.toNat (by omega)
            rw [show ((i.toNat : Nat) : Int) = i by omega] at this
            exact this)
          refine sp_release hS2 (by rw [m2 10 (by decide)]; unfold pL at ub; omega) (by decide) (by omega) (fun i hi => by rw [o37 i hi]; exact (c3 i hi).1) (fun p a b => ?_) (fun M3 r1 r2 r3 M4 e4 => ?_)
          · rw [ecn]
            obtain ⟨e1, e2, e3, e4⟩ := c1 p a b
            refine ⟨fun z => ⟨?_, hRb p a b z⟩, e4⟩
            have hl := hd_le hIS a b
            have nn := (s1 p a b).1
            by_cases y : N 16 p = 0
            · have := e3 y z; omega
            · have := (e2 (by omega)).2.2.2
              have := hl.1 (by omega)
              omega
          · simp only [ecn] at r3
            have hS3 : SR M3 (N 16) (N 17) (N 18) (N 19) := by
              have q16 : ∀ p, 1 ≤ p → p ≤ 300 → N 16 p = if 0 < Z 19 p - cn (fun i => Z 22 (600 * f + i)) k p then Z 16 p else 0 := fun p a b => by
                obtain ⟨e1, e2, e3, e4⟩ := c1 p a b
                have hl := hd_le hIS a b
                have nn := (s1 p a b).1
                by_cases y : N 16 p = 0
                · by_cases z : Z 16 p = 0
                  · rw [y, z]; split <;> rfl
                  · have := e3 y (by omega)
                    rw [if_neg (by omega)]; exact y
                · obtain ⟨w1, -, -, w4⟩ := e2 (by omega)
                  have := hl.1 (by omega)
                  rw [if_pos (by omega), w1]
              refine SR_congr r3 q16 (fun p a b z => ?_)
              obtain ⟨e1, e2, e3, e4⟩ := c1 p a b
              rw [← q16 p a b] at z ⊢
              obtain ⟨w1, w2, w3, w4⟩ := e2 z
              exact ⟨w2.symm, by omega, fun i i1 i2 => (w3 i i1 i2).symm⟩
            refine hX (fun w' hw' => ?_) M4 (fun k' h1 h2 => ?_) (fun i h9 h10 => ?_) ?_
            · have hlk : LK N r f (k + 1) (v + 1) := ⟨v, c4, Or.inr ⟨fun g => ?_, rfl⟩⟩
              · have := LK_le hlk (by omega) hw'
                have full : ndS (Z 16) = 300 := by
                  unfold ndS
                  rw [sI_congr (h := fun _ => 1) (fun i i1 i2 => by
                    have := hall (i + 1) (by omega) (by omega)
                    have := (c1 (i + 1) (by omega) (by omega)).1
                    rw [if_pos (by omega)]), sI_const]
                  rfl
                omega
              · have hci : CI N r f k Z := CS_CI hI hr hs hf hn g1 g3
                obtain ⟨q, q1, q2⟩ := (CI_has hci (by unfold pL; omega)).mpr g
                exact hno q q1.1 q1.2 q2
            · rw [e4, gSt_ne _ _ _ _ _ (by omega), r1 k' (by omega) (by omega) (by omega) (by omega), m1 k' (by omega), g4 k' h1 h2]
            · by_cases c : i = 11
              · rw [c, e4, gSt_eq]
              · rw [e4, gSt_at, if_neg c, r2 i h9 h10, m2 i c, g5 i h9 h10 c]
            · exact SR_same hS3 (fun k' h1 h2 => by rw [e4, gSt_ne _ _ _ _ _ (by omega)]) (by rw [e4, gSt_at, if_neg (by decide)]) (by rw [e4, gSt_at, if_neg (by decide)])
      · have hkn : k = n := by omega
        subst hkn
        refine ⟨hf, hf, ?_⟩
        have d38 : Mk 38 = M 38 := by rw [g4 38 (by omega) (by decide), hM1 38 (by decide) (by decide) (by decide)]
        have dr : Mk (29 + f.toNat) = M (29 + f.toNat) := by rw [g4 _ (by omega) (by omega), hM1 _ (by omega) (by omega) (by omega)]
        have res : Mk 22 9 - M1 22 9 = v := by
          have e1 : Mk 22 9 = ndS (Z 16) := g7.2.2.1
          have e2 : M1 22 9 = ndS (N 16) := by rw [hM1 22 (by decide) (by decide) (by decide)]; exact s3.1
          omega
        have last : ∀ M2 : gMem, (∀ k', k' ≠ 22 → k' ≠ 23 → k' ≠ 24 → k' ≠ 27 → M2 k' = Mk k') → (∀ i, i ≠ 9 → i ≠ 10 → M2 22 i = Mk 22 i) → SR M2 (fun p => if 0 < Z 19 p - kt (N 20) (N 21) (N 22) p f then Z 16 p else 0) (Z 17) (Z 18) (fun p => Z 19 p - kt (N 20) (N 21) (N 22) p f) → ((0 ≤ f ∧ f < 8) ∧ (0 ≤ (0 : Int) ∧ 0 ≤ (0 : Int) ∧ 0 ≤ (M2 13 3) ∧ (0 : Int) + (M2 13 3) ≤ 600 ∧ (0 : Int) + (M2 13 3) ≤ 600 ∧ ∀ M_26, M_26 = gCp M2 37 (29 + (f).toNat) 0 0 (M2 13 3) → ((0 ≤ f ∧ f < 8) ∧ ∀ M_33, M_33 = gSt M_26 38 f (M_26 13 3) → Q ((Mk 22 9) - (M1 22 9)) M_33))) := by
          intro M2 r1 r2 r3
          have e13 : M2 13 3 = k := by rw [r1 13 (by decide) (by decide) (by decide) (by decide), d13, m3]
          rw [e13]
          refine ⟨hf, by omega, by omega, by omega, by omega, by omega, fun M3 e3 => ⟨hf, fun M4 e4 => ?_⟩⟩
          have t3 : ∀ k', k' ≠ 29 + f.toNat → M3 k' = M2 k' := fun k' hk' => by
            rw [e3]
            funext i
            simp only [gCp]
            rw [if_neg (fun g => hk' g.1)]
          have e13' : M3 13 3 = k := by rw [t3 13 (by omega), e13]
          rw [e13'] at e4
          rw [res]
          have hb9 := ndS_bd (Z 16)
          refine hY Z v g3 c4 (by omega) M4 (fun k' h1 h2 h3 h4 => ?_) ?_ ?_ (fun g => ?_) (fun i hi => ?_)
          · rw [e4, gSt_ne _ _ _ _ _ h3, t3 k' h4, r1 k' (by omega) (by omega) (by omega) (by omega), g4 k' h1 h2]
          · rw [e4, gSt_ne _ _ _ _ _ (by decide), t3 22 (by omega), r2 11 (by decide) (by decide), g6]
          · exact SR_same r3 (fun k' h1 h2 => by rw [e4, gSt_ne _ _ _ _ _ (by omega), t3 k' (by omega)]) (by rw [e4, gSt_ne _ _ _ _ _ (by decide), t3 22 (by omega)]) (by rw [e4, gSt_ne _ _ _ _ _ (by decide), t3 22 (by omega)])
          · rw [e4, gSt_at]
            by_cases c : g = f
            · rw [if_pos c, if_pos c]
            · rw [if_neg c, if_neg c, t3 38 (by omega), r1 38 (by decide) (by decide) (by decide) (by decide), d38]
          · rw [e4, gSt_ne _ _ _ _ _ (by omega), e3, gCp_at, if_pos (by omega), show (0 : Int) + ((i : Int) - 0) = i by omega, r1 37 (by decide) (by decide) (by decide) (by decide), g8 i hi]
        have ub : Mk 22 10 ≤ 5400 := by omega
        rw [d38]
        rcases s4 f hf.1 hf.2 with ⟨k1, k2⟩ | ⟨k1, k2, k3, k4, k5, k6⟩
        · rw [k2]
          refine ⟨1, ⟨by omega, by omega⟩, ⟨by omega, by omega⟩, fun g => by omega, fun _ => last Mk (fun _ _ _ _ _ => rfl) (fun _ _ _ => rfl) ?_⟩
          have ekt : ∀ p, kt (N 20) (N 21) (N 22) p f = 0 := fun p => by unfold kt; rw [if_neg (by omega)]
          refine SR_congr g7 (fun p a b => ?_) (fun p a b z => ⟨rfl, by rw [ekt]; omega, fun _ _ _ => rfl⟩)
          rw [ekt]
          obtain ⟨i1, i2, i3, i4⟩ := g7.1 p a b
          by_cases z : Z 16 p = 0
          · rw [z]; split <;> rfl
          · have := (i4 (by omega)).2.2.2.1
            rw [if_pos (by omega)]
        · have hm : ((N 21 f).toNat : Int) = N 21 f := by omega
          rw [k2, ← hm]
          have ekt : ∀ p, cn (Mk (29 + f.toNat)) (N 21 f).toNat p = kt (N 20) (N 21) (N 22) p f := fun p => by
            unfold kt
            rw [if_pos k1, dr]
            exact cn_congr (fun i i1 i2 => (k5 i i1 (by omega)).1)
          refine sp_release g7 ub (by omega) (by omega) (fun i hi => by obtain ⟨h1, h2, h3, -⟩ := k5 i (by omega) (by omega); rw [dr, show M (29 + f.toNat) i = _ from h1]; omega) (fun p a b => ?_) (fun M2 r1 r2 r3 => last M2 r1 r2 ?_)
          · rw [ekt]
            obtain ⟨e1, e2, e3, e4⟩ := c1 p a b
            have hl := hd_le hIS a b
            have nn := (s1 p a b).1
            have kl := kt_le (N 20) (N 21) (N 22) p hf
            have kn := kt_nn (N 20) (N 21) (N 22) p f
            have cb := cn_bd (fun i => Z 22 (600 * f + i)) p k
            refine ⟨fun z => ⟨?_, hRb p a b z⟩, fun z => ?_⟩
            · by_cases y : N 16 p = 0
              · have := e3 y z; have := hl.2 y; omega
              · have := (e2 (by omega)).2.2.2
                have := hl.1 (by omega)
                omega
            · by_cases y : N 16 p = 0
              · have := hl.2 y; omega
              · have := (e2 (by omega)).1; omega
          · simp only [ekt] at r3
            exact r3
  exact key (n + 1) 0 N M1 (by omega) (by omega) rfl (fun _ _ _ => rfl) (fun _ _ _ _ => rfl) (by rw [hM1 22 (by decide) (by decide) (by decide)]; exact hG.1) (SR_same ⟨s1, s2, s3⟩ (fun k' h1 h2 => hM1 k' (by omega) (by omega) (by omega)) (by rw [hM1 22 (by decide) (by decide) (by decide)]) (by rw [hM1 22 (by decide) (by decide) (by decide)])) (fun i hi => by omega)
