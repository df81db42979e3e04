/-! keep -/
theorem sp_keepT {t : Nat} {M N N9 Z : gMem} (hI : Inv t M N) {r f v : Int} {n m : Nat} {Q : Int → gMem → Prop} (hr : 0 ≤ r ∧ r < 6) (hs : 0 < N 4 r) (hf : 0 ≤ f ∧ f < 8) (hn : CN N r f n) (hN9 : ∀ k, essM k → k ≠ 0 → N9 k = N k) (h09 : ∀ i, i ≠ 10 → i ≠ 13 → N9 0 i = N 0 i) (n3 : N9 0 10 = n) (n4 : ∀ j : Nat, j ≤ n → N9 10 j = cp N r f j) (hZ : CS N r f n Z) (hm : m ≤ 600) (hrow : ∀ i : Nat, i < m → 1 ≤ N 22 (600 * f + i) ∧ N 22 (600 * f + i) ≤ 300) (hkt : ∀ p, cn (fun i => N 22 (600 * f + i)) m p = kt (N 20) (N 21) (N 22) p f)
    (hQ : ∀ N2 : gMem, (∀ k, essM k → k ≠ 0 → (k < 16 ∨ 22 < k) → N2 k = N k) → (∀ i, i ≠ 10 → i ≠ 13 → i ≠ 27 → N2 0 i = N 0 i) → N2 0 27 = Z 0 27 → (∀ p, 1 ≤ p → p ≤ 300 → N2 16 p = if 0 < Z 19 p - kt (N 20) (N 21) (N 22) p f then Z 16 p else 0) → N2 17 = Z 17 → N2 18 = Z 18 → (∀ p, N2 19 p = Z 19 p - kt (N 20) (N 21) (N 22) p f) → (∀ g, N2 20 g = if g = f then 1 else N 20 g) → (∀ g, N2 21 g = if g = f then (n : Int) else N 21 g) → N2 22 = Z 22 → Q v N2) :
    ∃ n_46, fX9_keep_L68 f m n_46 0 N9 (fun M_25 => ∃ n_45, fX9_keep_L104 f n_45 0 M_25 (fun M_38 => ((0 ≤ f ∧ f < 8) ∧ ∀ M_40, M_40 = gSt M_38 20 f 1 → ((0 ≤ f ∧ f < 8) ∧ ∀ M_42, M_42 = gSt M_40 21 f (M_40 0 10) → (fX9_goes 23 600 0 m M_42 (fun r_43 M_44 => Q v M_44))))) Q) Q := by
  have hIS := hI.2.2.2.2.1
  have hn6 := hn.1
  have e922 : N9 22 = N 22 := hN9 22 (by simp [essM]) (by decide)
  have key1 : ∀ (KK : gMem → Prop), (∀ N1 : gMem, (∀ k, k ≠ 23 → N1 k = N9 k) → (∀ i : Nat, i < m → N1 23 i = N 22 (600 * f + i)) → KK N1) → ∀ (w j : Nat) (N1 : gMem), j ≤ m → m - j < w → (∀ k, k ≠ 23 → N1 k = N9 k) → (∀ i : Nat, i < j → N1 23 i = N 22 (600 * f + i)) → fX9_keep_L68 f m w j N1 KK Q := by
    intro KK hKK w
    induction w with
    | zero => intro j N1 g1 g2; omega
    | succ w ih =>
      intro j N1 g1 g2 g3 g4
      refine ⟨⟨by omega, by omega⟩, ⟨by omega, by omega⟩, fun hlt => ⟨⟨by omega, by omega⟩, ⟨by omega, by omega⟩, fun N2 e2 => ?_⟩, fun hge => ?_⟩
      · refine ih (j + 1) N2 (by omega) (by omega) (fun k hk => by rw [e2, gSt_ne _ _ _ _ _ hk, g3 k hk]) (fun i hi => ?_)
        rw [e2, gSt_at]
        by_cases c : i = j
        · subst c; rw [if_pos rfl, g3 22 (by decide), e922]
        · rw [if_neg (by omega), g4 i (by omega)]
      · have : j = m := by omega
        subst this
        exact hKK N1 g3 g4
  refine ⟨m + 1, key1 _ (fun N1 a1 a2 => ⟨n + 1, ?_⟩) (m + 1) 0 N9 (by omega) (by omega) (fun _ _ => rfl) (fun i hi => by omega)⟩
  have key2 : ∀ (w k : Nat) (Y N2 : gMem), k ≤ n → n - k < w → CS N r f k Y → (∀ k', k' ≠ 0 → k' ≠ 16 → k' ≠ 17 → k' ≠ 18 → k' ≠ 19 → k' ≠ 22 → N2 k' = N1 k') → (∀ i, i ≠ 27 → N2 0 i = N1 0 i) → N2 0 27 = Y 0 27 → N2 16 = Y 16 → N2 17 = Y 17 → N2 18 = Y 18 → N2 19 = Y 19 → N2 22 = Y 22 → fX9_keep_L104 f w k N2 (fun M_38 => ((0 ≤ f ∧ f < 8) ∧ ∀ M_40, M_40 = gSt M_38 20 f 1 → ((0 ≤ f ∧ f < 8) ∧ ∀ M_42, M_42 = gSt M_40 21 f (M_40 0 10) → (fX9_goes 23 600 0 m M_42 (fun r_43 M_44 => Q v M_44))))) Q := by
    intro w
    induction w with
    | zero => intro k Y N2 g1 g2; omega
    | succ w ih =>
      intro k Y N2 g1 g2 g3 g4 g5 g6 g16 g17 g18 g19 g22
      have o10 : N2 0 10 = n := by rw [g5 10 (by decide), a1 0 (by decide), n3]
      have oc : ∀ j : Nat, j ≤ n → N2 10 j = cp N r f j := fun j hj => by rw [g4 10 (by decide) (by decide) (by decide) (by decide) (by decide) (by decide), a1 10 (by decide), n4 j hj]
      rw [fX9_keep_L104, o10]
      refine ⟨⟨by omega, by omega⟩, ⟨by omega, by omega⟩, fun hlt => ⟨⟨by omega, by omega⟩, ⟨by omega, by omega⟩, ?_⟩, fun hge => ?_⟩
      · have hk : k < n := by omega
        obtain ⟨A, B, hA, hAB⟩ := CS_pre hZ k hk
        have eY := CS_un g3 hA
        subst eY
        rw [show (k : Int) + 1 = ((k + 1 : Nat) : Int) by omega, oc _ (by omega), oc _ (by omega)]
        have e2 : N2 2 = N 2 := by rw [g4 2 (by decide) (by decide) (by decide) (by decide) (by decide) (by decide), a1 2 (by decide), hN9 2 (by simp [essM]) (by decide)]
        refine sp_comes hI hr hs hf hn hk (CS_OK hI hr hs hf hn g1 g3) hAB e2 g16 g17 g18 g19 g22 g6 (fun p N3 lp b1 b2 b16 b17 b18 b19 b22 b0 => ⟨⟨by omega, by omega⟩, fun N4 e4 => ⟨by omega, by omega, fun N5 e5 => ?_⟩⟩)
        have o : ∀ k', k' ≠ 19 → k' ≠ 22 → N5 k' = N3 k' := fun k' h1 h2 => by rw [e5, gSt_ne _ _ _ _ _ h1, e4, gSt_ne _ _ _ _ _ h2]
        refine ih (k + 1) B N5 (by omega) (by omega) ⟨Y, g3, hAB⟩ (fun k' h0 h1 h2 h3 h4 h5 => by rw [o k' h4 h5, b1 k' h0 h1 h2 h3 h4, g4 k' h0 h1 h2 h3 h4 h5]) (fun i hi => by rw [o 0 (by decide) (by decide), b2 i hi, g5 i hi]) (by rw [o 0 (by decide) (by decide), b0]) (by rw [o 16 (by decide) (by decide), b16]) (by rw [o 17 (by decide) (by decide), b17]) (by rw [o 18 (by decide) (by decide), b18]) ?_ ?_
        · funext q
          rw [b19 q, e5, gSt_at, e4, gSt_ne _ _ _ _ 19 (by decide)]
        · funext j
          rw [b22 j, e5, gSt_ne _ _ _ _ _ (by decide), e4, gSt_at]
      · have hkn : k = n := by omega
        subst hkn
        have eY := CS_un g3 hZ
        subst eY
        obtain ⟨c1, -⟩ := CS_CI hI hr hs hf hn (Nat.le_refl k) g3
        refine ⟨hf, fun N3 e3 => ⟨hf, fun N4 e4 => ?_⟩⟩
        have o0 : N3 0 = N2 0 := by rw [e3, gSt_ne _ _ _ _ _ (by decide)]
        rw [o0, o10] at e4
        have o : ∀ k', k' ≠ 20 → k' ≠ 21 → N4 k' = N2 k' := fun k' h1 h2 => by rw [e4, gSt_ne _ _ _ _ _ h2, e3, gSt_ne _ _ _ _ _ h1]
        have o23 : N4 23 = N1 23 := by rw [o 23 (by decide) (by decide), g4 23 (by decide) (by decide) (by decide) (by decide) (by decide) (by decide)]
        have o16 : N4 16 = Y 16 := by rw [o 16 (by decide) (by decide), g16]
        have o19 : N4 19 = Y 19 := by rw [o 19 (by decide) (by decide), g19]
        have ecn : ∀ p, cn (fun i => N4 23 (0 + i)) m p = kt (N 20) (N 21) (N 22) p f := fun p => by
          rw [← hkt p]
          refine cn_congr (fun i i1 i2 => ?_)
          have := a2 i.toNat (by omega)
          rw [show ((i.toNat : Nat) : Int) = i by omega] at this
          rw [o23, Int.zero_add, this]
        refine sp_goes (by decide) hm (by omega) (fun i hi => ?_) (fun p p1 p2 => ?_) (fun N5 b1 b2 b3 => ?_)
        · rw [o23, Int.zero_add, a2 i hi]; exact hrow i hi
        · rw [ecn, o16, o19]
          obtain ⟨d1, d2, d3, d4⟩ := c1 p p1 p2
          have hl := hd_le hIS p1 p2
          have nn := (hIS.1 p p1 p2).1
          have kl := kt_le (N 20) (N 21) (N 22) p hf
          have kn := kt_nn (N 20) (N 21) (N 22) p f
          have cb := cn_bd (fun i => Y 22 (600 * f + i)) p k
          refine ⟨d1.1, fun z => ?_, fun z => ?_⟩
          · by_cases y : N 16 p = 0
            · have := d3 y z; have := hl.2 y; omega
            · have := (d2 (by omega)).2.2.2
              have := hl.1 (by omega)
              omega
          · by_cases y : N 16 p = 0
            · have := hl.2 y; omega
            · have := (d2 (by omega)).1; omega
        · simp only [ecn, o16, o19] at b2 b3
          refine hQ N5 (fun k' hk' h0 h1 => ?_) (fun i h1 h2 h3 => ?_) ?_ b3 ?_ ?_ b2 (fun g => ?_) (fun g => ?_) ?_
          · rw [b1 k' (by omega) (by omega), o k' (by omega) (by omega), g4 k' h0 (by omega) (by omega) (by omega) (by omega) (by omega), a1 k' (by unfold essM at hk'; omega), hN9 k' hk' h0]
          · rw [b1 0 (by decide) (by decide), o 0 (by decide) (by decide), g5 i h3, a1 0 (by decide), h09 i h1 h2]
          · rw [b1 0 (by decide) (by decide), o 0 (by decide) (by decide), g6]
          · rw [b1 17 (by decide) (by decide), o 17 (by decide) (by decide), g17]
          · rw [b1 18 (by decide) (by decide), o 18 (by decide) (by decide), g18]
          · rw [b1 20 (by decide) (by decide), e4, gSt_ne _ _ _ _ _ (by decide), e3, gSt_at, g4 20 (by decide) (by decide) (by decide) (by decide) (by decide) (by decide), a1 20 (by decide), hN9 20 (by simp [essM]) (by decide)]
          · rw [b1 21 (by decide) (by decide), e4, gSt_at, e3, gSt_ne _ _ _ _ 21 (by decide), g4 21 (by decide) (by decide) (by decide) (by decide) (by decide) (by decide), a1 21 (by decide), hN9 21 (by simp [essM]) (by decide)]
          · rw [b1 22 (by decide) (by decide), o 22 (by decide) (by decide), g22]
  refine key2 (n + 1) 0 N N1 (by omega) (by omega) rfl (fun _ _ _ _ _ _ _ => rfl) (fun _ _ => rfl) ?_ ?_ ?_ ?_ ?_ ?_
  · rw [a1 0 (by decide), h09 27 (by decide) (by decide)]
  · rw [a1 16 (by decide), hN9 16 (by simp [essM]) (by decide)]
  · rw [a1 17 (by decide), hN9 17 (by simp [essM]) (by decide)]
  · rw [a1 18 (by decide), hN9 18 (by simp [essM]) (by decide)]
  · rw [a1 19 (by decide), hN9 19 (by simp [essM]) (by decide)]
  · rw [a1 22 (by decide), e922]
theorem sI_cp {N : gMem} {r f : Int} {g : Int → Int} : ∀ {n : Nat}, (∀ k : Nat, k < n → g k = pL N r f k) → sI g n = cp N r f n
  | 0, _ => rfl
  | n + 1, h => by
    rw [sI, sI_cp (fun k hk => h k (by omega)), h n (by omega)]
    unfold pL
    omega
theorem sm_keep {t : Nat} {M N : gMem} {x1 x2 : Int} (hI : Inv t M N) (ht : t ≤ 511) (r1 : rg x1) (r2 : rg x2) {K : gMem → gMem → Prop} (hK : ∀ M1 N1, Inv (t + 1) M1 N1 → K M1 N1) :
    fX8_keep x1 x2 M (fun r1 M1 => fX9_keep x1 x2 N (fun r2 N1 => rg r1 ∧ r1 = r2 ∧ K M1 N1)) := by
  have e : rg (-1) ∧ (-1 : Int) = -1 ∧ K M N := ⟨⟨by decide, by decide⟩, rfl, hK _ _ hI.next⟩
  have no : ¬ (((0 ≤ x1 ∧ x1 < 6) ∧ 0 < N 4 x1) ∧ (0 ≤ x2 ∧ x2 < 8)) → fX9_keep x1 x2 N (fun r2 N1 => rg (-1) ∧ (-1 : Int) = r2 ∧ K M N1) := fun h =>
    setM hI r1 (fun a b => fileM r2 (fun c => absurd ⟨⟨a, b⟩, c⟩ h) (fun _ => e)) (fun _ => e)
  refine setC hI r1 (fun hr hs => fileC r2 (fun hf => ⟨hr, ?_⟩) (fun g => no (fun h => g h.2))) (fun g => no (fun h => g h.1))
  have hIS := hI.2.2.2.2.1
  obtain ⟨s1, s2, s3, s4, s5⟩ := id hIS
  have hG := hI.2.2.2.2.2.1
  have hnb := ndS_bd (N 16)
  obtain ⟨n, hn⟩ := cn_ex hI hr hs hf
  have hn6 := hn.1
  refine sp_divide hI (fun _ _ => rfl) hI.2.2.2.2.2.2.2.2.1 (Or.inl rfl) hr hs hf hn (fun M1 m1 m2 m3 m4 => ?_)
  have z18 := hI.2.2.2.2.2.2.2.2.2
  refine sp_take hI hr hs hf hn m1 m2 m3 m4 (fun hbig M2 a1 a2 a3 => ?_) (fun Z v hZ hLK hle M2 a1 a2 a3 a4 a5 => ?_)
  · -- too much
    refine setM hI r1 (fun _ _ => fileM r2 (fun _ => ?_) (fun g => absurd hf g)) (fun g => absurd ⟨hr, hs⟩ g)
    refine sp_cuts9 hI hr hs hf hn (fun _ _ _ => rfl) (fun N9 n1 n2 n3 n4 => ?_)
    have hN9 : ∀ k, essM k → k ≠ 0 → N9 k = N k := fun k hk h0 => n1 k h0 (by unfold essM at hk; omega)
    have e16 : N9 16 = N 16 := hN9 16 (by simp [essM]) (by decide)
    refine sp_lacks hI hr hs hf hn hN9 n3 n4 (fun w hw => sp_there (fun p a b => by rw [e16]; have := s1 p a b; omega) ?_)
    have hb := hbig w hw
    have lb := LK_bd hw
    have ep : pcs N9 = ndS (N 16) := by unfold pcs ndS; rw [e16]
    rw [ep]
    refine ⟨⟨by omega, by omega⟩, fun _ => ⟨⟨by decide, by decide⟩, rfl, hK _ _ ?_⟩, fun g => by omega⟩
    have o : ∀ k, essC k → k < 22 ∨ 27 < k → M2 k = M k := fun k hk h => by rw [a1 k h (by unfold essC at hk; omega), m1 k (by unfold essC at hk; omega) (by unfold essC at hk; omega) (by unfold essC at hk; omega)]
    refine hI.upd_store (Nat.le_succ t) (fun k hk h => o k hk (by omega)) (fun k hk h0 h => hN9 k hk h0) (fun i h1 h2 h3 => n2 i h1) ⟨?_, ?_⟩ ⟨?_, ?_, ?_, ?_, ?_⟩ ?_
    · rw [a1 15 (by omega) (by decide)]; exact m4 0 (by omega)
    · rw [a1 18 (by omega) (by decide), m1 18 (by decide) (by decide) (by decide)]; exact z18
    · rw [e16, hN9 17 (by simp [essM]) (by decide), hN9 18 (by simp [essM]) (by decide), hN9 19 (by simp [essM]) (by decide)]; exact a3.1
    · rw [e16]; exact a3.2.1
    · rw [e16]; exact a3.2.2
    · rw [e16, hN9 20 (by simp [essM]) (by decide), hN9 21 (by simp [essM]) (by decide), hN9 22 (by simp [essM]) (by decide), o 38 (by simp [essC]) (by omega)]
      exact I4_congr (fun g g1 g2 => o _ (by unfold essC; omega) (by omega)) s4
    · rw [hN9 20 (by simp [essM]) (by decide), hN9 21 (by simp [essM]) (by decide), hN9 22 (by simp [essM]) (by decide)]
      intro p a b
      have h5 := s5 p a b
      obtain ⟨i1, i2, i3, i4⟩ := s1 p a b
      obtain ⟨j1, j2, j3, j4⟩ := a3.1 p a b
      by_cases z : N 16 p = 0
      · rw [j3 z, ← h5, i3 z]
      · rw [(j4 (by omega)).2.2.1, ← h5, (i4 (by omega)).2.2.1]
    · rw [a2 11 (by decide) (by decide), m1 22 (by decide) (by decide) (by decide), n2 27 (by decide)]
      exact ⟨hG.1, hG.2.1, by have := hG.2.2; omega⟩
  · refine setM hI r1 (fun _ _ => fileM r2 (fun _ => ?_) (fun g => absurd hf g)) (fun g => absurd ⟨hr, hs⟩ g)
    refine sp_cuts9 hI hr hs hf hn (fun _ _ _ => rfl) (fun N9 n1 n2 n3 n4 => ?_)
    have hN9 : ∀ k, essM k → k ≠ 0 → N9 k = N k := fun k hk h0 => n1 k h0 (by unfold essM at hk; omega)
    have e16 : N9 16 = N 16 := hN9 16 (by simp [essM]) (by decide)
    refine sp_lacks hI hr hs hf hn hN9 n3 n4 (fun w hw => sp_there (fun p a b => by rw [e16]; have := s1 p a b; omega) ?_)
    have ew := LK_un hLK hw
    subst ew
    have lb := LK_bd hLK
    have ep : pcs N9 = ndS (N 16) := by unfold pcs ndS; rw [e16]
    rw [ep]
    have hfin : ∀ N2 : gMem, (∀ k, essM k → k ≠ 0 → (k < 16 ∨ 22 < k) → N2 k = N k) → (∀ i, i ≠ 10 → i ≠ 13 → i ≠ 27 → N2 0 i = N 0 i) → N2 0 27 = Z 0 27 → (∀ p, 1 ≤ p → p ≤ 300 → N2 16 p = if 0 < Z 19 p - kt (N 20) (N 21) (N 22) p x2 then Z 16 p else 0) → N2 17 = Z 17 → N2 18 = Z 18 → (∀ p, N2 19 p = Z 19 p - kt (N 20) (N 21) (N 22) p x2) → (∀ g, N2 20 g = if g = x2 then 1 else N 20 g) → (∀ g, N2 21 g = if g = x2 then (n : Int) else N 21 g) → N2 22 = Z 22 → rg v ∧ v = v ∧ K M2 N2 := by
      intro N2 b1 b2 b0 b16 b17 b18 b19 b20 b21 b22
      refine ⟨⟨by omega, by omega⟩, rfl, hK _ _ ?_⟩
      obtain ⟨c1, c2, c3, -, c5, c6, c7, c8, c9⟩ := CS_CI hI hr hs hf hn (Nat.le_refl n) hZ
      have ekc : ∀ p, kc (N2 20) (N2 21) (N2 22) p = kc (N 20) (N 21) (N 22) p - kt (N 20) (N 21) (N 22) p x2 + cn (fun i => Z 22 (600 * x2 + i)) n p := fun p => by
        rw [kc_new (kf := N 20) (km := N 21) (kn := N 22) hf (fun g g1 g2 g3 => ⟨by rw [b20, if_neg g3], by rw [b21, if_neg g3], fun hk k h1 h2 => ?_⟩)]
        · have e1 : kt (N2 20) (N2 21) (N2 22) p x2 = cn (fun i => Z 22 (600 * x2 + i)) n p := by
            unfold kt
            rw [b20, if_pos rfl, if_pos (by decide), b21, if_pos rfl, b22]
            rfl
          rw [e1]
        · have := kept_of s4 g1 g2 hk
          rw [b22, c9 _ (by omega)]
      have hp : ∀ p, 1 ≤ p → p ≤ 300 → (0 < Z 16 p → Z 19 p = kc (N 20) (N 21) (N 22) p + cn (fun i => Z 22 (600 * x2 + i)) n p) ∧ (Z 16 p = 0 → kc (N 20) (N 21) (N 22) p = 0 ∧ cn (fun i => Z 22 (600 * x2 + i)) n p = 0) ∧ kt (N 20) (N 21) (N 22) p x2 ≤ kc (N 20) (N 21) (N 22) p ∧ 0 ≤ kt (N 20) (N 21) (N 22) p x2 ∧ 0 ≤ cn (fun i => Z 22 (600 * x2 + i)) n p := fun p a b => by
        obtain ⟨d1, d2, d3, d4⟩ := c1 p a b
        have hl := hd_le hIS a b
        have nn := (s1 p a b).1
        refine ⟨fun z => ?_, fun z => ?_, kt_le _ _ _ _ hf, kt_nn _ _ _ _ _, (cn_bd _ _ _).1⟩
        · by_cases y : N 16 p = 0
          · have := d3 y z; have := hl.2 y; omega
          · have := (d2 (by omega)).2.2.2
            have := hl.1 (by omega)
            omega
        · refine ⟨?_, d4 z⟩
          by_cases y : N 16 p = 0
          · exact hl.2 y
          · have := (d2 (by omega)).1; omega
      have hSR : SR M2 (N2 16) (N2 17) (N2 18) (N2 19) := by
        refine SR_congr a3 b16 (fun p a b z => ⟨by rw [b18], b19 p, fun i _ _ => by rw [b17]⟩)
      have hIS2 : IS M2 N2 := by
        refine fin_IS hIS hf hSR (fun g g1 g2 g3 => ⟨by rw [a4, if_neg g3], ?_, by rw [b20, if_neg g3], by rw [b21, if_neg g3], fun k h1 h2 => by rw [b22, c9 _ (by omega)]⟩) (Or.inr ⟨by rw [b20, if_pos rfl]; rfl, by rw [a4, if_pos rfl, b21, if_pos rfl], by rw [b21, if_pos rfl]; omega, by rw [b21, if_pos rfl]; omega, fun k h1 h2 => ?_, ?_⟩) (fun p a b => ?_) (fun p a b h1 h2 => ?_)
        · rw [a1 _ (by omega) (by omega) (by omega) (by omega), m1 _ (by omega) (by omega) (by omega)]
        · rw [b21, if_pos rfl] at h2
          rw [b22]
          have q5 := a5 k.toNat (by omega)
          obtain ⟨w1, w2, w3⟩ := c3 k.toNat (by omega)
          have cpos := cn_pos (row := fun i => Z 22 (600 * x2 + i)) (m := n) (k := k.toNat) (by omega)
          simp only [show ((k.toNat : Nat) : Int) = k by omega] at q5 w1 w2 w3 cpos
          have u := (pc_ok hI hr hs hf hn (k := k.toNat) (by omega)).1
          have zz : 0 < Z 16 (Z 22 (600 * x2 + k)) := by rw [w2]; unfold pL; omega
          obtain ⟨p1, p2, p3, p4, p5⟩ := hp _ w1.1 w1.2
          have := p1 zz
          refine ⟨q5, w1.1, w1.2, ?_⟩
          rw [b16 _ w1.1 w1.2, if_pos (by omega)]
          exact zz
        · rw [b21, if_pos rfl, show ((n : Int)).toNat = n by omega, sI_cp (N := N) (r := x1) (f := x2) (fun k hk => ?_), hn.2.1]
          · have := (by_of hI hf).1; omega
          · obtain ⟨w1, w2, w3⟩ := c3 k hk
            have cpos := cn_pos (row := fun i => Z 22 (600 * x2 + i)) (m := n) (k := k) hk
            have u := (pc_ok hI hr hs hf hn (k := k) hk).1
            have zz : 0 < Z 16 (Z 22 (600 * x2 + k)) := by rw [w2]; unfold pL; omega
            obtain ⟨p1, p2, p3, p4, p5⟩ := hp _ w1.1 w1.2
            have := p1 zz
            rw [b22, b16 _ w1.1 w1.2, if_pos (by omega), w2]
        · obtain ⟨p1, p2, p3, p4, p5⟩ := hp p a b
          have zn := (c1 p a b).1.1
          rw [ekc, b19, b16 p a b]
          constructor
          · intro g
            split at g
            · have := p1 g; omega
            · omega
          · intro g
            by_cases z : Z 16 p = 0
            · have := p2 z; omega
            · have := p1 (by omega)
              split at g <;> omega
        · obtain ⟨d1, d2, d3, d4⟩ := c1 p a b
          rw [b16 p a b] at h2 ⊢
          split at h2
          · rename_i c'; rw [if_pos c', (d2 h1).1]
          · omega
      refine hI.upd_store (Nat.le_succ t) (fun k hk h => ?_) b1 b2 ⟨?_, ?_⟩ hIS2 ?_
      · rw [a1 k (by omega) (by unfold essC at hk; omega) (by omega) (by omega), m1 k (by unfold essC at hk; omega) (by unfold essC at hk; omega) (by unfold essC at hk; omega)]
      · rw [a1 15 (by omega) (by decide) (by decide) (by omega)]; exact m4 0 (by omega)
      · rw [a1 18 (by omega) (by decide) (by decide) (by omega), m1 18 (by decide) (by decide) (by decide)]; exact z18
      · rw [a2, b0]
        obtain ⟨g1, g2, g3⟩ := hG
        exact ⟨rfl, by omega, by omega⟩
    refine ⟨⟨by omega, by omega⟩, fun g => by omega, fun _ => ⟨hf, ?_⟩⟩
    have e20 : N9 20 = N 20 := hN9 20 (by simp [essM]) (by decide)
    have e21 : N9 21 = N 21 := hN9 21 (by simp [essM]) (by decide)
    have h09 : ∀ i, i ≠ 10 → i ≠ 13 → N9 0 i = N 0 i := fun i h1 h2 => n2 i h1
    rw [e20, e21]
    refine ⟨⟨by omega, by omega⟩, fun h0 => ?_, fun h1 => ⟨hf, ?_⟩⟩
    · exact sp_keepT (m := 0) (Q := fun r2 N1 => rg v ∧ v = r2 ∧ K M2 N1) hI hr hs hf hn hN9 h09 n3 n4 hZ (by omega) (fun i hi => by omega) (fun p => by unfold kt; rw [cn_0, if_neg (by omega)]) hfin
    · have hk : N 20 x2 % 2 = 1 := by omega
      obtain ⟨k1, k2, k3, k4, k5⟩ := kept_of s4 hf.1 hf.2 hk
      have hm : ((N 21 x2).toNat : Int) = N 21 x2 := by omega
      have := sp_keepT (m := (N 21 x2).toNat) (v := v) (Q := fun r2 N1 => rg v ∧ v = r2 ∧ K M2 N1) hI hr hs hf hn hN9 h09 n3 n4 hZ (by omega) (fun i hi => by have := k4 i (by omega) (by omega); omega) (fun p => by unfold kt; rw [if_pos hk]) hfin
      rw [hm] at this
      exact this
