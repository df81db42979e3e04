/-! the class: share -/
theorem sp_printC {t : Nat} {M N M' : gMem} (hI : Inv t M N) (c2 : M' 2 = M 2) {s l : Int} {Q : Int → Prop} (h : PV N s l) (hQ : Q (PR (fun i => N 2 (s + i)) l)) : fX5_printOf s l M' Q := by
  obtain ⟨a1, a2, a3, a4, a5⟩ := PV_bd hI h
  have key : ∀ (n : Nat) (x3 x4 : Int), 0 ≤ x4 → x4 ≤ l → l - x4 < n → x3 = sI (fun i => N 2 (s + i) * (i + 1)) x4.toNat → fX5_printOf_L5 s l M' n x3 x4 (fun x3_5 => Q (band x3_5 255)) Q := by
    intro n
    induction n with
    | zero => intro x3 x4 g1 g2 g3; omega
    | succ n ih =>
      intro x3 x4 g1 g2 g3 g4
      refine ⟨⟨by omega, by omega⟩, ⟨by omega, by omega⟩, fun hlt => ⟨⟨by omega, by omega⟩, ih _ _ (by omega) (by omega) (by omega) ?_⟩, fun hge => ?_⟩
      · rw [sI_step _ g1, g4, band_255, bmod_emod, c2, ← a5 x4 g1 hlt]
      · have : x4 = l := by omega
        subst this
        show Q (band x3 255)
        rw [g4, band_255]
        exact hQ
  exact ⟨l.toNat + 1, key _ _ _ (by omega) (by omega) (by omega) rfl⟩
theorem mc_step (Z : gMem) (v l : Int) {x : Int} (hx : 1 ≤ x) : mc Z v l x.toNat = mc Z v l (x - 1).toNat + if 0 < Z 16 x ∧ Z 18 x = v ∧ Z 16 x = l then 1 else 0 := by
  have e : x.toNat = (x - 1).toNat + 1 := by omega
  rw [e, mc, show (((x - 1).toNat : Nat) : Int) + 1 = x by omega]
theorem mc_tail {Z : gMem} {v l : Int} {a : Nat} : ∀ {n : Nat}, a ≤ n → (∀ q : Int, a < q → q ≤ n → ¬ 0 < Z 16 q) → mc Z v l n = mc Z v l a
  | 0, h, _ => by
    have : a = 0 := by omega
    rw [this]
  | n + 1, h, g => by
    by_cases c : a = n + 1
    · rw [c]
    · rw [mc, mc_tail (by omega) (fun q h1 h2 => g q h1 (by omega)), if_neg (fun k => g ((n : Int) + 1) (by omega) (by omega) k.1)]
      omega
theorem sI_tail {g : Int → Int} {a : Nat} : ∀ {n : Nat}, a ≤ n → (∀ j : Int, 0 ≤ j → j < n → 0 ≤ g j) → sI g n ≤ sI g a → ∀ j : Int, a ≤ j → j < n → g j = 0
  | 0, _, _, _, j, h1, h2 => by omega
  | n + 1, h, hg, e, j, h1, h2 => by
    rw [sI] at e
    have h3 := hg n (by omega) (by omega)
    have h4 : ∀ {m : Nat}, a ≤ m → m ≤ n → sI g a ≤ sI g m := by
      intro m
      induction m with
      | zero => intro u w
                have : a = 0 := by omega
                rw [this]; omega
      | succ m ih =>
        intro u w
        by_cases c : a = m + 1
        · rw [c]; omega
        · rw [sI]
          have := ih (by omega) (by omega)
          have := hg m (by omega) (by omega)
          omega
    by_cases c : a = n + 1
    · omega
    · have h5 := h4 (m := n) (by omega) (by omega)
      by_cases c2 : j = n
      · rw [c2]; omega
      · exact sI_tail (n := n) (by omega) (fun i i1 i2 => hg i i1 (by omega)) (by omega) j h1 (by omega)
theorem alZ_pr {Z : gMem} {b : Int → Int} {s l p : Int} (h : alZ Z b s l p) : PR (fun i => Z 17 (200 * p + i)) (Z 16 p) = PR (fun i => b (s + i)) l := by
  obtain ⟨h1, h2⟩ := h
  rw [h1]
  unfold PR
  rw [sI_congr (g := fun i => Z 17 (200 * p + i) * (i + 1)) (h := fun i => b (s + i) * (i + 1)) (fun i i1 i2 => by rw [h2 i i1 (by omega)])]
theorem sp_findAlike {t : Nat} {M N M1 Z : gMem} (hI : Inv t M N) (c2 : M1 2 = M 2) {s l : Int} {Q : Int → gMem → Prop} (hp : PV N s l) (hS : SR M1 (Z 16) (Z 17) (Z 18) (Z 19)) (hU : M1 22 10 ≤ 5400) (hR : ∀ p, 1 ≤ p → p ≤ 300 → 0 < Z 16 p → Z 19 p ≤ 100000)
    (hF : ∀ p, LA Z (N 2) s l p → ∀ M2 : gMem, (∀ k, k ≠ 22 → M2 k = M1 k) → (∀ i, i ≠ 11 → M2 22 i = M1 22 i) → M2 22 11 = M1 22 11 + mc Z (PR (fun i => N 2 (s + i)) l) l (p - 1).toNat → Q p M2)
    (hX : (∀ q, 1 ≤ q → q ≤ 300 → ¬ alZ Z (N 2) s l q) → ∀ M2 : gMem, (∀ k, k ≠ 22 → M2 k = M1 k) → (∀ i, i ≠ 11 → M2 22 i = M1 22 i) → M2 22 11 = M1 22 11 + mc Z (PR (fun i => N 2 (s + i)) l) l 300 → Q (-1) M2) : fX5_findAlike (PR (fun i => N 2 (s + i)) l) s l M1 Q := by
  obtain ⟨a1, a2, a3, a4, a5⟩ := PV_bd hI hp
  have prb := PR_bd (fun i => N 2 (s + i)) l
  generalize hv : PR (fun i => N 2 (s + i)) l = v at *
  have hnd := ndS_bd (Z 16)
  have key : ∀ (n : Nat) (x4 x5 : Int) (M2 : gMem), 1 ≤ x5 → x5 ≤ 301 → 301 - x5 < n → x4 = sI (fun p => if 0 < Z 16 (p + 1) then 1 else 0) (x5 - 1).toNat → (∀ k, k ≠ 22 → M2 k = M1 k) → (∀ i, i ≠ 11 → M2 22 i = M1 22 i) → M2 22 11 = M1 22 11 + mc Z v l (x5 - 1).toNat → (∀ q, 1 ≤ q → q < x5 → ¬ alZ Z (N 2) s l q) → fX5_findAlike_L6 v s l n x4 x5 M2 Q := by
    intro n
    induction n with
    | zero => intro x4 x5 M2 g1 g2 g3; omega
    | succ n ih =>
      intro x4 x5 M2 g1 g2 g3 g4 g5 g6 g7 g8
      have m9 : M2 22 9 = ndS (Z 16) := by rw [g6 9 (by decide)]; exact hS.2.2.1
      have x4b : 0 ≤ x4 ∧ x4 ≤ x5 - 1 := by
        have u1 := sI_nonneg (g := fun p => if 0 < Z 16 (p + 1) then 1 else 0) (n := (x5 - 1).toNat) (fun i _ _ => by split <;> omega)
        have u2 := sI_le (g := fun p => if 0 < Z 16 (p + 1) then 1 else 0) (h := fun _ => 1) (n := (x5 - 1).toNat) (fun i _ _ => by split <;> omega)
        rw [sI_const] at u2
        omega
      rw [fX5_findAlike_L6, m9]
      refine ⟨⟨by omega, by omega⟩, fun hgt => ?_, fun hle => ⟨⟨by omega, by omega⟩, ⟨by omega, by omega⟩, fun hmore => ?_, fun hall => ?_⟩⟩
      · have : x5 = 301 := by omega
        subst this
        exact hX (fun q q1 q2 => g8 q q1 (by omega)) M2 g5 g6 g7
      · obtain ⟨i1, i2, i3, i4⟩ := hS.1 x5 g1 (by omega)
        have d27 : M2 27 = M1 27 := g5 27 (by decide)
        have d26 : M2 26 = M1 26 := g5 26 (by decide)
        have d25 : M2 25 = M1 25 := g5 25 (by decide)
        have d24 : M2 24 = M1 24 := g5 24 (by decide)
        have d23 : M2 23 = M1 23 := g5 23 (by decide)
        have d2 : M2 2 = M 2 := by rw [g5 2 (by decide), c2]
        have es : sI (fun p => if 0 < Z 16 (p + 1) then 1 else 0) (x5 + 1 - 1).toNat = sI (fun p => if 0 < Z 16 (p + 1) then 1 else 0) (x5 - 1).toNat + if 0 < Z 16 x5 then 1 else 0 := by
          rw [show x5 + 1 - 1 = (x5 - 1) + 1 by omega, sI_step _ (by omega), show x5 - 1 + 1 = x5 by omega]
        have em := mc_step Z v l g1
        have nx : ¬ alZ Z (N 2) s l x5 → ∀ q, 1 ≤ q → q < x5 + 1 → ¬ alZ Z (N 2) s l q := fun na q q1 q2 => by
          by_cases c : q = x5
          · rw [c]; exact na
          · exact g8 q q1 (by omega)
        rw [d27, d26, d25, d24]
        refine ⟨⟨by omega, by omega⟩, ?_, fun hh => ?_, fun hh => ?_⟩
        · by_cases z : Z 16 x5 = 0
          · rw [i3 z]; exact rg_0
          · obtain ⟨-, -, j3, j4, -⟩ := i4 (by omega)
            have := hR x5 g1 (by omega) (by omega)
            exact ⟨by omega, by omega⟩
        · have hz : 0 < Z 16 x5 := by
            by_cases z : Z 16 x5 = 0
            · have := i3 z; omega
            · omega
          obtain ⟨j1, j2, j3, j4, j5, j6, j7, j8⟩ := i4 hz
          have jb := PR_bd (fun i => Z 17 (200 * x5 + i)) (Z 16 x5)
          rw [j2, j1]
          refine ⟨⟨by omega, by omega⟩, by rw [j5]; exact ⟨by omega, by omega⟩, ⟨by omega, by omega⟩, fun hpr => ⟨⟨by omega, by omega⟩, ⟨by omega, by omega⟩, ⟨by omega, by omega⟩, fun hln => ⟨⟨by omega, by omega⟩, ?_⟩, fun hln => ?_⟩, fun hpr => ?_⟩
          · have eq : (∀ i, 0 ≤ i → i < l → M2 23 (M1 24 x5 + i) % 256 = M2 2 (s + i) % 256) ↔ alZ Z (N 2) s l x5 := by
              rw [d23, d2]
              constructor
              · intro g
                refine ⟨hln, fun i i1 i2 => ?_⟩
                rw [j8 i i1 (by omega), a5 i i1 i2]
                exact g i i1 i2
              · intro g i i1 i2
                rw [← j8 i i1 (by omega), ← a5 i i1 i2]
                exact g.2 i i1 i2
            refine sp_areAlike (by omega) (by omega) (by omega) (fun g => q1 ?_) (fun g => q0 (fun M3 e3 => ?_))
            · exact hF x5 ⟨⟨g1, by omega⟩, eq.mp g, g8⟩ M2 g5 g6 g7
            · refine ih _ _ M3 (by omega) (by omega) (by omega) (by rw [es, if_pos hz, g4]) (fun k hk => by rw [e3, gSt_ne _ _ _ _ _ hk, g5 k hk]) (fun i hi => by rw [e3, gSt_at, if_neg hi, g6 i hi]) ?_ (nx (fun a => g (eq.mpr a)))
              rw [e3, gSt_eq, g7, show x5 + 1 - 1 = x5 by omega, em, if_pos ⟨hz, hpr, hln⟩]
              omega
          · refine ih _ _ M2 (by omega) (by omega) (by omega) (by rw [es, if_pos hz, g4]) g5 g6 ?_ (nx (fun a => hln a.1))
            rw [g7, show x5 + 1 - 1 = x5 by omega, em, if_neg (fun g => hln g.2.2)]
            omega
          · refine ih _ _ M2 (by omega) (by omega) (by omega) (by rw [es, if_pos hz, g4]) g5 g6 ?_ (nx (fun a => hpr (by rw [j5, alZ_pr a, hv])))
            rw [g7, show x5 + 1 - 1 = x5 by omega, em, if_neg (fun g => hpr g.2.1)]
            omega
        · have hz : ¬ 0 < Z 16 x5 := fun z => by
            obtain ⟨-, -, j3, j4, -⟩ := i4 z
            omega
          refine ih _ _ M2 (by omega) (by omega) (by omega) (by rw [es, if_neg hz, g4]; omega) g5 g6 ?_ (nx (fun a => by have := a.1; omega))
          rw [g7, show x5 + 1 - 1 = x5 by omega, em, if_neg (fun g => hz g.1)]
          omega
      · have tl := sI_tail (g := fun p => if 0 < Z 16 (p + 1) then 1 else 0) (a := (x5 - 1).toNat) (n := 300) (by omega) (fun j _ _ => by split <;> omega) (by unfold ndS at hall; omega)
        have zz : ∀ q, x5 ≤ q → q ≤ 300 → ¬ 0 < Z 16 q := fun q q1 q2 g => by
          have := tl (q - 1) (by omega) (by omega)
          rw [show q - 1 + 1 = q by omega, if_pos g] at this
          omega
        refine hX (fun q q1 q2 a => ?_) M2 g5 g6 (by rw [g7, mc_tail (a := (x5 - 1).toNat) (n := 300) (by omega) (fun q h1 h2 => zz q (by omega) (by omega))])
        by_cases c : q < x5
        · exact g8 q q1 c a
        · have := zz q (by omega) q2
          have := a.1
          omega
  exact ⟨301, key 301 0 1 M1 (by omega) (by omega) (by omega) rfl (fun _ _ => rfl) (fun _ _ => rfl) (by rw [show ((1 : Int) - 1).toNat = 0 by decide, mc]; omega) (fun q q1 q2 => by omega)⟩
theorem sp_leastFree {M1 Z : gMem} {Q : Int → Prop} (hS : SR M1 (Z 16) (Z 17) (Z 18) (Z 19)) (hR : ∀ p, 1 ≤ p → p ≤ 300 → 0 < Z 16 p → Z 19 p ≤ 100000) (hF : ∀ p, LF Z p → Q p) (hX : (∀ q, 1 ≤ q → q ≤ 300 → Z 16 q ≠ 0) → Q (-1)) : fX5_leastFree M1 Q := by
  have key : ∀ (n : Nat) (x : Int), 1 ≤ x → x ≤ 301 → 301 - x < n → (∀ q, 1 ≤ q → q < x → Z 16 q ≠ 0) → fX5_leastFree_L2 M1 n x Q := by
    intro n
    induction n with
    | zero => intro x g1 g2 g3; omega
    | succ n ih =>
      intro x g1 g2 g3 g4
      refine ⟨⟨by omega, by omega⟩, fun hgt => hX (fun q q1 q2 => g4 q q1 (by omega)), fun hle => ?_⟩
      obtain ⟨i1, i2, i3, i4⟩ := hS.1 x g1 (by omega)
      by_cases z : Z 16 x = 0
      · rw [i3 z]
        exact ⟨⟨by omega, by omega⟩, rg_0, fun _ => hF x ⟨⟨g1, by omega⟩, z, g4⟩, fun g => absurd rfl g⟩
      · obtain ⟨-, -, j3, j4, -⟩ := i4 (by omega)
        have := hR x g1 (by omega) (by omega)
        refine ⟨⟨by omega, by omega⟩, ⟨by omega, by omega⟩, fun g => by omega, fun _ => ih _ (by omega) (by omega) (by omega) (fun q q1 q2 => ?_)⟩
        by_cases c : q = x
        · rw [c]; exact z
        · exact g4 q q1 (by omega)
  exact ⟨301, key 301 1 (by omega) (by omega) (by omega) (fun q q1 q2 => by omega)⟩
theorem sp_share {t : Nat} {M N M1 Z : gMem} (hI : Inv t M N) (c2 : M1 2 = M 2) {s l j : Int} {Q : Int → gMem → Prop} (hp : PV N s l) (hS : SR M1 (Z 16) (Z 17) (Z 18) (Z 19)) (hU : M1 22 10 + l ≤ 5400) (hR : ∀ p, 1 ≤ p → p ≤ 300 → 0 < Z 16 p → Z 19 p ≤ 100000)
    (hF : ∀ p, LA Z (N 2) s l p → ∀ M2 : gMem, (∀ k, k ≠ 22 → M2 k = M1 k) → (∀ i, i ≠ 11 → M2 22 i = M1 22 i) → M2 22 11 = M1 22 11 + mc Z (PR (fun i => N 2 (s + i)) l) l (p - 1).toNat → Q p M2)
    (hNw : (∀ q, 1 ≤ q → q ≤ 300 → ¬ alZ Z (N 2) s l q) → ∀ p, LF Z p → ∀ M2 : gMem, (∀ k, k < 22 ∨ 26 < k → M2 k = M1 k) → (∀ i, i ≠ 9 → i ≠ 10 → i ≠ 11 → M2 22 i = M1 22 i) → M2 22 11 = M1 22 11 + mc Z (PR (fun i => N 2 (s + i)) l) l 300 → (∀ M3 : gMem, M3 = gSt M2 27 p (M2 27 p + 1) → SR M3 (coN Z (N 2) j s l (PR (fun i => N 2 (s + i)) l) p 16) (coN Z (N 2) j s l (PR (fun i => N 2 (s + i)) l) p 17) (coN Z (N 2) j s l (PR (fun i => N 2 (s + i)) l) p 18) (coN Z (N 2) j s l (PR (fun i => N 2 (s + i)) l) p 19)) → Q p M2)
    (hX : (∀ q, 1 ≤ q → q ≤ 300 → ¬ alZ Z (N 2) s l q) → (∀ q, 1 ≤ q → q ≤ 300 → Z 16 q ≠ 0) → ∀ M2 : gMem, (∀ k, k ≠ 22 → M2 k = M1 k) → (∀ i, i ≠ 11 → M2 22 i = M1 22 i) → Q (-1) M2) : fX5_share s l M1 Q := by
  obtain ⟨a1, a2, a3, a4, a5⟩ := PV_bd hI hp
  refine sp_printC hI c2 hp (sp_findAlike hI c2 hp hS (by omega) hR (fun p la M2 m1 m2 m3 => ?_) (fun hno M2 m1 m2 m3 => ?_))
  · have := la.1
    exact ⟨⟨by omega, by omega⟩, fun g => by omega, fun _ => hF p la M2 m1 m2 m3⟩
  · refine ⟨rg_m1, fun _ => ?_, fun g => absurd rfl g⟩
    have o10 : M2 22 10 = M1 22 10 := m2 10 (by decide)
    have o9 : M2 22 9 = M1 22 9 := m2 9 (by decide)
    have hS2 : SR M2 (Z 16) (Z 17) (Z 18) (Z 19) := by
      unfold SR
      rw [o9, o10, m1 23 (by decide), m1 24 (by decide), m1 25 (by decide), m1 26 (by decide), m1 27 (by decide)]
      exact hS
    refine sp_leastFree hS2 hR (fun p lf => ?_) (fun hall => ?_)
    · obtain ⟨p1, p2, p3⟩ := id lf
      refine ⟨⟨by omega, by omega⟩, fun g => by omega, fun _ => ?_⟩
      have us : 0 ≤ M2 22 10 := by
        rw [hS2.2.2.2]
        exact sI_nonneg (fun i h1 h2 => (hS2.1 (i + 1) (by omega) (by omega)).1)
      refine ⟨a1, us, by omega, a2, by omega, fun M3 e3 => ⟨by omega, fun M4 e4 => ⟨by omega, fun M5 e5 => ⟨by omega, fun M6 e6 M7 e7 M8 e8 => ?_⟩⟩⟩⟩
      have t3 : ∀ k, k ≠ 23 → M3 k = M2 k := fun k hk => by
        rw [e3]
        funext i
        simp only [gCp]
        rw [if_neg (fun g => hk g.1)]
      have t23 : ∀ i, M3 23 i = if M2 22 10 ≤ i ∧ i < M2 22 10 + l then M2 2 (s + (i - M2 22 10)) else M2 23 i := fun i => by rw [e3, gCp_at]
      rw [t3 22 (by decide)] at e4
      have u22 : M6 22 = M2 22 := by rw [e6, gSt_ne _ _ _ _ _ (by decide), e5, gSt_ne _ _ _ _ _ (by decide), e4, gSt_ne _ _ _ _ _ (by decide), t3 22 (by decide)]
      rw [u22] at e7
      have u79 : M7 22 9 = M2 22 9 := by rw [e7, gSt_at, if_neg (by decide), u22]
      rw [u79] at e8
      have k22 : ∀ i, M8 22 i = if i = 9 then M2 22 9 + 1 else if i = 10 then M2 22 10 + l else M2 22 i := fun i => by rw [e8, gSt_at, e7, gSt_at, u22]
      have ko : ∀ k, k ≠ 22 → M8 k = M6 k := fun k hk => by rw [e8, gSt_ne _ _ _ _ _ hk, e7, gSt_ne _ _ _ _ _ hk]
      have k23 : ∀ i, M8 23 i = if M2 22 10 ≤ i ∧ i < M2 22 10 + l then M2 2 (s + (i - M2 22 10)) else M2 23 i := fun i => by rw [ko 23 (by decide), e6, gSt_ne _ _ _ _ _ (by decide), e5, gSt_ne _ _ _ _ _ (by decide), e4, gSt_ne _ _ _ _ _ (by decide), t23]
      have k24 : ∀ i, M8 24 i = if i = p then M2 22 10 else M2 24 i := fun i => by rw [ko 24 (by decide), e6, gSt_ne _ _ _ _ _ (by decide), e5, gSt_ne _ _ _ _ _ (by decide), e4, gSt_at, t3 24 (by decide)]
      have k25 : ∀ i, M8 25 i = if i = p then l else M2 25 i := fun i => by rw [ko 25 (by decide), e6, gSt_ne _ _ _ _ _ (by decide), e5, gSt_at, e4, gSt_ne _ _ _ _ 25 (by decide), t3 25 (by decide)]
      have k26 : ∀ i, M8 26 i = if i = p then PR (fun i => N 2 (s + i)) l else M2 26 i := fun i => by rw [ko 26 (by decide), e6, gSt_at, e5, gSt_ne _ _ _ _ 26 (by decide), e4, gSt_ne _ _ _ _ 26 (by decide), t3 26 (by decide)]
      have kk : ∀ k, k < 22 ∨ 26 < k → M8 k = M1 k := fun k hk => by rw [ko k (by omega), e6, gSt_ne _ _ _ _ _ (by omega), e5, gSt_ne _ _ _ _ _ (by omega), e4, gSt_ne _ _ _ _ _ (by omega), t3 k (by omega), m1 k (by omega)]
      refine hNw hno p lf M8 kk (fun i h9 h10 h11 => by rw [k22, if_neg h9, if_neg h10, m2 i h11]) (by rw [k22, if_neg (by decide), if_neg (by decide), m3]) (fun M9 e9 => ?_)
      obtain ⟨z1, z2, z3, z4⟩ := hS2.1 p p1.1 p1.2
      have h27 : M8 27 = M2 27 := by rw [kk 27 (by omega), m1 27 (by decide)]
      have l27 : ∀ i, M9 27 i = if i = p then 1 else M2 27 i := fun i => by
        rw [e9, gSt_at, h27, z3 p2]
        rfl
      have l22 : M9 22 = M8 22 := by rw [e9, gSt_ne _ _ _ _ _ (by decide)]
      have l23 : M9 23 = M8 23 := by rw [e9, gSt_ne _ _ _ _ _ (by decide)]
      have l24 : M9 24 = M8 24 := by rw [e9, gSt_ne _ _ _ _ _ (by decide)]
      have l25 : M9 25 = M8 25 := by rw [e9, gSt_ne _ _ _ _ _ (by decide)]
      have l26 : M9 26 = M8 26 := by rw [e9, gSt_ne _ _ _ _ _ (by decide)]
      have o2 : M2 2 = M 2 := by rw [m1 2 (by decide), c2]
      unfold SR
      rw [l22, l23, l24, l25, l26]
      refine ⟨fun q a b => ?_, fun q q' a b a' b' c c' hne => ?_, ?_⟩
      · obtain ⟨i1, i2, i3, i4⟩ := hS2.1 q a b
        have k10 : M8 22 10 = M2 22 10 + l := by rw [k22, if_neg (by decide), if_pos rfl]
        by_cases c : q = p
        · subst c
          have v16 : coN Z (N 2) j s l (PR (fun i => N 2 (s + i)) l) q 16 q = l := by rw [coN_16, if_pos rfl]
          have v18 : coN Z (N 2) j s l (PR (fun i => N 2 (s + i)) l) q 18 q = PR (fun i => N 2 (s + i)) l := by rw [coN_18, if_pos rfl]
          have v19 : coN Z (N 2) j s l (PR (fun i => N 2 (s + i)) l) q 19 q = 1 := by rw [coN_19, if_pos rfl]
          have w27 : M9 27 q = 1 := by rw [l27, if_pos rfl]
          have w24 : M8 24 q = M2 22 10 := by rw [k24, if_pos rfl]
          have w25 : M8 25 q = l := by rw [k25, if_pos rfl]
          have w26 : M8 26 q = PR (fun i => N 2 (s + i)) l := by rw [k26, if_pos rfl]
          have e17 : ∀ i, 0 ≤ i → i < l → coN Z (N 2) j s l (PR (fun i => N 2 (s + i)) l) q 17 (200 * q + i) = N 2 (s + i) := fun i i1 i2 => by rw [coN_17, if_pos (by omega), show 200 * q + i - 200 * q = i by omega]
          rw [v16, v18, v19, w27, w24, w25, w26, k10]
          refine ⟨by omega, by omega, fun g => by omega, fun _ => ⟨rfl, rfl, rfl, by omega, ?_, us, by omega, fun i i1 i2 => ?_⟩⟩
          · show sI (fun i => N 2 (s + i) * (i + 1)) l.toNat % 256 = sI (fun i => coN Z (N 2) j s l (PR (fun i => N 2 (s + i)) l) q 17 (200 * q + i) * (i + 1)) l.toNat % 256
            rw [sI_congr (g := fun i => N 2 (s + i) * (i + 1)) (h := fun i => coN Z (N 2) j s l (PR (fun i => N 2 (s + i)) l) q 17 (200 * q + i) * (i + 1)) (fun i i1 i2 => by rw [e17 i i1 (by omega)])]
          · rw [e17 i i1 i2, k23, if_pos (by omega), show M2 22 10 + i - M2 22 10 = i by omega, o2]
            exact a5 i i1 i2
        · rw [coN_16, coN_18, coN_19, l27, k24, k25, k26, k10, if_neg c, if_neg c, if_neg c, if_neg c, if_neg c, if_neg c, if_neg c]
          refine ⟨i1, i2, i3, fun g => ?_⟩
          obtain ⟨j1, j2, j3, j4, j5, j6, j7, j8⟩ := i4 g
          have e17 : ∀ i, 0 ≤ i → i < Z 16 q → coN Z (N 2) j s l (PR (fun i => N 2 (s + i)) l) p 17 (200 * q + i) = Z 17 (200 * q + i) := fun i i1 i2 => by rw [coN_17, if_neg (by omega)]
          refine ⟨j1, j2, j3, j4, ?_, j6, by omega, fun i i1 i2 => ?_⟩
          · rw [j5]
            show sI (fun i => Z 17 (200 * q + i) * (i + 1)) (Z 16 q).toNat % 256 = sI (fun i => coN Z (N 2) j s l (PR (fun i => N 2 (s + i)) l) p 17 (200 * q + i) * (i + 1)) (Z 16 q).toNat % 256
            rw [sI_congr (g := fun i => Z 17 (200 * q + i) * (i + 1)) (h := fun i => coN Z (N 2) j s l (PR (fun i => N 2 (s + i)) l) p 17 (200 * q + i) * (i + 1)) (fun i i1 i2 => by rw [e17 i i1 (by omega)])]
          · rw [e17 i i1 i2, k23, if_neg (by omega)]
            exact j8 i i1 i2
      · rw [coN_16] at c c' ⊢
        rw [coN_16, k24, k24]
        by_cases d : q = p
        · rw [if_pos d] at c ⊢
          rw [if_pos d]
          have d' : ¬ q' = p := fun g => hne (d.trans g.symm)
          rw [if_neg d'] at c' ⊢
          rw [if_neg d']
          have := (hS2.1 q' a' b').2.2.2 c'
          omega
        · rw [if_neg d] at c ⊢
          rw [if_neg d]
          have u := (hS2.1 q a b).2.2.2 c
          by_cases d' : q' = p
          · rw [if_pos d'] at c' ⊢
            rw [if_pos d']
            omega
          · rw [if_neg d'] at c' ⊢
            rw [if_neg d']
            exact hS2.2.1 q q' a b a' b' c c' hne
      · obtain ⟨w1, w2⟩ := hS2.2.2
        unfold I3
        rw [k22, if_pos rfl, k22, if_neg (by decide), if_pos rfl, w1, w2]
        rw [sI_updr (g := fun p => if 0 < Z 16 (p + 1) then 1 else 0) (h := fun q => if 0 < coN Z (N 2) j s l (PR (fun i => N 2 (s + i)) l) p 16 (q + 1) then 1 else 0) (a := p - 1) (by omega) (by omega) (fun i i1 i2 i3 => by rw [coN_16, if_neg (by omega : ¬ i + 1 = p)]), sI_updr (g := fun p => Z 16 (p + 1)) (h := fun q => coN Z (N 2) j s l (PR (fun i => N 2 (s + i)) l) p 16 (q + 1)) (a := p - 1) (by omega) (by omega) (fun i i1 i2 i3 => by rw [coN_16, if_neg (by omega : ¬ i + 1 = p)])]
        rw [show p - 1 + 1 = p by omega, coN_16, if_pos rfl, p2, if_pos (by omega), if_neg (by omega)]
        omega
    · exact ⟨rg_m1, fun _ => hX hno hall M2 m1 m2, fun g => absurd rfl g⟩
