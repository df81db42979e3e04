/-! THE STORE: pieces go -/
/-- the class's pieces, and their sizes, bytes, prints and holds -/
def SR (M : gMem) (sz pb pr hd : Int → Int) : Prop := I1 (M 24) (M 25) (M 26) (M 27) (M 23) (M 22 10) sz pb pr hd ∧ I2 (M 24) sz ∧ I3 (M 22 9) (M 22 10) sz
theorem SR_congr {M : gMem} {sz pb pr hd sz' pb' pr' hd' : Int → Int} (h : SR M sz pb pr hd) (e1 : ∀ p, 1 ≤ p → p ≤ 300 → sz' p = sz p) (e2 : ∀ p, 1 ≤ p → p ≤ 300 → 0 < sz p → pr' p = pr p ∧ hd' p = hd p ∧ ∀ i, 0 ≤ i → i < sz p → pb' (200 * p + i) = pb (200 * p + i)) : SR M sz' pb' pr' hd' := by
  obtain ⟨h1, h2, h3⟩ := h
  refine ⟨fun p a b => ?_, fun p q a b c d e f g => ?_, ?_⟩
  · obtain ⟨i1, i2, i3, i4⟩ := h1 p a b
    rw [e1 p a b]
    refine ⟨i1, i2, i3, fun hp => ?_⟩
    obtain ⟨j1, j2, j3, j4, j5, j6, j7, j8⟩ := i4 hp
    obtain ⟨k1, k2, k3⟩ := e2 p a b hp
    refine ⟨j1, by rw [k1]; exact j2, by rw [k2]; exact j3, by rw [k2]; exact j4, ?_, j6, j7, fun i i1 i2 => by rw [k3 i i1 i2]; exact j8 i i1 i2⟩
    rw [k1, j5]
    unfold PR
    rw [sI_congr (g := fun i => pb' (200 * p + i) * (i + 1)) (h := fun i => pb (200 * p + i) * (i + 1)) (fun i i1 i2 => by rw [k3 i i1 (by omega)])]
  · rw [e1 p a b] at e ⊢
    rw [e1 q c d] at f ⊢
    exact h2 p q a b c d e f g
  · unfold I3 at *
    rw [sI_congr (g := fun p => if 0 < sz' (p + 1) then 1 else 0) (h := fun p => if 0 < sz (p + 1) then 1 else 0) (fun i a b => by rw [e1 (i + 1) (by omega) (by omega)]), sI_congr (g := fun p => sz' (p + 1)) (h := fun p => sz (p + 1)) (fun i a b => by rw [e1 (i + 1) (by omega) (by omega)])]
    exact h3
theorem sp_removePiece {M M1 : gMem} {S pb pr H : Int → Int} {p : Int} {Q : gMem → Prop} (h : SR M S pb pr H) (hU : M 22 10 ≤ 5400) (hR : ∀ q, 1 ≤ q → q ≤ 300 → 0 ≤ M 27 q ∧ M 27 q ≤ 100000) (hp : 1 ≤ p ∧ p ≤ 300) (hs : 0 < S p) (hM1 : M1 = gSt M 27 p 0)
    (hQ : ∀ M2 : gMem, (∀ k, k ≠ 22 → k ≠ 23 → k ≠ 24 → M2 k = M1 k) → (∀ i, i ≠ 9 → i ≠ 10 → M2 22 i = M 22 i) → M2 22 10 ≤ M 22 10 → M2 22 9 = M 22 9 - 1 → SR M2 (fun q => if q = p then 0 else S q) pb pr H → Q M2) : fX5_removePiece p M1 Q := by
  obtain ⟨h1, h2, h3, h4⟩ := id h
  obtain ⟨p1, p2, p3, p4⟩ := h1 p hp.1 hp.2
  obtain ⟨p5, p6, p7, p8, p9, p10, p11, p12⟩ := p4 hs
  have c24 : M1 24 = M 24 := by rw [hM1, gSt_ne _ _ _ _ _ (by decide)]
  have c25 : M1 25 = M 25 := by rw [hM1, gSt_ne _ _ _ _ _ (by decide)]
  have c26 : M1 26 = M 26 := by rw [hM1, gSt_ne _ _ _ _ _ (by decide)]
  have c22 : M1 22 = M 22 := by rw [hM1, gSt_ne _ _ _ _ _ (by decide)]
  have c23 : M1 23 = M 23 := by rw [hM1, gSt_ne _ _ _ _ _ (by decide)]
  have c27 : ∀ q, M1 27 q = if q = p then 0 else M 27 q := fun q => by rw [hM1, gSt_at]
  unfold fX5_removePiece
  rw [c24, c25, c22, p5]
  refine ⟨⟨by omega, by omega⟩, ⟨by omega, by omega⟩, ⟨by omega, by omega⟩, by omega, by omega, by omega, by omega, by omega, fun M4 e4 => ⟨301, ?_⟩⟩
  have m4 : ∀ k, k ≠ 23 → M4 k = M1 k := fun k hk => by
    rw [e4]
    funext j
    simp only [gCp]
    rw [if_neg (fun g => hk g.1)]
  have m23 : ∀ j, M4 23 j = if M 24 p ≤ j ∧ j < M 24 p + (M 22 10 - (M 24 p + S p)) then M 23 (M 24 p + S p + (j - M 24 p)) else M 23 j := fun j => by rw [e4, gCp_at, c23]
  have key : ∀ (n : Nat) (x : Int) (M5 : gMem), 1 ≤ x → x ≤ 301 → 301 - x < n → (∀ k, k ≠ 24 → M5 k = M4 k) → (∀ q, M5 24 q = if (1 ≤ q ∧ q < x) ∧ 0 < M1 27 q ∧ M 24 p + S p ≤ M 24 q then M 24 q - S p else M 24 q) → fX5_removePiece_L40 p (M 24 p + S p) n x M5 (fun M_23 =>
  ((0 ≤ p ∧ p < 301) ∧ (∀ M_25, M_25 = gSt M_23 22 10 ((M_23 22 10) - (M_23 25 p)) → (∀ M_26, M_26 = gSt M_25 22 9 ((M_25 22 9) - 1) → Q M_26)))) Q := by
    intro n
    induction n with
    | zero => intro x M5 g1 g2 g3; omega
    | succ n ih =>
      intro x M5 g1 g2 g3 g4 g5
      have d27 : M5 27 = M1 27 := by rw [g4 27 (by decide), m4 27 (by decide)]
      have d25 : M5 25 p = S p := by rw [g4 25 (by decide), m4 25 (by decide), c25, p5]
      have rH : ∀ q, 1 ≤ q → q ≤ 300 → 0 ≤ M1 27 q ∧ M1 27 q ≤ 100000 := fun q a b => by
        rw [c27]
        split
        · omega
        · exact hR q a b
      refine ⟨⟨by omega, by omega⟩, fun hgt => ⟨⟨by omega, by omega⟩, fun M6 e6 M7 e7 => ?_⟩, fun hle => ⟨⟨by omega, by omega⟩, ?_, fun hh => ⟨⟨by omega, by omega⟩, ?_, ⟨by omega, by omega⟩, fun hlt => ?_, fun hge => ⟨⟨by omega, by omega⟩, ⟨by omega, by omega⟩, ⟨by omega, by omega⟩, fun M6 e6 => ?_⟩⟩, fun hh => ?_⟩⟩
      · -- the end
        have hx : x = 301 := by omega
        subst hx
        rw [d25] at e6
        have f22 : M5 22 = M 22 := by rw [g4 22 (by decide), m4 22 (by decide), c22]
        rw [f22] at e6
        have e9 : M6 22 9 = M 22 9 := by rw [e6, gSt_at, if_neg (by decide), f22]
        rw [e9] at e7
        have k22 : ∀ i, M7 22 i = if i = 9 then M 22 9 - 1 else if i = 10 then M 22 10 - S p else M 22 i := fun i => by rw [e7, gSt_at, e6, gSt_at, f22]
        have ko : ∀ k, k ≠ 22 → M7 k = M5 k := fun k hk => by rw [e7, gSt_ne _ _ _ _ _ hk, e6, gSt_ne _ _ _ _ _ hk]
        have k23 : M7 23 = M4 23 := by rw [ko 23 (by decide), g4 23 (by decide)]
        have k25 : M7 25 = M 25 := by rw [ko 25 (by decide), g4 25 (by decide), m4 25 (by decide), c25]
        have k26 : M7 26 = M 26 := by rw [ko 26 (by decide), g4 26 (by decide), m4 26 (by decide), c26]
        have k27 : ∀ q, M7 27 q = if q = p then 0 else M 27 q := fun q => by rw [ko 27 (by decide), d27, c27]
        have k24 : ∀ q, 1 ≤ q → q ≤ 300 → q ≠ p → 0 < S q → (M7 24 q = M 24 q ∧ M 24 q + S q ≤ M 24 p) ∨ (M7 24 q = M 24 q - S p ∧ M 24 p + S p ≤ M 24 q) := fun q a b hne hsq => by
          obtain ⟨-, -, -, q4⟩ := h1 q a b
          obtain ⟨q5, q6, q7, q8, -⟩ := q4 hsq
          rw [ko 24 (by decide), g5 q]
          have hh : 0 < M1 27 q := by rw [c27, if_neg hne]; omega
          rcases h2 q p a b hp.1 hp.2 hsq hs hne with d | d
          · rw [if_neg (by omega)]; exact Or.inl ⟨rfl, d⟩
          · rw [if_pos ⟨⟨a, by omega⟩, hh, d⟩]; exact Or.inr ⟨rfl, d⟩
        refine hQ M7 (fun k a b c => by rw [ko k a, g4 k c, m4 k b]) (fun i a b => by rw [k22, if_neg a, if_neg b]) (by rw [k22, if_neg (by decide), if_pos rfl]; omega) (by rw [k22, if_pos rfl]) ⟨fun q a b => ?_, fun q q' a b a' b' c c' hne => ?_, ?_⟩
        · obtain ⟨q1, q2, q3, q4⟩ := h1 q a b
          by_cases hne : q = p
          · simp only [if_pos hne]
            exact ⟨by omega, by omega, fun _ => by rw [k27, if_pos hne], fun g => by omega⟩
          · simp only [if_neg hne]
            refine ⟨q1, q2, fun hz => by rw [k27, if_neg hne]; exact q3 hz, fun hsq => ?_⟩
            obtain ⟨q5, q6, q7, q8, q9, q10, q11, q12⟩ := q4 hsq
            refine ⟨by rw [k25]; exact q5, by rw [k26]; exact q6, by rw [k27, if_neg hne]; exact q7, q8, q9, ?_, ?_, fun i i1 i2 => ?_⟩
            · rcases k24 q a b hne hsq with ⟨e, d⟩ | ⟨e, d⟩ <;> rw [e] <;> omega
            · rw [k22, if_neg (by decide), if_pos rfl]
              rcases k24 q a b hne hsq with ⟨e, d⟩ | ⟨e, d⟩ <;> rw [e] <;> omega
            · rw [q12 i i1 i2, k23, m23]
              rcases k24 q a b hne hsq with ⟨e, d⟩ | ⟨e, d⟩
              · rw [e, if_neg (by omega)]
              · rw [e, if_pos (by omega), show M 24 p + S p + (M 24 q - S p + i - M 24 p) = M 24 q + i by omega]
        · simp only at c c' ⊢
          have hq : q ≠ p := fun e => by rw [if_pos e] at c; omega
          have hq' : q' ≠ p := fun e => by rw [if_pos e] at c'; omega
          rw [if_neg hq] at c ⊢
          rw [if_neg hq'] at c' ⊢
          have d0 := h2 q q' a b a' b' c c' hne
          rcases k24 q a b hq c with ⟨e, d⟩ | ⟨e, d⟩ <;> rcases k24 q' a' b' hq' c' with ⟨e', d'⟩ | ⟨e', d'⟩ <;> rw [e, e'] <;> omega
        · unfold I3
          rw [k22, if_pos rfl, k22, if_neg (by decide), if_pos rfl, h3, h4]
          rw [sI_upd (g := fun p => if 0 < S (p + 1) then 1 else 0) (h := fun q => if 0 < (if q + 1 = p then 0 else S (q + 1)) then 1 else 0) (a := p - 1) (by omega) (by omega) (fun j hj => by rw [if_neg (by omega : ¬ j + 1 = p)]), sI_upd (g := fun p => S (p + 1)) (h := fun q => (if q + 1 = p then 0 else S (q + 1))) (a := p - 1) (by omega) (by omega) (fun j hj => by rw [if_neg (by omega : ¬ j + 1 = p)])]
          rw [show p - 1 + 1 = p by omega, if_pos rfl, if_neg (by omega), if_pos hs]
          omega
      · rw [d27]; have := rH x g1 (by omega); exact ⟨by omega, by omega⟩
      · rw [g5 x, if_neg (by omega)]
        rw [d27, c27] at hh
        by_cases e : x = p
        · rw [if_pos e] at hh; omega
        · rw [if_neg e] at hh
          obtain ⟨x1, x2, x3, x4⟩ := h1 x g1 (by omega)
          by_cases z : S x = 0
          · have := x3 z; omega
          · obtain ⟨q5, q6, q7, q8, q9, q10, q11, q12⟩ := x4 (by omega)
            exact ⟨by omega, by omega⟩
      · refine ih (x + 1) M5 (by omega) (by omega) (by omega) g4 (fun q => ?_)
        rw [g5 x, if_neg (by omega)] at hlt
        rw [g5 q]
        by_cases e : q = x
        · rw [e, if_neg (by omega), if_neg (by omega)]
        · by_cases c : (1 ≤ q ∧ q < x) ∧ 0 < M1 27 q ∧ M 24 p + S p ≤ M 24 q
          · rw [if_pos c, if_pos (by omega)]
          · rw [if_neg c, if_neg (by omega)]
      · rw [d25] at e6
        rw [g5 x, if_neg (by omega)] at hge e6
        refine ih (x + 1) M6 (by omega) (by omega) (by omega) (fun k hk => by rw [e6, gSt_ne _ _ _ _ _ hk, g4 k hk]) (fun q => ?_)
        rw [e6, gSt_at, g5 q]
        rw [d27] at hh
        by_cases e : q = x
        · rw [if_pos e, e, if_pos (by omega)]
        · rw [if_neg e]
          by_cases c : (1 ≤ q ∧ q < x) ∧ 0 < M1 27 q ∧ M 24 p + S p ≤ M 24 q
          · rw [if_pos c, if_pos (by omega)]
          · rw [if_neg c, if_neg (by omega)]
      · rw [d27] at hh
        refine ih (x + 1) M5 (by omega) (by omega) (by omega) g4 (fun q => ?_)
        rw [g5 q]
        by_cases e : q = x
        · rw [e, if_neg (by omega), if_neg (by omega)]
        · by_cases c : (1 ≤ q ∧ q < x) ∧ 0 < M1 27 q ∧ M 24 p + S p ≤ M 24 q
          · rw [if_pos c, if_pos (by omega)]
          · rw [if_neg c, if_neg (by omega)]
  refine key 301 1 M4 (by omega) (by omega) (by omega) (fun _ _ => rfl) (fun q => ?_)
  rw [m4 24 (by decide), c24, if_neg (by omega)]
/-- how often p stands among the first m of a row -/
def cn (row : Int → Int) (m : Nat) (p : Int) : Int := sI (fun k => if row k = p then 1 else 0) m
theorem cn_s (row : Int → Int) (m : Nat) (p : Int) : cn row (m + 1) p = cn row m p + if row m = p then 1 else 0 := rfl
theorem cn_0 (row : Int → Int) (p : Int) : cn row 0 p = 0 := rfl
theorem cn_bd (row : Int → Int) (p : Int) : ∀ m : Nat, 0 ≤ cn row m p ∧ cn row m p ≤ m
  | 0 => by rw [cn_0]; omega
  | m + 1 => by
    have := cn_bd row p m
    rw [cn_s]
    split <;> omega
theorem cn_mono (row : Int → Int) (p : Int) {j : Nat} : ∀ {m : Nat}, j ≤ m → cn row j p ≤ cn row m p
  | 0, h => by have : j = 0 := by omega
               rw [this]; omega
  | m + 1, h => by
    by_cases e : j = m + 1
    · rw [e]; omega
    · have := cn_mono row p (j := j) (m := m) (by omega)
      rw [cn_s]
      split <;> omega
theorem cn_pos {row : Int → Int} {m k : Nat} (h : k < m) : 1 ≤ cn row m (row k) := by
  have h1 := cn_mono row (row k) (j := k + 1) (m := m) (by omega)
  have h2 := cn_bd row (row k) k
  rw [cn_s, if_pos rfl] at h1
  omega
theorem cn_congr {row row' : Int → Int} {m : Nat} {p : Int} (h : ∀ k : Int, 0 ≤ k → k < m → row k = row' k) : cn row m p = cn row' m p := sI_congr (fun k h1 h2 => by rw [h k h1 h2])
theorem cn_none {row : Int → Int} {m : Nat} {p : Int} (h : ∀ k : Nat, k < m → row k ≠ p) : cn row m p = 0 := sI_zero (fun i h1 h2 => by rw [if_neg (fun e => h i.toNat (by omega) (by rw [show ((i.toNat : Nat) : Int) = i by omega]; exact e))])
theorem sp_release {k1 n1 m : Nat} {M : gMem} {S pb pr H : Int → Int} {Q : gMem → Prop} (h : SR M S pb pr H) (hU : M 22 10 ≤ 5400) (hk1 : k1 ≠ 22 ∧ k1 ≠ 23 ∧ k1 ≠ 24 ∧ k1 ≠ 27) (hm : m ≤ n1 ∧ m ≤ 600) (hrow : ∀ k : Nat, k < m → 1 ≤ M k1 k ∧ M k1 k ≤ 300) (hc : ∀ p, 1 ≤ p → p ≤ 300 → (0 < S p → cn (M k1) m p ≤ H p ∧ H p ≤ 100000) ∧ (S p = 0 → cn (M k1) m p = 0))
    (hQ : ∀ M2 : gMem, (∀ k, k ≠ 22 → k ≠ 23 → k ≠ 24 → k ≠ 27 → M2 k = M k) → (∀ i, i ≠ 9 → i ≠ 10 → M2 22 i = M 22 i) → SR M2 (fun p => if 0 < H p - cn (M k1) m p then S p else 0) pb pr (fun p => H p - cn (M k1) m p) → Q M2) : fX5_release k1 n1 m M Q := by
  have key : ∀ (w j : Nat) (M1 : gMem), j ≤ m → m - j < w → (∀ k, k ≠ 22 → k ≠ 23 → k ≠ 24 → k ≠ 27 → M1 k = M k) → (∀ i, i ≠ 9 → i ≠ 10 → M1 22 i = M 22 i) → M1 22 10 ≤ 5400 → SR M1 (fun p => if 0 < H p - cn (M k1) j p then S p else 0) pb pr (fun p => H p - cn (M k1) j p) → fX5_release_L2 k1 n1 m w j M1 Q := by
    intro w
    induction w with
    | zero => intro j M1 g1 g2; omega
    | succ w ih =>
      intro j M1 g1 g2 g3 g4 g5 g6
      have ck : M1 k1 = M k1 := g3 k1 hk1.1 hk1.2.1 hk1.2.2.1 hk1.2.2.2
      rw [fX5_release_L2, ck]
      refine ⟨⟨by omega, by omega⟩, ⟨by omega, by omega⟩, fun hlt => ?_, fun hge => ?_⟩
      · have hj : j < m := by omega
        have hp := hrow j hj
        have c1 := cn_pos (row := M k1) hj
        have c2 := cn_mono (M k1) (M k1 j) (j := j + 1) (m := m) (by omega)
        rw [cn_s, if_pos rfl] at c2
        have cs : ∀ q, cn (M k1) (j + 1) q = cn (M k1) j q + if M k1 j = q then 1 else 0 := fun q => cn_s _ _ _
        have cb := cn_bd (M k1) (M k1 j) j
        generalize hpe : M k1 (j : Int) = p at *
        obtain ⟨z1, z2, z3, z4⟩ := h.1 p hp.1 hp.2
        have hS : 0 < S p := by
          by_cases e : S p = 0
          · have := (hc p hp.1 hp.2).2 e; omega
          · omega
        have hH := (hc p hp.1 hp.2).1 hS
        obtain ⟨i1, i2, i3, i4⟩ := g6.1 p hp.1 hp.2
        simp only [if_pos (by omega : 0 < H p - cn (M k1) j p)] at i4
        obtain ⟨y1, y2, y3, y4, y5, y6, y7, y8⟩ := i4 hS
        refine ⟨⟨by omega, by omega⟩, ⟨by omega, by omega⟩, ⟨by omega, by omega⟩, fun M2 e2 => ⟨⟨by omega, by omega⟩, ?_, fun hz => ?_, fun hnz => ?_⟩⟩
        · rw [e2, gSt_eq, y3]; exact ⟨by omega, by omega⟩
        · rw [e2, gSt_eq] at hz
          rw [hz] at e2
          refine sp_removePiece g6 g5 (fun q a b => ?_) hp (by rw [if_pos (by omega : 0 < H p - cn (M k1) j p)]; exact hS) e2 (fun M3 r1 r2 r3 r4 r5 => ih (j + 1) M3 (by omega) (by omega) (fun k a b c d => by rw [r1 k a b c, e2, gSt_ne _ _ _ _ _ d, g3 k a b c d]) (fun i a b => by rw [r2 i a b, g4 i a b]) (by omega) (SR_congr r5 (fun q a b => ?_) (fun q a b hq => ?_)))
          · obtain ⟨x1, x2, x3, x4⟩ := g6.1 q a b
            obtain ⟨w1, w2, w3, w4⟩ := h.1 q a b
            by_cases e : 0 < H q - cn (M k1) j q ∧ 0 < S q
            · simp only [if_pos e.1] at x4
              have := (x4 e.2).2.2.1
              have := (hc q a b).1 e.2
              have := cn_bd (M k1) q j
              omega
            · have : (if 0 < H q - cn (M k1) j q then S q else 0) = 0 := by split <;> omega
              have := x3 this
              omega
          · simp only [cs]
            by_cases e : q = p
            · rw [if_pos e, e, if_pos rfl, if_neg (by omega)]
            · rw [if_neg e, if_neg (c := p = q) (fun g => e g.symm), Int.add_zero]
          · by_cases e : q = p
            · rw [if_pos e] at hq; omega
            · refine ⟨rfl, ?_, fun _ _ _ => rfl⟩
              rw [cs, if_neg (c := p = q) (fun g => e g.symm), Int.add_zero]
        · rw [e2, gSt_eq, y3] at hnz
          rw [y3] at e2
          refine ih (j + 1) M2 (by omega) (by omega) (fun k a b c d => by rw [e2, gSt_ne _ _ _ _ _ d, g3 k a b c d]) (fun i a b => by rw [e2, gSt_ne _ _ _ _ _ (by decide), g4 i a b]) (by rw [e2, gSt_ne _ _ _ _ _ (by decide)]; exact g5) ?_
          have o22 : M2 22 = M1 22 := by rw [e2, gSt_ne _ _ _ _ _ (by decide)]
          have o23 : M2 23 = M1 23 := by rw [e2, gSt_ne _ _ _ _ _ (by decide)]
          have o24 : M2 24 = M1 24 := by rw [e2, gSt_ne _ _ _ _ _ (by decide)]
          have o25 : M2 25 = M1 25 := by rw [e2, gSt_ne _ _ _ _ _ (by decide)]
          have o26 : M2 26 = M1 26 := by rw [e2, gSt_ne _ _ _ _ _ (by decide)]
          have o27 : ∀ q, M2 27 q = if q = p then H p - cn (M k1) j p - 1 else M1 27 q := fun q => by rw [e2, gSt_at]
          have eS : (fun q => if 0 < H q - cn (M k1) (j + 1) q then S q else 0) = (fun q => if 0 < H q - cn (M k1) j q then S q else 0) := by
            funext q
            rw [cs]
            by_cases e : p = q
            · subst e; rw [if_pos rfl, if_pos (by omega), if_pos (by omega)]
            · rw [if_neg e, Int.add_zero]
          unfold SR
          rw [o22, o23, o24, o25, o26, eS]
          refine ⟨fun q a b => ?_, g6.2.1, g6.2.2⟩
          obtain ⟨x1, x2, x3, x4⟩ := g6.1 q a b
          refine ⟨x1, x2, fun e => ?_, fun e => ?_⟩
          · rw [o27]
            by_cases eq : q = p
            · subst eq
              simp only [if_pos (by omega : 0 < H q - cn (M k1) j q)] at e
              omega
            · rw [if_neg eq]; exact x3 e
          · obtain ⟨u1, u2, u3, u4, u5, u6, u7, u8⟩ := x4 e
            have u3' : M1 27 q = H q - cn (M k1) j q := u3
            have u4' : 0 < H q - cn (M k1) j q := u4
            have uu : M2 27 q = H q - cn (M k1) (j + 1) q ∧ 0 < H q - cn (M k1) (j + 1) q := by
              rw [o27, cs]
              by_cases eq : q = p
              · subst eq
                rw [if_pos rfl, if_pos rfl]
                omega
              · rw [if_neg eq, if_neg (c := p = q) (fun g => eq g.symm), Int.add_zero]
                exact ⟨u3', u4'⟩
            exact ⟨u1, u2, uu.1, uu.2, u5, u6, u7, u8⟩
      · have : j = m := by omega
        subst this
        exact hQ M1 g3 g4 g6
  refine ⟨m + 1, key (m + 1) 0 M (by omega) (by omega) (fun _ _ _ _ _ => rfl) (fun _ _ _ => rfl) hU (SR_congr h (fun p a b => ?_) (fun p a b e => ?_))⟩
  · rw [cn_0, Int.sub_zero]
    obtain ⟨i1, i2, i3, i4⟩ := h.1 p a b
    by_cases e : 0 < S p
    · rw [if_pos (i4 e).2.2.2.1]
    · split <;> omega
  · exact ⟨rfl, by rw [cn_0, Int.sub_zero], fun _ _ _ => rfl⟩
def ndS (s : Int → Int) : Int := sI (fun p => if 0 < s (p + 1) then 1 else 0) 300
theorem sp_goes {k1 n1 m : Nat} {b : Int} {N : gMem} {Q : Int → gMem → Prop} (hk1 : k1 ≠ 16 ∧ k1 ≠ 19) (hm : m ≤ 600) (hb : 0 ≤ b ∧ b ≤ 4200 ∧ b + m ≤ n1) (hrow : ∀ k : Nat, k < m → 1 ≤ N k1 (b + k) ∧ N k1 (b + k) ≤ 300) (hc : ∀ p, 1 ≤ p → p ≤ 300 → 0 ≤ N 16 p ∧ (0 < N 16 p → cn (fun k => N k1 (b + k)) m p ≤ N 19 p ∧ N 19 p ≤ 100000 ∧ 0 < N 19 p) ∧ (N 16 p = 0 → cn (fun k => N k1 (b + k)) m p = 0))
    (hQ : ∀ N2 : gMem, (∀ k, k ≠ 16 → k ≠ 19 → N2 k = N k) → (∀ p, N2 19 p = N 19 p - cn (fun k => N k1 (b + k)) m p) → (∀ p, 1 ≤ p → p ≤ 300 → N2 16 p = if 0 < N 19 p - cn (fun k => N k1 (b + k)) m p then N 16 p else 0) → Q (ndS (N 16) - ndS (N2 16)) N2) : fX9_goes k1 n1 b m N Q := by
  have key : ∀ (w j : Nat) (N1 : gMem) (x : Int), j ≤ m → m - j < w → (∀ k, k ≠ 16 → k ≠ 19 → N1 k = N k) → (∀ p, N1 19 p = N 19 p - cn (fun k => N k1 (b + k)) j p) → (∀ p, 1 ≤ p → p ≤ 300 → N1 16 p = if 0 < N 19 p - cn (fun k => N k1 (b + k)) j p then N 16 p else 0) → x = ndS (N 16) - ndS (N1 16) → fX9_goes_L6 k1 n1 b m w x j N1 Q := by
    intro w
    induction w with
    | zero => intro j N1 x g1 g2; omega
    | succ w ih =>
      intro j N1 x g1 g2 g3 g4 g5 g6
      have ck : N1 k1 = N k1 := g3 k1 hk1.1 hk1.2
      rw [fX9_goes_L6, ck]
      refine ⟨⟨by omega, by omega⟩, ⟨by omega, by omega⟩, fun hlt => ?_, fun hge => ?_⟩
      · have hj : j < m := by omega
        have hp := hrow j hj
        have c1 := cn_pos (row := fun k => N k1 (b + k)) hj
        have c2 := cn_mono (fun k => N k1 (b + k)) (N k1 (b + j)) (j := j + 1) (m := m) (by omega)
        have cs : ∀ q, cn (fun k => N k1 (b + k)) (j + 1) q = cn (fun k => N k1 (b + k)) j q + if N k1 (b + j) = q then 1 else 0 := fun q => cn_s _ _ _
        rw [cs, if_pos rfl] at c2
        have cb := fun q => cn_bd (fun k => N k1 (b + k)) q j
        generalize hrw : (fun k => N k1 (b + k)) = row at *
        generalize hpe : N k1 (b + (j : Int)) = p at *
        obtain ⟨z1, z2, z3⟩ := hc p hp.1 hp.2
        have hS : 0 < N 16 p := by
          by_cases e : N 16 p = 0
          · have := z3 e; omega
          · omega
        have hH := z2 hS
        have cbp := cb p
        refine ⟨⟨by omega, by omega⟩, ⟨by omega, by omega⟩, ⟨by omega, by omega⟩, fun N2 e2 => ⟨⟨by omega, by omega⟩, ?_, fun hz => ?_, fun hnz => ⟨⟨by omega, by omega⟩, fun N3 e3 => ?_⟩⟩⟩
        · rw [e2, gSt_eq, g4]; exact ⟨by omega, by omega⟩
        · rw [e2, gSt_eq, g4] at hz
          rw [g4] at e2
          have o16 : N2 16 = N1 16 := by rw [e2, gSt_ne _ _ _ _ _ (by decide)]
          refine ih (j + 1) N2 x (by omega) (by omega) (fun k a c => by rw [e2, gSt_ne _ _ _ _ _ c, g3 k a c]) (fun q => ?_) (fun q a c => ?_) (by rw [o16]; exact g6)
          · rw [e2, gSt_at, cs]
            by_cases e : q = p
            · subst e; rw [if_pos rfl, if_pos rfl]; omega
            · rw [if_neg e, if_neg (fun g => e g.symm), g4]; omega
          · rw [o16, g5 q a c, cs]
            by_cases e : p = q
            · subst e; rw [if_pos rfl, if_pos (by omega), if_pos (by omega)]
            · rw [if_neg e, Int.add_zero]
        · rw [e2, gSt_eq, g4] at hnz
          rw [g4] at e2
          have e16 : ∀ q, N3 16 q = if q = p then 0 else N1 16 q := fun q => by rw [e3, gSt_at, e2, gSt_ne _ _ _ _ 16 (by decide)]
          have e19 : ∀ q, N3 19 q = if q = p then N 19 p - cn row j p - 1 else N1 19 q := fun q => by rw [e3, gSt_ne _ _ _ _ _ (by decide), e2, gSt_at]
          refine ih (j + 1) N3 (x + 1) (by omega) (by omega) (fun k a c => by rw [e3, gSt_ne _ _ _ _ _ a, e2, gSt_ne _ _ _ _ _ c, g3 k a c]) (fun q => ?_) (fun q a c => ?_) ?_
          · rw [e19, cs]
            by_cases e : q = p
            · subst e; rw [if_pos rfl, if_pos rfl]; omega
            · rw [if_neg e, if_neg (fun g => e g.symm), g4]; omega
          · rw [e16, cs]
            by_cases e : q = p
            · subst e; rw [if_pos rfl, if_pos rfl, if_neg (by omega)]
            · rw [if_neg e, if_neg (c := p = q) (fun g => e g.symm), Int.add_zero, g5 q a c]
          · have : ndS (N3 16) = ndS (N1 16) - 1 := by
              unfold ndS
              rw [sI_upd (g := fun p => if 0 < N1 16 (p + 1) then 1 else 0) (h := fun q => if 0 < N3 16 (q + 1) then 1 else 0) (a := p - 1) (by omega) (by omega) (fun i hi => by rw [e16, if_neg (by omega : ¬ i + 1 = p)])]
              rw [show p - 1 + 1 = p by omega, e16, if_pos rfl, if_neg (by omega), g5 p hp.1 hp.2, if_pos (by omega : 0 < N 19 p - cn row j p), if_pos hS]
              omega
            omega
      · have : j = m := by omega
        subst this
        rw [g6]
        exact hQ N1 g3 g4 g5
  refine ⟨m + 1, key (m + 1) 0 N 0 (by omega) (by omega) (fun _ _ _ => rfl) (fun p => by rw [cn_0]; omega) (fun p a c => ?_) (by omega)⟩
  rw [cn_0, Int.sub_zero]
  obtain ⟨z1, z2, z3⟩ := hc p a c
  by_cases e : 0 < N 16 p
  · rw [if_pos (z2 e).2.2]
  · split <;> omega
theorem Inv.upd_store {t t' : Nat} {M N M1 N1 : gMem} (h : Inv t M N) (ht : t ≤ t') (hM : ∀ k, essC k → k < 22 ∨ 38 < k → M1 k = M k) (hN : ∀ k, essM k → k ≠ 0 → k < 16 ∨ 22 < k → N1 k = N k) (h0 : ∀ i : Int, i ≠ 10 → i ≠ 13 → i ≠ 27 → N1 0 i = N 0 i) (hz : M1 15 0 = 0 ∧ M1 18 0 = 0) (hS : IS M1 N1) (hG : IG t' (M1 22 11) (N1 0 27)) : Inv t' M1 N1 := by
  obtain ⟨a, b, c, d, -, -, hh, p, -⟩ := h
  have hQ : ∀ r : Int, 0 ≤ r → r < 6 → M1 (7 + r.toNat) = M (7 + r.toNat) := fun r h1 h2 => hM _ (by unfold essC; omega) (by omega)
  refine ⟨?_, ?_, ?_, ?_, hS, hG, ?_, ?_, hz⟩
  · rw [hM 2 (by simp [essC]) (by omega), hM 3 (by simp [essC]) (by omega), hN 1 (by simp [essM]) (by decide) (by omega), hN 2 (by simp [essM]) (by decide) (by omega)]; exact a
  · rw [hM 4 (by simp [essC]) (by omega), hM 5 (by simp [essC]) (by omega), h0 3 (by decide) (by decide) (by decide), hN 3 (by simp [essM]) (by decide) (by omega)]; exact b
  · rw [hN 4 (by simp [essM]) (by decide) (by omega), hN 5 (by simp [essM]) (by decide) (by omega), hN 6 (by simp [essM]) (by decide) (by omega), hN 7 (by simp [essM]) (by decide) (by omega), hN 8 (by simp [essM]) (by decide) (by omega), hN 9 (by simp [essM]) (by decide) (by omega)]; exact IC_congr hQ c
  · rw [hM 0 (by simp [essC]) (by omega), h0 14 (by decide) (by decide) (by decide), h0 15 (by decide) (by decide) (by decide)]; exact d
  · rw [hM 39 (by simp [essC]) (by omega), hM 45 (by simp [essC]) (by omega), hM 46 (by simp [essC]) (by omega), hM 47 (by simp [essC]) (by omega), h0 33 (by decide) (by decide) (by decide), hN 28 (by simp [essM]) (by decide) (by omega), hN 29 (by simp [essM]) (by decide) (by omega), hN 30 (by simp [essM]) (by decide) (by omega)]; exact hh
  · rw [hM 41 (by simp [essC]) (by omega), hM 44 (by simp [essC]) (by omega)]; exact ⟨p.1, by have := p.2.1; omega, p.2.2⟩
