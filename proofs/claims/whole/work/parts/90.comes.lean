/-! THE STORE: pieces come -/
/-- the piece p has these bytes -/
def alZ (Z : gMem) (b : Int → Int) (s l p : Int) : Prop := Z 16 p = l ∧ ∀ i, 0 ≤ i → i < l → Z 17 (200 * p + i) = b (s + i)
/-- how many pieces up to n have this print and this size -/
def mc (Z : gMem) (v l : Int) : Nat → Int
  | 0 => 0
  | n + 1 => mc Z v l n + if 0 < Z 16 (n + 1) ∧ Z 18 (n + 1) = v ∧ Z 16 (n + 1) = l then 1 else 0
theorem mc_bd (Z : gMem) (v l : Int) : ∀ n : Nat, 0 ≤ mc Z v l n ∧ mc Z v l n ≤ n
  | 0 => by rw [mc]; omega
  | n + 1 => by
    have := mc_bd Z v l n
    rw [mc]
    split <;> omega
def LA (Z : gMem) (b : Int → Int) (s l p : Int) : Prop := (1 ≤ p ∧ p ≤ 300) ∧ alZ Z b s l p ∧ ∀ q, 1 ≤ q → q < p → ¬ alZ Z b s l q
def LF (Z : gMem) (p : Int) : Prop := (1 ≤ p ∧ p ≤ 300) ∧ Z 16 p = 0 ∧ ∀ q, 1 ≤ q → q < p → Z 16 q ≠ 0
def coF (Z : gMem) (j l v p : Int) : gMem := fun k i => if k = 0 ∧ i = 27 then Z 0 27 + mc Z v l (p - 1).toNat else if k = 19 ∧ i = p then Z 19 p + 1 else if k = 22 ∧ i = j then p else Z k i
def coN (Z : gMem) (b : Int → Int) (j s l v p : Int) : gMem := fun k i => if k = 0 ∧ i = 27 then Z 0 27 + mc Z v l 300 else if k = 16 ∧ i = p then l else if k = 17 ∧ (200 * p ≤ i ∧ i < 200 * p + l) then b (s + (i - 200 * p)) else if k = 18 ∧ i = p then v else if k = 19 ∧ i = p then 1 else if k = 22 ∧ i = j then p else Z k i
theorem coF_o {Z : gMem} {j l v p : Int} {k : Nat} (h : k ≠ 0 ∧ k ≠ 19 ∧ k ≠ 22) : coF Z j l v p k = Z k := by
  funext i
  simp [coF, h.1, h.2.1, h.2.2]
theorem coF_0 (Z : gMem) (j l v p i : Int) : coF Z j l v p 0 i = if i = 27 then Z 0 27 + mc Z v l (p - 1).toNat else Z 0 i := by simp [coF]
theorem coF_19 (Z : gMem) (j l v p i : Int) : coF Z j l v p 19 i = if i = p then Z 19 p + 1 else Z 19 i := by simp [coF]
theorem coF_22 (Z : gMem) (j l v p i : Int) : coF Z j l v p 22 i = if i = j then p else Z 22 i := by simp [coF]
theorem coN_o {Z : gMem} {b : Int → Int} {j s l v p : Int} {k : Nat} (h : k ≠ 0 ∧ k ≠ 16 ∧ k ≠ 17 ∧ k ≠ 18 ∧ k ≠ 19 ∧ k ≠ 22) : coN Z b j s l v p k = Z k := by
  funext i
  simp [coN, h.1, h.2.1, h.2.2]
theorem coN_0 (Z : gMem) (b : Int → Int) (j s l v p i : Int) : coN Z b j s l v p 0 i = if i = 27 then Z 0 27 + mc Z v l 300 else Z 0 i := by simp [coN]
theorem coN_16 (Z : gMem) (b : Int → Int) (j s l v p i : Int) : coN Z b j s l v p 16 i = if i = p then l else Z 16 i := by simp [coN]
theorem coN_17 (Z : gMem) (b : Int → Int) (j s l v p i : Int) : coN Z b j s l v p 17 i = if 200 * p ≤ i ∧ i < 200 * p + l then b (s + (i - 200 * p)) else Z 17 i := by simp [coN]
theorem coN_18 (Z : gMem) (b : Int → Int) (j s l v p i : Int) : coN Z b j s l v p 18 i = if i = p then v else Z 18 i := by simp [coN]
theorem coN_19 (Z : gMem) (b : Int → Int) (j s l v p i : Int) : coN Z b j s l v p 19 i = if i = p then 1 else Z 19 i := by simp [coN]
theorem coN_22 (Z : gMem) (b : Int → Int) (j s l v p i : Int) : coN Z b j s l v p 22 i = if i = j then p else Z 22 i := by simp [coN]
/-- print of the piece k -/
def pP (N : gMem) (r f : Int) (k : Nat) : Int := PR (fun i => N 2 (pS N r f k + i)) (pL N r f k)
/-- the piece k comes into THE STORE Z -/
def Step (N : gMem) (r f : Int) (k : Nat) (Z Z' : gMem) : Prop :=
  (∃ p, LA Z (N 2) (pS N r f k) (pL N r f k) p ∧ Z' = coF Z (600 * f + k) (pL N r f k) (pP N r f k) p) ∨
  ((∀ q, 1 ≤ q → q ≤ 300 → ¬ alZ Z (N 2) (pS N r f k) (pL N r f k) q) ∧ ∃ p, LF Z p ∧ Z' = coN Z (N 2) (600 * f + k) (pS N r f k) (pL N r f k) (pP N r f k) p)
def CS (N : gMem) (r f : Int) : Nat → gMem → Prop
  | 0, Z => Z = N
  | k + 1, Z => ∃ Z', CS N r f k Z' ∧ Step N r f k Z' Z
theorem LA_un {Z : gMem} {b : Int → Int} {s l p p' : Int} (h : LA Z b s l p) (h' : LA Z b s l p') : p = p' := by
  rcases Int.lt_trichotomy p p' with c | c | c
  · exact absurd h.2.1 (h'.2.2 p h.1.1 c)
  · exact c
  · exact absurd h'.2.1 (h.2.2 p' h'.1.1 c)
theorem LF_un {Z : gMem} {p p' : Int} (h : LF Z p) (h' : LF Z p') : p = p' := by
  rcases Int.lt_trichotomy p p' with c | c | c
  · exact absurd h.2.1 (h'.2.2 p h.1.1 c)
  · exact c
  · exact absurd h'.2.1 (h.2.2 p' h'.1.1 c)
theorem Step_un {N : gMem} {r f : Int} {k : Nat} {Z A B : gMem} (h : Step N r f k Z A) (h' : Step N r f k Z B) : A = B := by
  rcases h with ⟨p, h1, h2⟩ | ⟨h1, p, h2, h3⟩ <;> rcases h' with ⟨q, g1, g2⟩ | ⟨g1, q, g2, g3⟩
  · rw [h2, g2, LA_un h1 g1]
  · exact absurd h1.2.1 (g1 p h1.1.1 h1.1.2)
  · exact absurd g1.2.1 (h1 q g1.1.1 g1.1.2)
  · rw [h3, g3, LF_un h2 g2]
theorem CS_un {N : gMem} {r f : Int} : ∀ {k : Nat} {A B : gMem}, CS N r f k A → CS N r f k B → A = B
  | 0, _, _, h, h' => h.trans h'.symm
  | k + 1, _, _, ⟨Z, h1, h2⟩, ⟨Z', h1', h2'⟩ => by
    rw [CS_un h1 h1'] at h2
    exact Step_un h2 h2'
theorem CS_pre {N : gMem} {r f : Int} : ∀ {n : Nat} {Z : gMem}, CS N r f n Z → ∀ k, k < n → ∃ A B, CS N r f k A ∧ Step N r f k A B
  | 0, _, _, k, hk => by omega
  | n + 1, Z, ⟨Z', h1, h2⟩, k, hk => by
    by_cases c : k = n
    · subst c; exact ⟨Z', Z, h1, h2⟩
    · exact CS_pre h1 k (by omega)
/-- a stored piece or an earlier one is alike to the piece k -/
def hsQ (N : gMem) (r f : Int) (k : Nat) : Prop := (∃ p, (1 ≤ p ∧ p ≤ 300) ∧ alZ N (N 2) (pS N r f k) (pL N r f k) p) ∨ ∃ i, i < k ∧ AL (N 2) (pS N r f i) (pL N r f i) (pS N r f k) (pL N r f k)
/-- so many of the first k pieces are new -/
def LK (N : gMem) (r f : Int) : Nat → Int → Prop
  | 0, v => v = 0
  | k + 1, v => ∃ v', LK N r f k v' ∧ ((hsQ N r f k ∧ v = v') ∨ (¬ hsQ N r f k ∧ v = v' + 1))
theorem LK_un {N : gMem} {r f : Int} : ∀ {k : Nat} {v v' : Int}, LK N r f k v → LK N r f k v' → v = v'
  | 0, _, _, h, h' => h.trans h'.symm
  | k + 1, _, _, ⟨a, h1, h2⟩, ⟨b, h1', h2'⟩ => by
    have := LK_un h1 h1'
    rcases h2 with ⟨p, q⟩ | ⟨p, q⟩ <;> rcases h2' with ⟨p', q'⟩ | ⟨p', q'⟩
    · omega
    · exact absurd p p'
    · exact absurd p' p
    · omega
theorem LK_le {N : gMem} {r f : Int} {k : Nat} {v : Int} (h : LK N r f k v) : ∀ {n : Nat} {w : Int}, k ≤ n → LK N r f n w → v ≤ w
  | 0, w, hk, h' => by
    have : k = 0 := by omega
    subst this
    have := LK_un h h'
    omega
  | n + 1, w, hk, h' => by
    by_cases c : k = n + 1
    · subst c; have := LK_un h h'; omega
    · obtain ⟨a, h1, h2⟩ := h'
      have := LK_le h (n := n) (by omega) h1
      rcases h2 with ⟨p, q⟩ | ⟨p, q⟩ <;> omega
theorem LK_bd {N : gMem} {r f : Int} : ∀ {k : Nat} {v : Int}, LK N r f k v → 0 ≤ v ∧ v ≤ k
  | 0, v, h => by have : v = 0 := h; omega
  | k + 1, v, ⟨a, h1, h2⟩ => by
    have := LK_bd h1
    rcases h2 with ⟨p, q⟩ | ⟨p, q⟩ <;> omega
def Wt (hd sz : Int → Int) : Int := sI (fun p => hd (p + 1) * sz (p + 1)) 300
/-- what holds after k pieces have come -/
def CI (N : gMem) (r f : Int) (k : Nat) (Z : gMem) : Prop :=
  (∀ p, 1 ≤ p → p ≤ 300 → (0 ≤ Z 16 p ∧ Z 16 p ≤ 200) ∧ (0 < N 16 p → Z 16 p = N 16 p ∧ Z 18 p = N 18 p ∧ (∀ i, 0 ≤ i → i < N 16 p → Z 17 (200 * p + i) = N 17 (200 * p + i)) ∧ Z 19 p = N 19 p + cn (fun i => Z 22 (600 * f + i)) k p) ∧ (N 16 p = 0 → 0 < Z 16 p → Z 19 p = cn (fun i => Z 22 (600 * f + i)) k p ∧ 0 < cn (fun i => Z 22 (600 * f + i)) k p) ∧ (Z 16 p = 0 → cn (fun i => Z 22 (600 * f + i)) k p = 0)) ∧
  (∀ p, 1 ≤ p → p ≤ 300 → 0 < Z 16 p → 0 < N 16 p ∨ ∃ i, i < k ∧ alZ Z (N 2) (pS N r f i) (pL N r f i) p) ∧
  (∀ i : Nat, i < k → (1 ≤ Z 22 (600 * f + i) ∧ Z 22 (600 * f + i) ≤ 300) ∧ alZ Z (N 2) (pS N r f i) (pL N r f i) (Z 22 (600 * f + i))) ∧
  (∃ v, LK N r f k v ∧ ndS (Z 16) = ndS (N 16) + v) ∧
  Wt (Z 19) (Z 16) = Wt (N 19) (N 16) + cp N r f k ∧
  (N 0 27 ≤ Z 0 27 ∧ Z 0 27 ≤ N 0 27 + 300 * k) ∧
  ((∀ k', k' ≠ 0 → k' ≠ 16 → k' ≠ 17 → k' ≠ 18 → k' ≠ 19 → k' ≠ 22 → Z k' = N k') ∧ (∀ i, i ≠ 27 → Z 0 i = N 0 i) ∧ (∀ j, j < 600 * f ∨ 600 * f + k ≤ j → Z 22 j = N 22 j))
theorem CI_has {N Z : gMem} {r f : Int} {k : Nat} (h : CI N r f k Z) (hl : 1 ≤ pL N r f k) : (∃ q, (1 ≤ q ∧ q ≤ 300) ∧ alZ Z (N 2) (pS N r f k) (pL N r f k) q) ↔ hsQ N r f k := by
  obtain ⟨c1, c2, c3, -⟩ := h
  constructor
  · rintro ⟨q, hq, a1, a2⟩
    rcases c2 q hq.1 hq.2 (by omega) with g | ⟨i, hi, g1, g2⟩
    · obtain ⟨b1, b2, b3, b4⟩ := (c1 q hq.1 hq.2).2.1 g
      refine Or.inl ⟨q, hq, by omega, fun i i1 i2 => ?_⟩
      rw [← b3 i i1 (by omega)]
      exact a2 i i1 i2
    · refine Or.inr ⟨i, hi, by omega, fun x x1 x2 => ?_⟩
      rw [← g2 x x1 x2, a2 x x1 (by omega)]
  · rintro (⟨p, hp, a1, a2⟩ | ⟨i, hi, a1, a2⟩)
    · obtain ⟨b1, b2, b3, b4⟩ := (c1 p hp.1 hp.2).2.1 (by omega)
      refine ⟨p, hp, by omega, fun i i1 i2 => ?_⟩
      rw [b3 i i1 (by omega)]
      exact a2 i i1 i2
    · obtain ⟨b1, b2, b3⟩ := c3 i hi
      refine ⟨_, b1, by omega, fun x x1 x2 => ?_⟩
      rw [b3 x x1 (by omega)]
      exact a2 x x1 (by omega)
theorem cn_new {Z Z' : gMem} {f p : Int} {k : Nat} (h : ∀ i, Z' 22 i = if i = 600 * f + k then p else Z 22 i) (q : Int) : cn (fun i => Z' 22 (600 * f + i)) (k + 1) q = cn (fun i => Z 22 (600 * f + i)) k q + if p = q then 1 else 0 := by
  rw [cn_s, h (600 * f + k), if_pos rfl, cn_congr (row := fun i => Z' 22 (600 * f + i)) (row' := fun i => Z 22 (600 * f + i)) (fun i i1 i2 => by rw [h, if_neg (by omega)])]
theorem CI_step {N Z Z' : gMem} {r f : Int} {k : Nat} (hN : ∀ p, 1 ≤ p → p ≤ 300 → 0 ≤ N 16 p) (h : CI N r f k Z) (hl : 1 ≤ pL N r f k ∧ pL N r f k ≤ 200) (hs : Step N r f k Z Z') : CI N r f (k + 1) Z' := by
  have hq := CI_has h hl.1
  obtain ⟨c1, c2, c3, ⟨v, c4, c4'⟩, c5, c6, c7, c8, c9⟩ := h
  have ecp : cp N r f (k + 1) = cp N r f k + pL N r f k := by unfold pL; omega
  rcases hs with ⟨p, ⟨hp, al, hmin⟩, e⟩ | ⟨hno, p, ⟨hp, hz, hmin⟩, e⟩
  · have e16 : Z' 16 = Z 16 := by rw [e, coF_o (by decide)]
    have e17 : Z' 17 = Z 17 := by rw [e, coF_o (by decide)]
    have e18 : Z' 18 = Z 18 := by rw [e, coF_o (by decide)]
    have e19 : ∀ i, Z' 19 i = if i = p then Z 19 p + 1 else Z 19 i := fun i => by rw [e, coF_19]
    have e22 : ∀ i, Z' 22 i = if i = 600 * f + k then p else Z 22 i := fun i => by rw [e, coF_22]
    have e0 : ∀ i, Z' 0 i = if i = 27 then Z 0 27 + mc Z (pP N r f k) (pL N r f k) (p - 1).toNat else Z 0 i := fun i => by rw [e, coF_0]
    have cs := cn_new e22
    have hal : ∀ s l q, alZ Z' (N 2) s l q ↔ alZ Z (N 2) s l q := fun s l q => by unfold alZ; rw [e16, e17]
    have hpz : Z 16 p = pL N r f k := al.1
    refine ⟨fun q a b => ?_, fun q a b c => ?_, fun i hi => ?_, ⟨v, ⟨v, c4, Or.inl ⟨hq.mp ⟨p, hp, al⟩, rfl⟩⟩, by rw [e16]; exact c4'⟩, ?_, ?_, fun k' k1 k2 k3 k4 k5 k6 => ?_, fun i hi => ?_, fun j hj => ?_⟩
    · obtain ⟨d1, d2, d3, d4⟩ := c1 q a b
      rw [e16, e17, e18, e19, cs]
      refine ⟨d1, fun g => ?_, fun g g' => ?_, fun g => ?_⟩
      · obtain ⟨f1, f2, f3, f4⟩ := d2 g
        refine ⟨f1, f2, f3, ?_⟩
        by_cases c : q = p
        · subst c; rw [if_pos rfl, if_pos rfl, f4]; omega
        · rw [if_neg c, if_neg (fun g => c g.symm), f4]; omega
      · obtain ⟨f1, f2⟩ := d3 g g'
        by_cases c : q = p
        · subst c; rw [if_pos rfl, if_pos rfl]; omega
        · rw [if_neg c, if_neg (fun g => c g.symm)]; omega
      · have c : ¬ p = q := fun c => by subst c; omega
        rw [if_neg c, d4 g]; omega
    · rw [e16] at c
      rcases c2 q a b c with g | ⟨i, hi, g⟩
      · exact Or.inl g
      · exact Or.inr ⟨i, by omega, (hal _ _ _).mpr g⟩
    · by_cases c : i = k
      · subst c
        rw [e22, if_pos rfl]
        exact ⟨hp, (hal _ _ _).mpr al⟩
      · rw [e22, if_neg (by omega)]
        obtain ⟨g1, g2⟩ := c3 i (by omega)
        exact ⟨g1, (hal _ _ _).mpr g2⟩
    · rw [ecp, ← Int.add_assoc, ← c5]
      unfold Wt
      rw [sI_updr (g := fun p => Z 19 (p + 1) * Z 16 (p + 1)) (h := fun p => Z' 19 (p + 1) * Z' 16 (p + 1)) (a := p - 1) (by omega) (by omega) (fun j j1 j2 j3 => by rw [e19, if_neg (by omega), e16])]
      rw [show p - 1 + 1 = p by omega, e19, if_pos rfl, e16, hpz, Int.add_mul, Int.one_mul]
      omega
    · rw [e0, if_pos rfl]
      have := mc_bd Z (pP N r f k) (pL N r f k) (p - 1).toNat
      omega
    · rw [e, coF_o (by omega), c7 k' k1 k2 k3 k4 k5 k6]
    · rw [e0, if_neg hi, c8 i hi]
    · rw [e22, if_neg (by omega), c9 j (by omega)]
  · have e16 : ∀ i, Z' 16 i = if i = p then pL N r f k else Z 16 i := fun i => by rw [e, coN_16]
    have e17 : ∀ i, Z' 17 i = if 200 * p ≤ i ∧ i < 200 * p + pL N r f k then N 2 (pS N r f k + (i - 200 * p)) else Z 17 i := fun i => by rw [e, coN_17]
    have e18 : ∀ i, Z' 18 i = if i = p then pP N r f k else Z 18 i := fun i => by rw [e, coN_18]
    have e19 : ∀ i, Z' 19 i = if i = p then 1 else Z 19 i := fun i => by rw [e, coN_19]
    have e22 : ∀ i, Z' 22 i = if i = 600 * f + k then p else Z 22 i := fun i => by rw [e, coN_22]
    have e0 : ∀ i, Z' 0 i = if i = 27 then Z 0 27 + mc Z (pP N r f k) (pL N r f k) 300 else Z 0 i := fun i => by rw [e, coN_0]
    have cs := cn_new e22
    have hN0 : N 16 p = 0 := by
      obtain ⟨d1, d2, d3, d4⟩ := c1 p hp.1 hp.2
      have := hN p hp.1 hp.2
      by_cases g : N 16 p = 0
      · exact g
      · have := (d2 (by omega)).1; omega
    have hc0 := (c1 p hp.1 hp.2).2.2.2 hz
    have hal : ∀ s l q, q ≠ p → 1 ≤ l → l ≤ 200 → alZ Z (N 2) s l q → alZ Z' (N 2) s l q := fun s l q hne hl1 hl2 g => by
      refine ⟨by rw [e16, if_neg hne]; exact g.1, fun i i1 i2 => ?_⟩
      rw [e17, if_neg (by omega)]
      exact g.2 i i1 i2
    have halp : alZ Z' (N 2) (pS N r f k) (pL N r f k) p := by
      refine ⟨by rw [e16, if_pos rfl], fun i i1 i2 => ?_⟩
      rw [e17, if_pos (by omega), show 200 * p + i - 200 * p = i by omega]
    refine ⟨fun q a b => ?_, fun q a b c => ?_, fun i hi => ?_, ⟨v + 1, ⟨v, c4, Or.inr ⟨fun g => ?_, rfl⟩⟩, ?_⟩, ?_, ?_, fun k' k1 k2 k3 k4 k5 k6 => ?_, fun i hi => ?_, fun j hj => ?_⟩
    · obtain ⟨d1, d2, d3, d4⟩ := c1 q a b
      rw [e16, e18, e19, cs]
      by_cases c : q = p
      · subst c
        rw [if_pos rfl, if_pos rfl, if_pos rfl, if_pos rfl, hc0]
        exact ⟨by omega, fun g => by omega, fun _ _ => by omega, fun g => by omega⟩
      · rw [if_neg c, if_neg c, if_neg c, if_neg (fun g => c g.symm), Int.add_zero]
        refine ⟨d1, fun g => ?_, d3, d4⟩
        obtain ⟨f1, f2, f3, f4⟩ := d2 g
        refine ⟨f1, f2, fun i i1 i2 => ?_, f4⟩
        rw [e17, if_neg (by omega)]
        exact f3 i i1 i2
    · by_cases c' : q = p
      · subst c'; exact Or.inr ⟨k, by omega, halp⟩
      · rw [e16, if_neg c'] at c
        rcases c2 q a b c with g | ⟨i, hi, g⟩
        · exact Or.inl g
        · have hb := (c1 q a b).1
          have := g.1
          exact Or.inr ⟨i, by omega, hal _ _ _ c' (by omega) (by omega) g⟩
    · by_cases c : i = k
      · subst c
        rw [e22, if_pos rfl]
        exact ⟨hp, halp⟩
      · rw [e22, if_neg (by omega)]
        obtain ⟨g1, g2⟩ := c3 i (by omega)
        have hb := (c1 _ g1.1 g1.2).1
        have g3 := g2.1
        have c0 := (c1 _ g1.1 g1.2).2.2.2
        have hpos : 1 ≤ cn (fun i => Z 22 (600 * f + i)) k (Z 22 (600 * f + i)) := cn_pos (row := fun i => Z 22 (600 * f + i)) (by omega : i < k)
        have hne : Z 22 (600 * f + i) ≠ p := fun ee => by rw [ee] at hpos; omega
        have hnz : Z 16 (Z 22 (600 * f + i)) ≠ 0 := fun ee => by have := c0 ee; omega
        exact ⟨g1, hal _ _ _ hne (by omega) (by omega) g2⟩
    · obtain ⟨q, q1, q2⟩ := hq.mpr g
      exact hno q q1.1 q1.2 q2
    · unfold ndS at *
      rw [sI_updr (g := fun p => if 0 < Z 16 (p + 1) then 1 else 0) (h := fun p => if 0 < Z' 16 (p + 1) then 1 else 0) (a := p - 1) (by omega) (by omega) (fun j j1 j2 j3 => by rw [e16, if_neg (by omega : ¬ j + 1 = p)]), c4']
      rw [show p - 1 + 1 = p by omega, e16, if_pos rfl, if_pos (by omega), if_neg (by omega)]
      omega
    · rw [ecp, ← Int.add_assoc, ← c5]
      unfold Wt
      rw [sI_updr (g := fun p => Z 19 (p + 1) * Z 16 (p + 1)) (h := fun p => Z' 19 (p + 1) * Z' 16 (p + 1)) (a := p - 1) (by omega) (by omega) (fun j j1 j2 j3 => by rw [e19, if_neg (by omega), e16, if_neg (by omega)])]
      rw [show p - 1 + 1 = p by omega, e19, if_pos rfl, e16, if_pos rfl, hz, Int.mul_zero, Int.one_mul]
      omega
    · rw [e0, if_pos rfl]
      have := mc_bd Z (pP N r f k) (pL N r f k) 300
      omega
    · rw [e, coN_o (by omega), c7 k' k1 k2 k3 k4 k5 k6]
    · rw [e0, if_neg hi, c8 i hi]
    · rw [e22, if_neg (by omega), c9 j (by omega)]
theorem CI_0 {N : gMem} {r f : Int} (hN : ∀ p, 1 ≤ p → p ≤ 300 → 0 ≤ N 16 p ∧ N 16 p ≤ 200) : CI N r f 0 N := by
  refine ⟨fun p a b => ⟨hN p a b, fun _ => ⟨rfl, rfl, fun _ _ _ => rfl, by rw [cn_0]; omega⟩, fun h h' => by omega, fun _ => cn_0 _ _⟩, fun p a b h => Or.inl h, fun i hi => by omega, ⟨0, rfl, by omega⟩, by rw [cp]; omega, by omega, fun _ _ _ _ _ _ _ => rfl, fun _ _ => rfl, fun _ _ => rfl⟩
theorem CS_CI {t : Nat} {M N : gMem} (hI : Inv t M N) {r f : Int} {n : Nat} (hr : 0 ≤ r ∧ r < 6) (hs : 0 < N 4 r) (hf : 0 ≤ f ∧ f < 8) (hn : CN N r f n) : ∀ {k : Nat} {Z : gMem}, k ≤ n → CS N r f k Z → CI N r f k Z
  | 0, Z, _, h => by
    have : Z = N := h
    subst this
    exact CI_0 (fun p a b => by have := hI.2.2.2.2.1.1 p a b; omega)
  | k + 1, Z, hk, ⟨Z', h1, h2⟩ => by
    have h3 := CS_CI hI hr hs hf hn (by omega) h1
    have h4 := CN_st (ru_of hI hr hs) hn (by omega : k < n)
    exact CI_step (fun p a b => (hI.2.2.2.2.1.1 p a b).1) h3 (by unfold pL; omega) h2
