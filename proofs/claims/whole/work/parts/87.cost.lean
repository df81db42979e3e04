/-! cost, best -/
def ch (x f : Int) : Prop := shr x f % 2 = 1
/-- the pieces of the chosen FILES before f -/
def GT (N : gMem) (r x : Int) : Nat → Int → Int → Prop
  | 0 => fun _ _ => False
  | f + 1 => fun s l => GT N r x f s l ∨ (ch x f ∧ ∃ n, CN N r f n ∧ ∃ i, i < n ∧ s = pS N r f i ∧ l = pL N r f i)
/-- of the chosen FILES before f: v bytes and c pieces that differ, m numbers -/
def GB (N : gMem) (r x : Int) : Nat → Int → Int → Int → Prop
  | 0, v, c, m => v = 0 ∧ c = 0 ∧ m = 0
  | f + 1, v, c, m => (¬ ch x f ∧ GB N r x f v c m) ∨ (ch x f ∧ ∃ v' c' m' dv dc, ∃ n : Nat, GB N r x f v' c' m' ∧ CN N r f n ∧ FB N r f (GT N r x f) n dv dc ∧ v = v' + dv ∧ c = c' + dc ∧ m = m' + n)
theorem GT_no {N : gMem} {r x : Int} {f : Nat} (h : ¬ ch x f) : GT N r x (f + 1) = GT N r x f := by
  funext s l
  apply propext
  constructor
  · rintro (g | ⟨g, -⟩)
    · exact g
    · exact absurd g h
  · exact Or.inl
theorem GT_yes {N : gMem} {r x : Int} {f n : Nat} (h : ch x f) (hn : CN N r f n) : GT N r x (f + 1) = Tk N r f (GT N r x f) n := by
  funext s l
  apply propext
  constructor
  · rintro (g | ⟨-, n', hn', g⟩)
    · exact Or.inl g
    · rw [CN_un hn' hn] at g
      exact Or.inr g
  · rintro (g | g)
    · exact Or.inl g
    · exact Or.inr ⟨h, n, hn, g⟩
theorem GB_un {N : gMem} {r x : Int} : ∀ {f : Nat} {v c m v' c' m' : Int}, GB N r x f v c m → GB N r x f v' c' m' → v = v' ∧ c = c' ∧ m = m'
  | 0, _, _, _, _, _, _, h, h' => ⟨h.1.trans h'.1.symm, h.2.1.trans h'.2.1.symm, h.2.2.trans h'.2.2.symm⟩
  | f + 1, v, c, m, v', c', m', h, h' => by
    rcases h with ⟨h1, h2⟩ | ⟨h1, a, b, d, dv, dc, n, g1, g2, g3, g4, g5, g6⟩ <;> rcases h' with ⟨h1', h2'⟩ | ⟨h1', a', b', d', dv', dc', n', g1', g2', g3', g4', g5', g6'⟩
    · exact GB_un h2 h2'
    · exact absurd h1' h1
    · exact absurd h1 h1'
    · have e1 := GB_un g1 g1'
      have e2 := CN_un g2 g2'
      subst e2
      have e3 := FB_un g3 g3'
      omega
theorem GB_bd {t : Nat} {M N : gMem} (hI : Inv t M N) {r x : Int} (hr : 0 ≤ r ∧ r < 6) (hs : 0 < N 4 r) : ∀ {f : Nat}, f ≤ 8 → ∀ {v c m : Int}, GB N r x f v c m → 0 ≤ v ∧ v ≤ 600 * f ∧ 0 ≤ c ∧ c ≤ 600 * f ∧ 0 ≤ m ∧ m ≤ 600 * f
  | 0, _, v, c, m, h => by have := h.1; have := h.2.1; have := h.2.2; omega
  | f + 1, hf, v, c, m, h => by
    rcases h with ⟨h1, h2⟩ | ⟨h1, a, b, d, dv, dc, n, g1, g2, g3, g4, g5, g6⟩
    · have := GB_bd hI hr hs (by omega) h2; omega
    · have e1 := GB_bd hI hr hs (by omega) g1
      have e2 := FB_bd (ru_of hI hr hs) g2 (Nat.le_refl n) g3
      have e3 := g2.1
      have e4 := g2.2.1
      have e5 := (by_of hI (f := (f : Int)) (by omega)).1
      omega
theorem sp_room {t : Nat} {M N M' : gMem} (hI : Inv t M N) (hM : ∀ k, essC k → M' k = M k) (hz : M' 15 0 = 0 ∧ M' 18 0 = 0) {r x : Int} (rx : rg x) (hr : 0 ≤ r ∧ r < 6) (hs : 0 < N 4 r) {Q : Int → gMem → Prop}
    (hQ : ∀ (v c m : Int) (M2 : gMem), GB N r x 8 v c m → (∀ k, essC k → M2 k = M k) → (M2 15 0 = 0 ∧ M2 18 0 = 0) → Q (v + M 0 8 * c + M 0 9 * m) M2) : fX8_roomByRule (7 + r.toNat) x M' Q := by
  refine DT_0 (N := N) (fun M1 a1 a2 a3 => ⟨9, ?_⟩)
  have key : ∀ (u f : Nat) (v c m : Int) (M2 : gMem), f ≤ 8 → 8 - f < u → GB N r x f v c m → (∀ k, essC k → M2 k = M k) → (M2 15 0 = 0 ∧ M2 18 0 = 0) → M2 19 3 = c → (∃ c', c' ≤ 600 * (f : Int) ∧ DT N M2 (GT N r x f) c') → fX8_roomByRule_L15 (7 + r.toNat) x u v m f M2 (fun x3_11 x4_12 M_13 => (fX8_roomOf x3_11 (M_13 19 3) x4_12 M_13 (fun r_14 => Q r_14 M_13))) Q := by
    intro u
    induction u with
    | zero => intro f v c m M2 g1 g2; omega
    | succ u ih =>
      intro f v c m M2 g1 g2 g3 g4 g5 g6 g7
      rw [fX8_roomByRule_L15, band_1]
      refine ⟨⟨by omega, by omega⟩, fun hlt => ⟨rx, ⟨by omega, by omega⟩, ⟨by omega, by omega⟩, fun hc => ?_, fun hc => ?_⟩, fun hge => ?_⟩
      · have hf : 0 ≤ (f : Int) ∧ (f : Int) < 8 := by omega
        obtain ⟨n, hn⟩ := cn_ex hI hr hs hf
        have hn6 := hn.1
        refine sp_divide hI g4 g5.1 (Or.inl rfl) hr hs hf hn (fun M3 m1 m2 m3 m4 => ?_)
        have hM3 : ∀ k, essC k → M3 k = M k := fun k hk => by rw [m1 k (by unfold essC at hk; omega) (by unfold essC at hk; omega) (by unfold essC at hk; omega), g4 k hk]
        have c19 : M3 19 = M2 19 := m1 19 (by decide) (by decide) (by decide)
        have c20 : M3 20 = M2 20 := m1 20 (by decide) (by decide) (by decide)
        have c21 : M3 21 = M2 21 := m1 21 (by decide) (by decide) (by decide)
        obtain ⟨c', hc', g7⟩ := g7
        have g7' : DT N M3 (GT N r x f) c' := by unfold DT; rw [c19, c20, c21]; exact g7
        refine sp_addPieces hI hM3 hr hs hf hn g7' (by omega) m2 m3 m4 (fun dv dc M4 b1 b2 b3 b4 => ?_)
        have c13 : M4 13 = M3 13 := b2 13 (by decide) (by decide) (by decide)
        rw [c13, m2]
        refine ih (f + 1) (v + dv) (c + dc) (m + n) M4 (by omega) (by omega) (Or.inr ⟨hc, v, c, m, dv, dc, n, g3, hn, b1, rfl, rfl, rfl⟩) (fun k hk => by rw [b2 k (by unfold essC at hk; omega) (by unfold essC at hk; omega) (by unfold essC at hk; omega), hM3 k hk]) ?_ (by rw [b3, c19, g6]) ⟨c' + n, by omega, ?_⟩
        · rw [b2 15 (by decide) (by decide) (by decide), b2 18 (by decide) (by decide) (by decide), m1 18 (by decide) (by decide) (by decide)]
          exact ⟨m4 0 (by omega), g5.2⟩
        · rw [GT_yes hc hn]; exact b4
      · refine ih (f + 1) v c m M2 (by omega) (by omega) (Or.inl ⟨hc, g3⟩) g4 g5 g6 ?_
        obtain ⟨c', hc', g7⟩ := g7
        rw [GT_no hc]
        exact ⟨c', by omega, g7⟩
      · have : f = 8 := by omega
        subst this
        show Q (v + M2 0 8 * M2 19 3 + M2 0 9 * m) M2
        rw [g6, g4 0 (by simp [essC])]
        exact hQ v c m M2 g3 g4 g5
  refine key 9 0 0 0 0 M1 (by omega) (by omega) ⟨rfl, rfl, rfl⟩ (fun k hk => by rw [a1 k (by unfold essC at hk; omega) (by unfold essC at hk; omega), hM k hk]) ?_ a2 ⟨0, by omega, a3⟩
  rw [a1 15 (by decide) (by decide), a1 18 (by decide) (by decide)]
  exact hz
theorem PR_AL {b : Int → Int} {s l s' l' : Int} (h : AL b s l s' l') : PR (fun i => b (s + i)) l = PR (fun i => b (s' + i)) l' := by
  obtain ⟨h1, h2⟩ := h
  subst h1
  unfold PR
  rw [sI_congr (g := fun i => b (s + i) * (i + 1)) (h := fun i => b (s' + i) * (i + 1)) (fun i i1 i2 => by rw [h2 i i1 (by omega)])]
theorem PR_bd (b : Int → Int) (n : Int) : 0 ≤ PR b n ∧ PR b n < 256 := by unfold PR; omega
theorem sp_print9 {f a e : Int} {N : gMem} {Q : Int → Prop} (hf : 0 ≤ f ∧ f < 8) (ha : 0 ≤ a ∧ a ≤ e ∧ e ≤ 600) (hb : ∀ i, a ≤ i → i < e → 0 ≤ N 2 (600 * f + i) ∧ N 2 (600 * f + i) < 256) (hQ : Q (PR (fun i => N 2 (600 * f + a + i)) (e - a))) : fX9_printOf f a e N Q := by
  have key : ∀ (n : Nat) (x4 x5 : Int), a ≤ x5 → x5 ≤ e → e - x5 < n → x4 = PR (fun i => N 2 (600 * f + a + i)) (x5 - a) → fX9_printOf_L6 f a e N n x4 x5 Q := by
    intro n
    induction n with
    | zero => intro x4 x5 g1 g2 g3; omega
    | succ n ih =>
      intro x4 x5 g1 g2 g3 g4
      refine ⟨⟨by omega, by omega⟩, ⟨by omega, by omega⟩, fun hlt => ?_, fun hge => ?_⟩
      · have h1 := hb x5 g1 hlt
        have h2 := PR_bd (fun i => N 2 (600 * f + a + i)) (x5 - a)
        have m1 : N 2 (600 * f + x5) * (x5 - a + 1) ≤ 256 * 601 := Int.mul_le_mul (by omega) (by omega) (by omega) (by decide)
        have m0 : 0 ≤ N 2 (600 * f + x5) * (x5 - a + 1) := Int.mul_nonneg (by omega) (by omega)
        refine ⟨⟨by omega, by omega⟩, ⟨by omega, by omega⟩, ?_⟩
        rw [tm _ (by omega)]
        refine ih _ _ (by omega) (by omega) (by omega) ?_
        rw [g4]
        unfold PR
        rw [show x5 + 1 - a = x5 - a + 1 by omega, sI_step _ (by omega : 0 ≤ x5 - a), Int.emod_add_emod]
        have ee : 600 * f + a + (x5 - a) = 600 * f + x5 := by omega
        simp only [ee]
      · have : x5 = e := by omega
        subst this
        rw [g4]
        exact hQ
  exact ⟨(e - a).toNat + 1, key _ _ _ (by omega) (by omega) (by omega) (by rw [show a - a = 0 by omega]; rfl)⟩
theorem sp_printM {t : Nat} {M N N' : gMem} (hI : Inv t M N) (c2 : N' 2 = N 2) {r f : Int} {n k : Nat} {Q : Int → Prop} (hr : 0 ≤ r ∧ r < 6) (hs : 0 < N 4 r) (hf : 0 ≤ f ∧ f < 8) (hn : CN N r f n) (hk : k < n) (hQ : Q (PR (fun i => N 2 (pS N r f k + i)) (pL N r f k))) : fX9_printOf f (cp N r f k) (cp N r f (k + 1)) N' Q := by
  obtain ⟨u1, u2⟩ := pc_ok hI hr hs hf hn hk
  have hv := (by_of hI hf).2
  refine sp_print9 hf (by omega) (fun i i1 i2 => by rw [c2]; exact hv i (by omega) (by omega)) ?_
  rw [c2]
  exact hQ
/-- the notes: c pieces, among them one alike to each of T -/
def NT (N N' : gMem) (r : Int) (T : Int → Int → Prop) (c : Int) : Prop :=
  (∀ i, 0 ≤ i → i < c → ∃ (f : Int) (n k : Nat), (0 ≤ f ∧ f < 8) ∧ CN N r f n ∧ k < n ∧ N' 12 i = f ∧ N' 13 i = cp N r f k ∧ N' 14 i = cp N r f (k + 1) ∧ N' 15 i = PR (fun i => N 2 (pS N r f k + i)) (pL N r f k) ∧ T (pS N r f k) (pL N r f k)) ∧
  (∀ s l, T s l → ∃ i, 0 ≤ i ∧ i < c ∧ AL (N 2) (600 * N' 12 i + N' 13 i) (N' 14 i - N' 13 i) s l)
theorem sp_cost9 {t : Nat} {M N N' : gMem} (hI : Inv t M N) (hN : ∀ k, essM k → k ≠ 0 → N' k = N k) (h0 : ∀ i, i ≠ 10 → i ≠ 13 → N' 0 i = N 0 i) {r x : Int} (rx : rg x) (rr : rg r) (hr : 0 ≤ r ∧ r < 6) (hs : 0 < N 4 r) {Q : Int → gMem → Prop}
    (hQ : ∀ (v c m : Int) (N2 : gMem), GB N r x 8 v c m → (∀ k, essM k → k ≠ 0 → N2 k = N k) → (∀ i, i ≠ 10 → i ≠ 13 → N2 0 i = N 0 i) → Q (v + N 0 14 * c + N 0 15 * m) N2) : fX9_cost r x N' Q := by
  have hI' : Inv t M N' := hI.frame (Nat.le_refl t) (fun _ _ => rfl) hN h0 hI.2.2.2.2.2.2.2.2
  have e4 : N' 4 = N 4 := hN 4 (by simp [essM]) (by decide)
  refine setM hI' rr (fun _ _ => ⟨9, ?_⟩) (fun g => absurd ⟨hr, by rw [e4]; exact hs⟩ g)
  have inner : ∀ (f n : Nat) (hf : 0 ≤ (f : Int) ∧ (f : Int) < 8) (hn : CN N r f n) (T : Int → Int → Prop) (v c mm : Int) (KK : Int → Int → gMem → Prop), (0 ≤ c ∧ c ≤ 600 * (f : Int)) → (0 ≤ v ∧ v ≤ 600 * (f : Int)) →
      (∀ (dv dc : Int) (N3 : gMem), FB N r f T n dv dc → NT N N3 r (Tk N r f T n) (c + dc) → (∀ k, essM k → k ≠ 0 → N3 k = N k) → (∀ i, i ≠ 10 → i ≠ 13 → N3 0 i = N 0 i) → KK (c + dc) (v + dv) N3) →
      ∀ (u k : Nat) (dv dc : Int) (N3 : gMem), k ≤ n → n - k < u → FB N r f T k dv dc → NT N N3 r (Tk N r f T k) (c + dc) → (∀ k, essM k → k ≠ 0 → N3 k = N k) → (∀ i, i ≠ 10 → i ≠ 13 → N3 0 i = N 0 i) → N3 0 10 = n → (∀ j : Nat, j ≤ n → N3 10 j = cp N r f j) → fX9_cost_L59 r x mm f u (c + dc) (v + dv) k N3 KK Q := by
    intro f n hf hn T v c mm KK hc hv hKK u
    have hn6 := hn.1
    induction u with
    | zero => intro k dv dc N3 g1 g2; omega
    | succ u ih =>
      intro k dv dc N3 g1 g2 g3 g4 g5 g6 g7 g8
      have fbb := FB_bd (ru_of hI hr hs) hn g1 g3
      rw [fX9_cost_L59, g7]
      refine ⟨⟨by omega, by omega⟩, ⟨by omega, by omega⟩, fun hlt => ⟨⟨by omega, by omega⟩, ⟨by omega, by omega⟩, ?_⟩, fun hge => ?_⟩
      · have hk : k < n := by omega
        have s1 : N3 10 ((k : Int) + 1) = cp N r f (k + 1) := g8 (k + 1) (by omega)
        have s0 : N3 10 (k : Int) = cp N r f k := g8 k (by omega)
        obtain ⟨w1, w2⟩ := pc_ok hI hr hs hf hn hk
        rw [s0, s1]
        refine sp_printM hI (g5 2 (by simp [essM]) (by decide)) hr hs hf hn hk ⟨(c + dc).toNat + 1, ?_⟩
        have prb := PR_bd (fun i => N 2 (pS N r f k + i)) (pL N r f k)
        -- what the search finds
        have hasE : (∃ i, 0 ≤ i ∧ i < c + dc ∧ AL (N 2) (600 * N3 12 i + N3 13 i) (N3 14 i - N3 13 i) (pS N r f k) (pL N r f k)) ↔ hasP N r f T k := by
          constructor
          · rintro ⟨i, i1, i2, al⟩
            obtain ⟨f', n', k', z1, z2, z3, z4, z5, z6, z7, z8⟩ := g4.1 i i1 i2
            rw [z4, z5, z6] at al
            exact ⟨_, _, z8, al⟩
          · rintro ⟨s, l, hT, al⟩
            obtain ⟨i, i1, i2, i3⟩ := g4.2 s l hT
            exact ⟨i, i1, i2, i3.trans al⟩
        have fin : ∀ h : Int, (h = 0 ∧ ¬ hasP N r f T k) ∨ (h = 1 ∧ hasP N r f T k) → fX9_cost_J180 r x mm f (c + dc) (v + dv) k (PR (fun i => N 2 (pS N r f k + i)) (pL N r f k)) h N3 (fun x3_52 x5_53 x7_54 M_55 => fX9_cost_L59 r x mm f u x3_52 x5_53 x7_54 M_55 KK Q) Q := by
          intro h hh
          refine ⟨by rcases hh with g | g <;> exact ⟨by omega, by omega⟩, fun hz => ?_, fun hnz => ?_⟩
          · have hno : ¬ hasP N r f T k := by
              rcases hh with g | g
              · exact g.2
              · omega
            refine ⟨⟨by omega, by omega⟩, fun M1 m1 => ⟨⟨by omega, by omega⟩, ⟨by omega, by omega⟩, fun M2 m2 => ⟨⟨by omega, by omega⟩, ⟨by omega, by omega⟩, fun M3 m3 => ⟨⟨by omega, by omega⟩, fun M4 m4 => ⟨⟨by omega, by omega⟩, ⟨by omega, by omega⟩, ?_⟩⟩⟩⟩⟩
            have d1 : M1 10 = N3 10 := by rw [m1, gSt_ne _ _ _ _ _ (by decide)]
            have d2 : M2 10 = N3 10 := by rw [m2, gSt_ne _ _ _ _ _ (by decide), d1]
            have d3 : M4 10 = N3 10 := by rw [m4, gSt_ne _ _ _ _ _ (by decide), m3, gSt_ne _ _ _ _ _ (by decide), d2]
            rw [d3, s0, s1]
            rw [d1, s0] at m2
            rw [d2, s1] at m3
            have e12 : ∀ i, M4 12 i = if i = c + dc then (f : Int) else N3 12 i := fun i => by rw [m4, gSt_ne _ _ _ _ _ (by decide), m3, gSt_ne _ _ _ _ _ (by decide), m2, gSt_ne _ _ _ _ _ (by decide), m1, gSt_at]
            have e13 : ∀ i, M4 13 i = if i = c + dc then cp N r f k else N3 13 i := fun i => by rw [m4, gSt_ne _ _ _ _ _ (by decide), m3, gSt_ne _ _ _ _ _ (by decide), m2, gSt_at, m1, gSt_ne _ _ _ _ 13 (by decide)]
            have e14 : ∀ i, M4 14 i = if i = c + dc then cp N r f (k + 1) else N3 14 i := fun i => by rw [m4, gSt_ne _ _ _ _ _ (by decide), m3, gSt_at, m2, gSt_ne _ _ _ _ 14 (by decide), m1, gSt_ne _ _ _ _ 14 (by decide)]
            have e15 : ∀ i, M4 15 i = if i = c + dc then PR (fun i => N 2 (pS N r f k + i)) (pL N r f k) else N3 15 i := fun i => by rw [m4, gSt_at, m3, gSt_ne _ _ _ _ 15 (by decide), m2, gSt_ne _ _ _ _ 15 (by decide), m1, gSt_ne _ _ _ _ 15 (by decide)]
            have eo : ∀ k, k ≠ 12 → k ≠ 13 → k ≠ 14 → k ≠ 15 → M4 k = N3 k := fun k h1 h2 h3 h4 => by rw [m4, gSt_ne _ _ _ _ _ h4, m3, gSt_ne _ _ _ _ _ h3, m2, gSt_ne _ _ _ _ _ h2, m1, gSt_ne _ _ _ _ _ h1]
            have := ih (k + 1) (dv + pL N r f k) (dc + 1) M4 (by omega) (by omega) ⟨dv, dc, g3, Or.inr ⟨hno, rfl, rfl⟩⟩ ?_ (fun k' hk' h0' => by rw [eo k' (by unfold essM at hk'; omega) (by unfold essM at hk'; omega) (by unfold essM at hk'; omega) (by unfold essM at hk'; omega), g5 k' hk' h0']) (fun i i1 i2 => by rw [eo 0 (by decide) (by decide) (by decide) (by decide), g6 i i1 i2]) (by rw [eo 0 (by decide) (by decide) (by decide) (by decide), g7]) (fun j hj => by rw [d3, g8 j hj])
            · rw [show c + (dc + 1) = c + dc + 1 by omega, show v + (dv + pL N r f k) = v + dv + (cp N r f (k + 1) - cp N r f k) by unfold pL; omega] at this
              exact this
            · rw [Tk_s]
              refine ⟨fun i i1 i2 => ?_, fun s l hT => ?_⟩
              · rw [e12, e13, e14, e15]
                by_cases ci : i = c + dc
                · rw [if_pos ci, if_pos ci, if_pos ci, if_pos ci]
                  exact ⟨f, n, k, hf, hn, hk, rfl, rfl, rfl, rfl, Or.inr ⟨rfl, rfl⟩⟩
                · rw [if_neg ci, if_neg ci, if_neg ci, if_neg ci]
                  obtain ⟨f', n', k', z1, z2, z3, z4, z5, z6, z7, z8⟩ := g4.1 i i1 (by omega)
                  exact ⟨f', n', k', z1, z2, z3, z4, z5, z6, z7, Or.inl z8⟩
              · rcases hT with hT | ⟨es, el⟩
                · obtain ⟨i, i1, i2, i3⟩ := g4.2 s l hT
                  refine ⟨i, i1, by omega, ?_⟩
                  rw [e12, e13, e14, if_neg (by omega), if_neg (by omega), if_neg (by omega)]
                  exact i3
                · subst es
                  subst el
                  refine ⟨c + dc, by omega, by omega, ?_⟩
                  rw [e12, e13, e14, if_pos rfl, if_pos rfl, if_pos rfl]
                  exact ⟨rfl, fun _ _ _ => rfl⟩
          · have hyes : hasP N r f T k := by
              rcases hh with g | g
              · omega
              · exact g.2
            refine ih (k + 1) dv dc N3 (by omega) (by omega) ⟨dv, dc, g3, Or.inl ⟨hyes, rfl, rfl⟩⟩ ?_ g5 g6 g7 g8
            rw [Tk_s]
            refine ⟨fun i i1 i2 => ?_, fun s l hT => ?_⟩
            · obtain ⟨f', n', k', z1, z2, z3, z4, z5, z6, z7, z8⟩ := g4.1 i i1 i2
              exact ⟨f', n', k', z1, z2, z3, z4, z5, z6, z7, Or.inl z8⟩
            · rcases hT with hT | ⟨es, el⟩
              · exact g4.2 s l hT
              · subst es
                subst el
                exact hasE.mpr hyes
        have key : ∀ (w : Nat) (h i : Int), 0 ≤ i → i ≤ c + dc → c + dc - i < w → ((h = 0 ∧ ∀ j, 0 ≤ j → j < i → ¬ AL (N 2) (600 * N3 12 j + N3 13 j) (N3 14 j - N3 13 j) (pS N r f k) (pL N r f k)) ∨ (h = 1 ∧ hasP N r f T k)) → fX9_cost_L98 (c + dc) f k (PR (fun i => N 2 (pS N r f k + i)) (pL N r f k)) N3 w h i (fun x9_37 => fX9_cost_J180 r x mm f (c + dc) (v + dv) k (PR (fun i => N 2 (pS N r f k + i)) (pL N r f k)) x9_37 N3 (fun x3_52 x5_53 x7_54 M_55 => fX9_cost_L59 r x mm f u x3_52 x5_53 x7_54 M_55 KK Q) Q) Q := by
          intro w
          induction w with
          | zero => intro h i i1 i2 i3; omega
          | succ w ihw =>
            intro h i i1 i2 i3 i4
            refine ⟨⟨by omega, by omega⟩, ⟨by omega, by omega⟩, fun hlt' => ⟨by rcases i4 with g | g <;> exact ⟨by omega, by omega⟩, fun hz => ?_, fun hnz => fin h (i4.elim (fun g => absurd g.1 hnz) Or.inr)⟩, fun hge' => fin h ?_⟩
            · have i4' : ∀ j, 0 ≤ j → j < i → ¬ AL (N 2) (600 * N3 12 j + N3 13 j) (N3 14 j - N3 13 j) (pS N r f k) (pL N r f k) := by
                rcases i4 with g | g
                · exact g.2
                · omega
              obtain ⟨f', n', k', z1, z2, z3, z4, z5, z6, z7, z8⟩ := g4.1 i i1 hlt'
              have zb := PR_bd (fun i => N 2 (pS N r f' k' + i)) (pL N r f' k')
              have nx : ¬ AL (N 2) (600 * N3 12 i + N3 13 i) (N3 14 i - N3 13 i) (pS N r f k) (pL N r f k) → (∀ j, 0 ≤ j → j < i + 1 → ¬ AL (N 2) (600 * N3 12 j + N3 13 j) (N3 14 j - N3 13 j) (pS N r f k) (pL N r f k)) := fun na j j1 j2 => by
                by_cases cj : j = i
                · rw [cj]; exact na
                · exact i4' j j1 (by omega)
              refine ⟨⟨by omega, by omega⟩, by rw [z7]; exact ⟨by omega, by omega⟩, ⟨by omega, by omega⟩, fun hp => ⟨⟨by omega, by omega⟩, ⟨by omega, by omega⟩, ⟨by omega, by omega⟩, ⟨by omega, by omega⟩, ⟨by omega, by omega⟩, ?_⟩, fun hp => ihw 0 (i + 1) (by omega) (by omega) (by omega) (Or.inl ⟨rfl, nx (fun al => hp ?_)⟩)⟩
              · rw [z4, z5, z6, s0, s1]
                refine sp_alikeM hI g5 hr hs z1 hf z2 hn z3 hk (fun al => q1 (ihw 1 (i + 1) (by omega) (by omega) (by omega) (Or.inr ⟨rfl, hasE.mp ⟨i, i1, hlt', ?_⟩⟩))) (fun al => q0 (ihw 0 (i + 1) (by omega) (by omega) (by omega) (Or.inl ⟨rfl, nx ?_⟩)))
                · rw [z4, z5, z6]; exact al
                · rw [z4, z5, z6]; exact al
              · rw [z4, z5, z6] at al
                rw [z7]
                exact PR_AL (s := pS N r f' k') (l := pL N r f' k') al
            · rcases i4 with g | g
              · refine Or.inl ⟨g.1, fun hp => ?_⟩
                obtain ⟨j, j1, j2, j3⟩ := hasE.mpr hp
                exact g.2 j j1 (by omega) j3
              · exact Or.inr g
        exact key _ 0 0 (by omega) (by omega) (by omega) (Or.inl ⟨rfl, fun j j1 j2 => by omega⟩)
      · have : k = n := by omega
        subst this
        exact hKK dv dc N3 g3 g4 g5 g6
  have key : ∀ (u f : Nat) (v c m : Int) (N2 : gMem), f ≤ 8 → 8 - f < u → GB N r x f v c m → NT N N2 r (GT N r x f) c → (∀ k, essM k → k ≠ 0 → N2 k = N k) → (∀ i, i ≠ 10 → i ≠ 13 → N2 0 i = N 0 i) → fX9_cost_L21 r x u c m v f N2 (fun x3_61 x4_62 x5_63 M_64 => Q ((x5_63 + ((M_64 0 14) * x3_61)) + ((M_64 0 15) * x4_62)) M_64) Q := by
    intro u
    induction u with
    | zero => intro f v c m N2 g1 g2; omega
    | succ u ih =>
      intro f v c m N2 g1 g2 g3 g4 g5 g6
      have gbb := GB_bd hI hr hs g1 g3
      rw [fX9_cost_L21, band_1]
      refine ⟨⟨by omega, by omega⟩, fun hlt => ⟨rx, ⟨by omega, by omega⟩, ⟨by omega, by omega⟩, fun hc => ?_, fun hc => ?_⟩, fun hge => ?_⟩
      · have hc' : ¬ ch x f := fun h => by unfold ch at h; omega
        refine ih (f + 1) v c m N2 (by omega) (by omega) (Or.inl ⟨hc', g3⟩) ?_ g5 g6
        rw [GT_no hc']
        exact g4
      · have hc' : ch x f := by unfold ch; omega
        have hf : 0 ≤ (f : Int) ∧ (f : Int) < 8 := by omega
        obtain ⟨n, hn⟩ := cn_ex hI hr hs hf
        refine sp_cuts9 hI hr hs hf hn g5 (fun N3 n1 n2 n3 n4 => ⟨n + 1, ?_⟩)
        rw [n3]
        have := inner f n hf hn (GT N r x f) v c (m + n) (fun x3_57 x5_58 M_59 => fX9_cost_L21 r x u x3_57 (m + n) x5_58 ((f : Int) + 1) M_59 (fun x3_61 x4_62 x5_63 M_64 => Q ((x5_63 + ((M_64 0 14) * x3_61)) + ((M_64 0 15) * x4_62)) M_64) Q) (by omega) (by omega) (fun dv dc N4 p1 p2 p3 p4 => ?_) (n + 1) 0 0 0 N3 (by omega) (by omega) ⟨rfl, rfl⟩ ?_ (fun k hk h0' => by rw [n1 k h0' (by unfold essM at hk; omega), g5 k hk h0']) (fun i i1 i2 => by rw [n2 i i1, g6 i i1 i2]) n3 n4
        · rw [Int.add_zero, Int.add_zero] at this
          exact this
        · refine ih (f + 1) (v + dv) (c + dc) (m + n) N4 (by omega) (by omega) (Or.inr ⟨hc', v, c, m, dv, dc, n, g3, hn, p1, rfl, rfl, rfl⟩) ?_ p3 p4
          rw [GT_yes hc' hn]
          exact p2
        · rw [Tk_0, Int.add_zero]
          unfold NT
          rw [n1 12 (by decide) (by decide), n1 13 (by decide) (by decide), n1 14 (by decide) (by decide), n1 15 (by decide) (by decide)]
          exact g4
      · have : f = 8 := by omega
        subst this
        rw [g6 14 (by decide) (by decide), g6 15 (by decide) (by decide)]
        exact hQ v c m N2 g3 g5 g6
  exact key 9 0 0 0 0 N' (by omega) (by omega) ⟨rfl, rfl, rfl⟩ ⟨fun i i1 i2 => by omega, fun s l h => h.elim⟩ hN h0
theorem room_rg {t : Nat} {M N : gMem} (hI : Inv t M N) {v c m : Int} (h : 0 ≤ v ∧ v ≤ 4800 ∧ 0 ≤ c ∧ c ≤ 4800 ∧ 0 ≤ m ∧ m ≤ 4800) : rg (v + N 0 14 * c + N 0 15 * m) := by
  obtain ⟨d1, d2, d3, d4, d5, d6⟩ := hI.2.2.2.1
  have m1 : N 0 14 * c ≤ 100 * 4800 := Int.mul_le_mul (by omega) (by omega) (by omega) (by decide)
  have m0 : 0 ≤ N 0 14 * c := Int.mul_nonneg (by omega) (by omega)
  have k1 : N 0 15 * m ≤ 100 * 4800 := Int.mul_le_mul (by omega) (by omega) (by omega) (by decide)
  have k0 : 0 ≤ N 0 15 * m := Int.mul_nonneg (by omega) (by omega)
  exact ⟨by omega, by omega⟩
theorem sm_cost {t : Nat} {M N : gMem} {x1 x2 : Int} (hI : Inv t M N) (ht : t ≤ 511) (r1 : rg x1) (r2 : rg x2) {K : gMem → gMem → Prop} (hK : ∀ M1 N1, Inv (t + 1) M1 N1 → K M1 N1) :
    fX8_cost x1 x2 M (fun r1 M1 => fX9_cost x1 x2 N (fun r2 N1 => rg r1 ∧ r1 = r2 ∧ K M1 N1)) := by
  have e : rg (-1) ∧ (-1 : Int) = -1 ∧ K M N := ⟨⟨by decide, by decide⟩, rfl, hK _ _ hI.next⟩
  refine setC hI r1 (fun hr hs => ⟨hr, ?_⟩) (fun g => setM hI r1 (fun a b => absurd ⟨a, b⟩ g) (fun _ => e))
  refine sp_room hI (fun _ _ => rfl) hI.2.2.2.2.2.2.2.2 r2 hr hs (fun v c m M2 b1 b2 b3 => ?_)
  refine sp_cost9 hI (fun _ _ _ => rfl) (fun _ _ _ => rfl) r2 r1 hr hs (fun v' c' m' N2 d1 d2 d3 => ?_)
  obtain ⟨e1, e2, e3⟩ := GB_un b1 d1
  subst e1
  subst e2
  subst e3
  have hD := hI.2.2.2.1
  rw [hD.1, hD.2.1]
  have := GB_bd hI hr hs (Nat.le_refl 8) b1
  exact ⟨room_rg hI (by omega), rfl, hK _ _ (fr_ok hI b2 b3 d2 d3)⟩
/-- before the RULE r: the best one, and what it costs -/
def BV (N : gMem) (x : Int) : Nat → Int → Int → Prop
  | 0, b, l => b = -1 ∧ l = 0
  | r + 1, b, l => ∃ b' l', BV N x r b' l' ∧ ((¬ 0 < N 4 r ∧ b = b' ∧ l = l') ∨ (0 < N 4 r ∧ ∃ v c m, GB N r x 8 v c m ∧ (((b' = -1 ∨ v + N 0 14 * c + N 0 15 * m < l') ∧ b = r ∧ l = v + N 0 14 * c + N 0 15 * m) ∨ (¬ (b' = -1 ∨ v + N 0 14 * c + N 0 15 * m < l') ∧ b = b' ∧ l = l'))))
theorem BV_un {N : gMem} {x : Int} : ∀ {r : Nat} {b l b' l' : Int}, BV N x r b l → BV N x r b' l' → b = b' ∧ l = l'
  | 0, _, _, _, _, h, h' => ⟨h.1.trans h'.1.symm, h.2.trans h'.2.symm⟩
  | r + 1, b, l, b', l', ⟨u, w, h1, h2⟩, ⟨u', w', h1', h2'⟩ => by
    obtain ⟨e1, e2⟩ := BV_un h1 h1'
    subst e1
    subst e2
    rcases h2 with ⟨p, q, s⟩ | ⟨p, v, c, m, g, q⟩ <;> rcases h2' with ⟨p', q', s'⟩ | ⟨p', v', c', m', g', q'⟩
    · omega
    · exact absurd p' p
    · exact absurd p p'
    · obtain ⟨e1, e2, e3⟩ := GB_un g g'
      subst e1
      subst e2
      subst e3
      rcases q with ⟨q1, q2, q3⟩ | ⟨q1, q2, q3⟩ <;> rcases q' with ⟨q1', q2', q3'⟩ | ⟨q1', q2', q3'⟩
      · exact ⟨q2.trans q2'.symm, q3.trans q3'.symm⟩
      · exact absurd q1 q1'
      · exact absurd q1' q1
      · exact ⟨q2.trans q2'.symm, q3.trans q3'.symm⟩
theorem BV_bd {t : Nat} {M N : gMem} (hI : Inv t M N) {x : Int} : ∀ {r : Nat}, r ≤ 6 → ∀ {b l : Int}, BV N x r b l → (-1 ≤ b ∧ b < r) ∧ rg l
  | 0, _, b, l, h => by have h1 := h.1; have h2 := h.2; exact ⟨by omega, by omega, by omega⟩
  | r + 1, hr, b, l, ⟨u, w, h1, h2⟩ => by
    have h3 := BV_bd hI (by omega) h1
    rcases h2 with ⟨p, q, s⟩ | ⟨p, v, c, m, g, ⟨q1, q2, q3⟩ | ⟨q1, q2, q3⟩⟩
    · rw [s]; exact ⟨by omega, h3.2⟩
    · have := GB_bd hI (by omega) p (Nat.le_refl 8) g
      rw [q3]
      exact ⟨by omega, room_rg hI (by omega)⟩
    · rw [q3]; exact ⟨by omega, h3.2⟩
theorem sm_best {t : Nat} {M N : gMem} {x1 : Int} (hI : Inv t M N) (ht : t ≤ 511) (r1 : rg x1) {K : gMem → gMem → Prop} (hK : ∀ M1 N1, Inv (t + 1) M1 N1 → K M1 N1) :
    fX8_best x1 M (fun r1 M1 => fX9_best x1 N (fun r2 N1 => rg r1 ∧ r1 = r2 ∧ K M1 N1)) := by
  have hD := hI.2.2.2.1
  have keyC : ∀ (u r : Nat) (b l : Int) (M2 : gMem) (Q : Int → gMem → Prop), r ≤ 6 → 6 - r < u → BV N x1 r b l → (∀ k, essC k → M2 k = M k) → (M2 15 0 = 0 ∧ M2 18 0 = 0) → (∀ b l M3, BV N x1 6 b l → (∀ k, essC k → M3 k = M k) → (M3 15 0 = 0 ∧ M3 18 0 = 0) → Q b M3) → fX8_best_L7 x1 u b l r M2 Q := by
    intro u
    induction u with
    | zero => intro r b l M2 Q g1 g2; omega
    | succ u ih =>
      intro r b l M2 Q g1 g2 g3 g4 g5 hQ
      have hI2 : Inv t M2 N := hI.frame (Nat.le_refl t) g4 (fun _ _ _ => rfl) (fun _ _ _ => rfl) g5
      have bb := BV_bd hI g1 g3
      refine ⟨⟨by omega, by omega⟩, fun hlt => ?_, fun hge => ?_⟩
      · refine setC hI2 ⟨by omega, by omega⟩ (fun hr hs => ⟨hr, ?_⟩) (fun hno => ?_)
        · refine sp_room hI g4 g5 r1 hr hs (fun v c m M3 b1 b2 b3 => ?_)
          rw [hD.1, hD.2.1]
          have rv := room_rg hI (v := v) (c := c) (m := m) (by have := GB_bd hI hr hs (Nat.le_refl 8) b1; omega)
          have yes : (b = -1 ∨ v + N 0 14 * c + N 0 15 * m < l) → fX8_best_L7 x1 u r (v + N 0 14 * c + N 0 15 * m) ((r : Int) + 1) M3 Q := fun hc => ih (r + 1) _ _ M3 Q (by omega) (by omega) ⟨b, l, g3, Or.inr ⟨hs, v, c, m, b1, Or.inl ⟨hc, rfl, rfl⟩⟩⟩ b2 b3 hQ
          refine ⟨⟨by omega, by omega⟩, fun hb => yes (Or.inl hb), fun hb => ⟨rv, bb.2, fun hl => yes (Or.inr hl), fun hl => ?_⟩⟩
          exact ih (r + 1) _ _ M3 Q (by omega) (by omega) ⟨b, l, g3, Or.inr ⟨hs, v, c, m, b1, Or.inr ⟨fun h => h.elim hb hl, rfl, rfl⟩⟩⟩ b2 b3 hQ
        · exact ih (r + 1) _ _ M2 Q (by omega) (by omega) ⟨b, l, g3, Or.inl ⟨fun h => hno ⟨by omega, h⟩, rfl, rfl⟩⟩ g4 g5 hQ
      · have : r = 6 := by omega
        subst this
        exact hQ b l M2 g3 g4 g5
  have keyM : ∀ (u r : Nat) (b l : Int) (N2 : gMem) (Q : Int → gMem → Prop), r ≤ 6 → 6 - r < u → BV N x1 r b l → (∀ k, essM k → k ≠ 0 → N2 k = N k) → (∀ i, i ≠ 10 → i ≠ 13 → N2 0 i = N 0 i) → (∀ b l N3, BV N x1 6 b l → (∀ k, essM k → k ≠ 0 → N3 k = N k) → (∀ i, i ≠ 10 → i ≠ 13 → N3 0 i = N 0 i) → Q b N3) → fX9_best_L7 x1 u b l r N2 Q := by
    intro u
    induction u with
    | zero => intro r b l N2 Q g1 g2; omega
    | succ u ih =>
      intro r b l N2 Q g1 g2 g3 g4 g5 hQ
      have hI2 : Inv t M N2 := hI.frame (Nat.le_refl t) (fun _ _ => rfl) g4 g5 hI.2.2.2.2.2.2.2.2
      have e4 : N2 4 = N 4 := g4 4 (by simp [essM]) (by decide)
      have bb := BV_bd hI g1 g3
      refine ⟨⟨by omega, by omega⟩, fun hlt => ?_, fun hge => ?_⟩
      · refine setM hI2 ⟨by omega, by omega⟩ (fun hr hs => ?_) (fun hno => ?_)
        · rw [e4] at hs
          refine sp_cost9 hI g4 g5 r1 ⟨by omega, by omega⟩ hr hs (fun v c m N3 b1 b2 b3 => ?_)
          have rv := room_rg hI (v := v) (c := c) (m := m) (by have := GB_bd hI hr hs (Nat.le_refl 8) b1; omega)
          have yes : (b = -1 ∨ v + N 0 14 * c + N 0 15 * m < l) → fX9_best_L7 x1 u r (v + N 0 14 * c + N 0 15 * m) ((r : Int) + 1) N3 Q := fun hc => ih (r + 1) _ _ N3 Q (by omega) (by omega) ⟨b, l, g3, Or.inr ⟨hs, v, c, m, b1, Or.inl ⟨hc, rfl, rfl⟩⟩⟩ b2 b3 hQ
          refine ⟨⟨by omega, by omega⟩, fun hb => yes (Or.inl hb), fun hb => ⟨rv, bb.2, fun hl => yes (Or.inr hl), fun hl => ?_⟩⟩
          exact ih (r + 1) _ _ N3 Q (by omega) (by omega) ⟨b, l, g3, Or.inr ⟨hs, v, c, m, b1, Or.inr ⟨fun h => h.elim hb hl, rfl, rfl⟩⟩⟩ b2 b3 hQ
        · rw [e4] at hno
          exact ih (r + 1) _ _ N2 Q (by omega) (by omega) ⟨b, l, g3, Or.inl ⟨fun h => hno ⟨by omega, h⟩, rfl, rfl⟩⟩ g4 g5 hQ
      · have : r = 6 := by omega
        subst this
        exact hQ b l N2 g3 g4 g5
  refine ⟨7, keyC 7 0 (-1) 0 M _ (by omega) (by omega) ⟨rfl, rfl⟩ (fun _ _ => rfl) hI.2.2.2.2.2.2.2.2 (fun b l M3 b1 b2 b3 => ?_)⟩
  refine ⟨7, keyM 7 0 (-1) 0 N _ (by omega) (by omega) ⟨rfl, rfl⟩ (fun _ _ _ => rfl) (fun _ _ _ => rfl) (fun b' l' N3 d1 d2 d3 => ?_)⟩
  have bb := BV_bd hI (Nat.le_refl 6) b1
  exact ⟨⟨by omega, by omega⟩, (BV_un b1 d1).1, hK _ _ (fr_ok hI b2 b3 d2 d3)⟩
