/-! sent -/
theorem sm_sent {t : Nat} {M N : gMem} {x1 x2 x3 : Int} (hI : Inv t M N) (ht : t ≤ 511) (r1 : rg x1) (r2 : rg x2) (r3 : rg x3) {K : gMem → gMem → Prop} (hK : ∀ M1 N1, Inv (t + 1) M1 N1 → K M1 N1) :
    fX8_sent x1 x2 x3 M (fun r1 M1 => fX9_sent x1 x2 x3 N (fun r2 N1 => rg r1 ∧ r1 = r2 ∧ K M1 N1)) := by
  have e : rg (-1) ∧ (-1 : Int) = -1 ∧ K M N := ⟨⟨by decide, by decide⟩, rfl, hK _ _ hI.next⟩
  have no : ¬ (((0 ≤ x1 ∧ x1 < 6) ∧ 0 < N 4 x1) ∧ (0 ≤ x2 ∧ x2 < 8) ∧ (0 ≤ x3 ∧ x3 < 8)) → fX9_sent x1 x2 x3 N (fun r2 N1 => rg (-1) ∧ (-1 : Int) = r2 ∧ K M N1) := fun h =>
    setM hI r1 (fun a b => fileM r2 (fun c => fileM r3 (fun d => absurd ⟨⟨a, b⟩, c, d⟩ h) (fun _ => e)) (fun _ => e)) (fun _ => e)
  refine setC hI r1 (fun hr hs => fileC r2 (fun hf => fileC r3 (fun hg => ?_) (fun g => no (fun h => g h.2.2))) (fun g => no (fun h => g h.2.1))) (fun g => no (fun h => g h.1))
  obtain ⟨n, hn⟩ := cn_ex hI hr hs hf
  obtain ⟨m, hm⟩ := cn_ex hI hr hs hg
  have hn6 := hn.1
  have hm6 := hm.1
  have z15 := hI.2.2.2.2.2.2.2.2.1
  have z18 := hI.2.2.2.2.2.2.2.2.2
  refine DT_0 (N := N) (fun M1 a1 a2 a3 => ⟨hr, ?_⟩)
  have hM1 : ∀ k, essC k → M1 k = M k := fun k hk => a1 k (by unfold essC at hk; omega) (by unfold essC at hk; omega)
  refine sp_divide hI hM1 (by rw [a1 _ (by decide) (by decide)]; exact z15) (Or.inl rfl) hr hs hf hn (fun M2 m1 m2 m3 m4 => ?_)
  have hM2 : ∀ k, essC k → M2 k = M k := fun k hk => by rw [m1 k (by unfold essC at hk; omega) (by unfold essC at hk; omega) (by unfold essC at hk; omega), hM1 k hk]
  have c19 : M2 19 = M1 19 := m1 19 (by decide) (by decide) (by decide)
  have c20 : M2 20 = M1 20 := m1 20 (by decide) (by decide) (by decide)
  have c21 : M2 21 = M1 21 := m1 21 (by decide) (by decide) (by decide)
  have a3' : DT N M2 (fun _ _ => False) 0 := by unfold DT; rw [c19, c20, c21]; exact a3
  refine sp_addPieces hI hM2 hr hs hf hn a3' (by omega) m2 m3 m4 (fun v0 w0 M3 b1 b2 b3 b4 => ⟨hr, ?_⟩)
  have hM3 : ∀ k, essC k → M3 k = M k := fun k hk => by rw [b2 k (by unfold essC at hk; omega) (by unfold essC at hk; omega) (by unfold essC at hk; omega), hM2 k hk]
  refine sp_divide hI hM3 (by rw [b2 _ (by decide) (by decide) (by decide)]; exact m4 0 (by omega)) (Or.inl rfl) hr hs hg hm (fun M4 p1 p2 p3 p4 => ?_)
  have hM4 : ∀ k, essC k → M4 k = M k := fun k hk => by rw [p1 k (by unfold essC at hk; omega) (by unfold essC at hk; omega) (by unfold essC at hk; omega), hM3 k hk]
  have d19 : M4 19 = M3 19 := p1 19 (by decide) (by decide) (by decide)
  have d20 : M4 20 = M3 20 := p1 20 (by decide) (by decide) (by decide)
  have d21 : M4 21 = M3 21 := p1 21 (by decide) (by decide) (by decide)
  have b4' : DT N M4 (Tk N x1 x2 (fun _ _ => False) n) (0 + n) := by unfold DT; rw [d19, d20, d21]; exact b4
  refine sp_addPieces hI hM4 hr hs hg hm b4' (by omega) p2 p3 p4 (fun v w M5 f1 f2 f3 f4 => ?_)
  have hM5 : ∀ k, essC k → M5 k = M k := fun k hk => by rw [f2 k (by unfold essC at hk; omega) (by unfold essC at hk; omega) (by unfold essC at hk; omega), hM4 k hk]
  have hz : M5 15 0 = 0 ∧ M5 18 0 = 0 := by
    constructor
    · rw [f2 15 (by decide) (by decide) (by decide)]; exact p4 0 (by omega)
    · rw [f2 18 (by decide) (by decide) (by decide), p1 18 (by decide) (by decide) (by decide), b2 18 (by decide) (by decide) (by decide), m1 18 (by decide) (by decide) (by decide), a1 18 (by decide) (by decide)]; exact z18
  have fbb := FB_bd (ru_of hI hr hs) hm (Nat.le_refl m) f1
  have hml := hm.2.1
  have hgl := (by_of hI hg).1
  refine setM hI r1 (fun _ _ => fileM r2 (fun _ => fileM r3 (fun _ => ?_) (fun g => absurd hg g)) (fun g => absurd hf g)) (fun g => absurd ⟨hr, hs⟩ g)
  refine sp_othersOf hI hr hs hf hn (fun _ _ _ => rfl) (fun N2 n1 n2 n3 n4 => ?_)
  refine sp_cuts9 hI hr hs hg hm (fun k hk h0 => n1 k h0 (by unfold essM at hk; omega) (by unfold essM at hk; omega)) (fun N3 q1' q2' q3' q4' => ?_)
  have hN3 : ∀ k, essM k → k ≠ 0 → N3 k = N k := fun k hk h0 => by rw [q1' k h0 (by unfold essM at hk; omega), n1 k h0 (by unfold essM at hk; omega) (by unfold essM at hk; omega)]
  have c11 : N3 11 = N2 11 := q1' 11 (by decide) (by decide)
  have c013 : N3 0 13 = n := by rw [q2' 13 (by decide), n3]
  have fin : rg v ∧ v = v ∧ K M5 N3 := ⟨⟨by omega, by omega⟩, rfl, hK _ _ (fr_ok hI hM5 hz hN3 (fun i i1 i2 => by rw [q2' i i1, n2 i i1 i2]))⟩
  have l57 : ∀ (k : Nat), k < m → ∀ (KK : Int → Prop), (∀ h : Int, (h = 0 ∧ ¬ ∃ i, i < n ∧ AL (N 2) (pS N x1 x2 i) (pL N x1 x2 i) (pS N x1 x3 k) (pL N x1 x3 k)) ∨ (h = 1 ∧ ∃ i, i < n ∧ AL (N 2) (pS N x1 x2 i) (pL N x1 x2 i) (pS N x1 x3 k) (pL N x1 x3 k)) → KK h) → ∀ (Q : Int → gMem → Prop) (w i : Nat) (h : Int), i ≤ n → n - i < w → ((h = 0 ∧ ∀ j, j < i → ¬ AL (N 2) (pS N x1 x2 j) (pL N x1 x2 j) (pS N x1 x3 k) (pL N x1 x3 k)) ∨ (h = 1 ∧ ∃ i, i < n ∧ AL (N 2) (pS N x1 x2 i) (pL N x1 x2 i) (pS N x1 x3 k) (pL N x1 x3 k))) → fX9_sent_L57 x2 x3 k N3 w h i KK Q := by
    intro k hk KK hKK Q w
    induction w with
    | zero => intro i h g1 g2; omega
    | succ w ih =>
      intro i h g1 g2 g3
      rw [fX9_sent_L57, c013]
      refine ⟨⟨by omega, by omega⟩, ⟨by omega, by omega⟩, fun l1 => ⟨by rcases g3 with g | g <;> exact ⟨by omega, by omega⟩, fun hz => ?_, fun hnz => hKK h (g3.elim (fun g => absurd g.1 hnz) Or.inr)⟩, fun l1 => hKK h ?_⟩
      · refine ⟨⟨by omega, by omega⟩, ⟨by omega, by omega⟩, ⟨by omega, by omega⟩, ⟨by omega, by omega⟩, ?_⟩
        rw [show (i : Int) + 1 = ((i + 1 : Nat) : Int) by omega, show (k : Int) + 1 = ((k + 1 : Nat) : Int) by omega, c11, n4 _ (by omega), n4 _ (by omega), q4' _ (by omega), q4' _ (by omega)]
        refine sp_alikeM hI hN3 hr hs hf hg hn hm (by omega) hk (fun al => ih (i + 1) 1 (by omega) (by omega) (Or.inr ⟨rfl, i, by omega, al⟩)) (fun al => ih (i + 1) 0 (by omega) (by omega) (Or.inl ⟨rfl, fun j hj => ?_⟩))
        rcases g3 with g | g
        · by_cases c : j = i
          · subst c; exact al
          · exact g.2 j (by omega)
        · omega
      · rcases g3 with g | g
        · exact Or.inl ⟨g.1, fun ⟨j, j1, j2⟩ => g.2 j (by omega) j2⟩
        · exact Or.inr g
  have l120 : ∀ (k : Nat), k < m → ∀ (P : Prop) (KK : Int → Prop), (∀ h : Int, (h = 0 ∧ ¬ (P ∨ ∃ i, i < k ∧ AL (N 2) (pS N x1 x3 i) (pL N x1 x3 i) (pS N x1 x3 k) (pL N x1 x3 k))) ∨ (h = 1 ∧ (P ∨ ∃ i, i < k ∧ AL (N 2) (pS N x1 x3 i) (pL N x1 x3 i) (pS N x1 x3 k) (pL N x1 x3 k))) → KK h) → ∀ (Q : Int → gMem → Prop) (w i : Nat) (h : Int), i ≤ k → k - i < w → ((h = 0 ∧ ¬ P ∧ ∀ j, j < i → ¬ AL (N 2) (pS N x1 x3 j) (pL N x1 x3 j) (pS N x1 x3 k) (pL N x1 x3 k)) ∨ (h = 1 ∧ (P ∨ ∃ i, i < k ∧ AL (N 2) (pS N x1 x3 i) (pL N x1 x3 i) (pS N x1 x3 k) (pL N x1 x3 k)))) → fX9_sent_L120 x3 k N3 w h i KK Q := by
    intro k hk P KK hKK Q w
    induction w with
    | zero => intro i h g1 g2; omega
    | succ w ih =>
      intro i h g1 g2 g3
      rw [fX9_sent_L120]
      refine ⟨⟨by omega, by omega⟩, ⟨by omega, by omega⟩, fun l1 => ⟨by rcases g3 with g | g <;> exact ⟨by omega, by omega⟩, fun hz => ?_, fun hnz => hKK h (g3.elim (fun g => absurd g.1 hnz) Or.inr)⟩, fun l1 => hKK h ?_⟩
      · refine ⟨⟨by omega, by omega⟩, ⟨by omega, by omega⟩, ⟨by omega, by omega⟩, ⟨by omega, by omega⟩, ?_⟩
        rw [show (i : Int) + 1 = ((i + 1 : Nat) : Int) by omega, show (k : Int) + 1 = ((k + 1 : Nat) : Int) by omega, q4' _ (by omega), q4' _ (by omega), q4' _ (by omega), q4' _ (by omega)]
        refine sp_alikeM hI hN3 hr hs hg hg hm hm (by omega) hk (fun al => ih (i + 1) 1 (by omega) (by omega) (Or.inr ⟨rfl, Or.inr ⟨i, by omega, al⟩⟩)) (fun al => ih (i + 1) 0 (by omega) (by omega) ?_)
        rcases g3 with g | g
        · refine Or.inl ⟨rfl, g.2.1, fun j hj => ?_⟩
          by_cases c : j = i
          · subst c; exact al
          · exact g.2.2 j (by omega)
        · omega
      · rcases g3 with g | g
        · refine Or.inl ⟨g.1, fun hh => ?_⟩
          rcases hh with hh | ⟨j, j1, j2⟩
          · exact g.2.1 hh
          · exact g.2.2 j (by omega) j2
        · exact Or.inr g
  have hasE : ∀ k, ((∃ i, i < n ∧ AL (N 2) (pS N x1 x2 i) (pL N x1 x2 i) (pS N x1 x3 k) (pL N x1 x3 k)) ∨ ∃ i, i < k ∧ AL (N 2) (pS N x1 x3 i) (pL N x1 x3 i) (pS N x1 x3 k) (pL N x1 x3 k)) ↔ hasP N x1 x3 (Tk N x1 x2 (fun _ _ => False) n) k := by
    intro k
    constructor
    · rintro (⟨i, i1, i2⟩ | ⟨i, i1, i2⟩)
      · exact ⟨_, _, Or.inl (Or.inr ⟨i, i1, rfl, rfl⟩), i2⟩
      · exact ⟨_, _, Or.inr ⟨i, i1, rfl, rfl⟩, i2⟩
    · rintro ⟨s, l, (h | ⟨i, i1, i2, i3⟩) | ⟨i, i1, i2, i3⟩, al⟩
      · exact h.elim
      · subst i2; subst i3; exact Or.inl ⟨i, i1, al⟩
      · subst i2; subst i3; exact Or.inr ⟨i, i1, al⟩
  have key : ∀ (u k : Nat) (x4 : Int), k ≤ m → m - k < u → (∃ c, FB N x1 x3 (Tk N x1 x2 (fun _ _ => False) n) k x4 c) → fX9_sent_L42 x2 x3 N3 u x4 k (fun r2 N1 => rg v ∧ v = r2 ∧ K M5 N1) := by
    intro u
    induction u with
    | zero => intro k x4 g1 g2; omega
    | succ u ih =>
      intro k x4 g1 g2 g3
      rw [fX9_sent_L42, q3']
      refine ⟨⟨by omega, by omega⟩, ⟨by omega, by omega⟩, fun l1 => ?_, fun l1 => ?_⟩
      · have hk : k < m := by omega
        obtain ⟨c, g3⟩ := g3
        refine ⟨n + 1, l57 k hk _ (fun h hh => ⟨k + 1, l120 k hk (∃ i, i < n ∧ AL (N 2) (pS N x1 x2 i) (pL N x1 x2 i) (pS N x1 x3 k) (pL N x1 x3 k)) _ (fun h2 hh2 => ?_) _ (k + 1) 0 h (by omega) (by omega) ?_⟩) _ (n + 1) 0 0 (by omega) (by omega) (Or.inl ⟨rfl, fun j hj => by omega⟩)⟩
        · rw [hasE k] at hh2
          obtain ⟨u1, u2⟩ := pc_ok hI hr hs hg hm (k := k) hk
          refine ⟨by rcases hh2 with g | g <;> exact ⟨by omega, by omega⟩, fun hz => ⟨⟨by omega, by omega⟩, ⟨by omega, by omega⟩, ?_⟩, fun hnz => ?_⟩
          · rw [show (k : Int) + 1 = ((k + 1 : Nat) : Int) by omega, q4' _ (by omega), q4' _ (by omega)]
            refine ih (k + 1) _ (by omega) (by omega) ⟨c + 1, x4, c, g3, ?_⟩
            rcases hh2 with g | g
            · exact Or.inr ⟨g.2, rfl, rfl⟩
            · omega
          · refine ih (k + 1) _ (by omega) (by omega) ⟨c, x4, c, g3, ?_⟩
            rcases hh2 with g | g
            · omega
            · exact Or.inl ⟨g.2, rfl, rfl⟩
        · rcases hh with g | g
          · exact Or.inl ⟨g.1, g.2, fun j hj => by omega⟩
          · exact Or.inr ⟨g.1, Or.inl g.2⟩
      · have : k = m := by omega
        subst this
        obtain ⟨c, g3⟩ := g3
        obtain ⟨ev, -⟩ := FB_un f1 g3
        subst ev
        exact fin
  exact ⟨m + 1, key (m + 1) 0 0 (by omega) (by omega) ⟨0, rfl, rfl⟩⟩
