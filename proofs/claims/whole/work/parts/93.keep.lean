/-! the reference: isThat, lacks, comes -/
theorem sp_isThat {p f a e : Int} {N : gMem} {Q : Int → Prop} (hp : 1 ≤ p ∧ p ≤ 300) (hf : 0 ≤ f ∧ f < 8) (ha : 0 ≤ a ∧ a ≤ e ∧ e ≤ 600) (h16 : 0 ≤ N 16 p ∧ N 16 p ≤ 200) (h17 : ∀ i, 0 ≤ i → i < N 16 p → 0 ≤ N 17 (200 * p + i) ∧ N 17 (200 * p + i) < 256) (h2 : ∀ i, a ≤ i → i < e → 0 ≤ N 2 (600 * f + i) ∧ N 2 (600 * f + i) < 256)
    (hY : alZ N (N 2) (600 * f + a) (e - a) p → Q 1) (hN : ¬ alZ N (N 2) (600 * f + a) (e - a) p → Q 0) : fX9_isThat p f a e N Q := by
  have key : N 16 p = e - a → ∀ (n : Nat) (x : Int), a ≤ x → x ≤ e → e - x < n → (∀ i, 0 ≤ i → i < x - a → N 17 (200 * p + i) = N 2 (600 * f + a + i)) → fX9_isThat_L18 p f a e N n x Q := by
    intro he n
    induction n with
    | zero => intro x g1 g2 g3; omega
    | succ n ih =>
      intro x g1 g2 g3 g4
      have e1 : 200 * p + x - a = 200 * p + (x - a) := by omega
      have e2 : 600 * f + x = 600 * f + a + (x - a) := by omega
      refine ⟨⟨by omega, by omega⟩, ⟨by omega, by omega⟩, fun h => ⟨⟨by omega, by omega⟩, ⟨by omega, by omega⟩, ?_, ?_, fun c => ih _ (by omega) (by omega) (by omega) (fun i i1 i2 => ?_), fun c => hN (fun g => c ?_)⟩, fun h => hY ⟨he, fun i i1 i2 => g4 i i1 (by omega)⟩⟩
      · rw [e1]; have := h17 (x - a) (by omega) (by omega); exact ⟨by omega, by omega⟩
      · have := h2 x g1 h; exact ⟨by omega, by omega⟩
      · by_cases d : i = x - a
        · rw [d, ← e1, ← e2]; exact c
        · exact g4 i i1 (by omega)
      · rw [e1, e2]; exact g.2 (x - a) (by omega) (by omega)
  exact ⟨⟨by omega, by omega⟩, ⟨by omega, by omega⟩, ⟨by omega, by omega⟩, fun he => ⟨(e - a).toNat + 1, key he _ a (by omega) (by omega) (by omega) (fun i i1 i2 => by omega)⟩, fun he => hN (fun g => he g.1)⟩
/-- a store whose bytes and prints are as they should -/
def OKZ (Z : gMem) : Prop := ∀ p, 1 ≤ p → p ≤ 300 → (0 ≤ Z 16 p ∧ Z 16 p ≤ 200) ∧ (0 < Z 16 p → (∀ i, 0 ≤ i → i < Z 16 p → 0 ≤ Z 17 (200 * p + i) ∧ Z 17 (200 * p + i) < 256) ∧ Z 18 p = PR (fun i => Z 17 (200 * p + i)) (Z 16 p))
theorem OKZ_0 {t : Nat} {M N : gMem} (hI : Inv t M N) : OKZ N := fun p a b => by
  obtain ⟨i1, i2, i3, i4⟩ := hI.2.2.2.2.1.1 p a b
  refine ⟨⟨i1, i2⟩, fun z => ?_⟩
  obtain ⟨j1, j2, j3, j4, j5, j6, j7, j8⟩ := i4 z
  exact ⟨fun i h1 h2 => by rw [j8 i h1 h2]; omega, j5⟩
theorem PV_by {t : Nat} {M N : gMem} (hI : Inv t M N) {s l : Int} (h : PV N s l) : ∀ i, 0 ≤ i → i < l → 0 ≤ N 2 (s + i) ∧ N 2 (s + i) < 256 := fun i h1 h2 => by
  rw [(PV_bd hI h).2.2.2.2 i h1 h2]; omega
theorem CS_OK {t : Nat} {M N : gMem} (hI : Inv t M N) {r f : Int} {n : Nat} (hr : 0 ≤ r ∧ r < 6) (hs : 0 < N 4 r) (hf : 0 ≤ f ∧ f < 8) (hn : CN N r f n) : ∀ {k : Nat} {Z : gMem}, k ≤ n → CS N r f k Z → OKZ Z
  | 0, Z, _, h => by
    have : Z = N := h
    subst this
    exact OKZ_0 hI
  | k + 1, Z, hk, ⟨Z', h1, h2⟩ => by
    have h3 := CS_OK hI hr hs hf hn (by omega) h1
    obtain ⟨u1, u2⟩ := pc_ok hI hr hs hf hn (by omega : k < n)
    obtain ⟨a1, a2, a3, a4, a5⟩ := PV_bd hI u2
    have hby := PV_by hI u2
    rcases h2 with ⟨p, la, e⟩ | ⟨hno, p, lf, e⟩
    · intro q a b
      rw [e, coF_o (k := 16) (by decide), coF_o (k := 17) (by decide), coF_o (k := 18) (by decide)]
      exact h3 q a b
    · intro q a b
      obtain ⟨w1, w2⟩ := h3 q a b
      by_cases c : q = p
      · subst c
        have v16 : Z 16 q = pL N r f k := by rw [e, coN_16, if_pos rfl]
        have v17 : ∀ i, 0 ≤ i → i < pL N r f k → Z 17 (200 * q + i) = N 2 (pS N r f k + i) := fun i i1 i2 => by rw [e, coN_17, if_pos (by omega), show 200 * q + i - 200 * q = i by omega]
        have v18 : Z 18 q = pP N r f k := by rw [e, coN_18, if_pos rfl]
        rw [v16, v18]
        refine ⟨by omega, fun _ => ⟨fun i i1 i2 => by rw [v17 i i1 i2]; exact hby i i1 i2, ?_⟩⟩
        show sI (fun i => N 2 (pS N r f k + i) * (i + 1)) (pL N r f k).toNat % 256 = sI (fun i => Z 17 (200 * q + i) * (i + 1)) (pL N r f k).toNat % 256
        rw [sI_congr (g := fun i => N 2 (pS N r f k + i) * (i + 1)) (h := fun i => Z 17 (200 * q + i) * (i + 1)) (fun i i1 i2 => by rw [v17 i i1 (by omega)])]
      · have v16 : Z 16 q = Z' 16 q := by rw [e, coN_16, if_neg c]
        have v17 : ∀ i, 0 ≤ i → i < Z' 16 q → Z 17 (200 * q + i) = Z' 17 (200 * q + i) := fun i i1 i2 => by rw [e, coN_17, if_neg (by omega)]
        have v18 : Z 18 q = Z' 18 q := by rw [e, coN_18, if_neg c]
        rw [v16, v18]
        refine ⟨w1, fun z => ⟨fun i i1 i2 => by rw [v17 i i1 i2]; exact (w2 z).1 i i1 i2, ?_⟩⟩
        rw [(w2 z).2]
        show sI (fun i => Z' 17 (200 * q + i) * (i + 1)) (Z' 16 q).toNat % 256 = sI (fun i => Z 17 (200 * q + i) * (i + 1)) (Z' 16 q).toNat % 256
        rw [sI_congr (g := fun i => Z' 17 (200 * q + i) * (i + 1)) (h := fun i => Z 17 (200 * q + i) * (i + 1)) (fun i i1 i2 => by rw [v17 i i1 (by omega)])]
theorem sp_thatZ {t : Nat} {M N N' Z : gMem} (hI : Inv t M N) {r f p : Int} {n k : Nat} {Q : Int → Prop} (hr : 0 ≤ r ∧ r < 6) (hs : 0 < N 4 r) (hf : 0 ≤ f ∧ f < 8) (hn : CN N r f n) (hk : k < n) (hp : 1 ≤ p ∧ p ≤ 300) (hz : 0 < Z 16 p) (hO : OKZ Z) (e2 : N' 2 = N 2) (e16 : N' 16 = Z 16) (e17 : N' 17 = Z 17)
    (hY : alZ Z (N 2) (pS N r f k) (pL N r f k) p → Q 1) (hN : ¬ alZ Z (N 2) (pS N r f k) (pL N r f k) p → Q 0) : fX9_isThat p f (cp N r f k) (cp N r f (k + 1)) N' Q := by
  obtain ⟨u1, u2⟩ := pc_ok hI hr hs hf hn hk
  obtain ⟨o1, o2⟩ := hO p hp.1 hp.2
  have hb := (by_of hI hf).2
  refine sp_isThat hp hf (by omega) (by rw [e16]; exact o1) (by rw [e16, e17]; exact (o2 hz).1) (fun i i1 i2 => by rw [e2]; exact hb i (by omega) (by omega)) (fun h => hY ?_) (fun h => hN (fun g => h ?_))
  · unfold alZ at *; rw [e16, e17, e2] at h; exact h
  · unfold alZ at *; rw [e16, e17, e2]; exact g
theorem sp_lacks {t : Nat} {M N N' : gMem} (hI : Inv t M N) {r f : Int} {n : Nat} {Q : Int → Prop} (hr : 0 ≤ r ∧ r < 6) (hs : 0 < N 4 r) (hf : 0 ≤ f ∧ f < 8) (hn : CN N r f n) (hN : ∀ k, essM k → k ≠ 0 → N' k = N k) (n3 : N' 0 10 = n) (n4 : ∀ j : Nat, j ≤ n → N' 10 j = cp N r f j) (hQ : ∀ v, LK N r f n v → Q v) : fX9_lacks f N' Q := by
  have e2 : N' 2 = N 2 := hN 2 (by simp [essM]) (by decide)
  have e16 : N' 16 = N 16 := hN 16 (by simp [essM]) (by decide)
  have e17 : N' 17 = N 17 := hN 17 (by simp [essM]) (by decide)
  have hO := OKZ_0 hI
  have hn6 := hn.1
  have l18 : ∀ (k : Nat), k < n → ∀ (KK : Int → Prop), (∀ h : Int, (h = 0 ∧ ¬ ∃ p, (1 ≤ p ∧ p ≤ 300) ∧ alZ N (N 2) (pS N r f k) (pL N r f k) p) ∨ (h = 1 ∧ ∃ p, (1 ≤ p ∧ p ≤ 300) ∧ alZ N (N 2) (pS N r f k) (pL N r f k) p) → KK h) → ∀ (w : Nat) (x h : Int), 1 ≤ x → x ≤ 301 → 301 - x < w → ((h = 0 ∧ ∀ q, 1 ≤ q → q < x → ¬ alZ N (N 2) (pS N r f k) (pL N r f k) q) ∨ (h = 1 ∧ ∃ p, (1 ≤ p ∧ p ≤ 300) ∧ alZ N (N 2) (pS N r f k) (pL N r f k) p)) → fX9_lacks_L18 f k N' w h x KK Q := by
    intro k hk KK hKK w
    obtain ⟨u1, u2⟩ := pc_ok hI hr hs hf hn hk
    induction w with
    | zero => intro x h g1 g2 g3; omega
    | succ w ih =>
      intro x h g1 g2 g3 g4
      have rh : rg h := by rcases g4 with g | g <;> exact ⟨by omega, by omega⟩
      refine ⟨⟨by omega, by omega⟩, fun hgt => hKK h ?_, fun hle => ⟨rh, fun hz => ?_, fun hnz => hKK h (g4.elim (fun g => absurd g.1 hnz) Or.inr)⟩⟩
      · rcases g4 with g | g
        · exact Or.inl ⟨g.1, fun ⟨p, p1, p2⟩ => g.2 p p1.1 (by omega) p2⟩
        · exact Or.inr g
      · have g4' : ∀ q, 1 ≤ q → q < x → ¬ alZ N (N 2) (pS N r f k) (pL N r f k) q := by
          rcases g4 with g | g
          · exact g.2
          · omega
        have nx : ¬ alZ N (N 2) (pS N r f k) (pL N r f k) x → ∀ q, 1 ≤ q → q < x + 1 → ¬ alZ N (N 2) (pS N r f k) (pL N r f k) q := fun na q q1 q2 => by
          by_cases c : q = x
          · rw [c]; exact na
          · exact g4' q q1 (by omega)
        refine sp_isPiece ⟨by omega, by omega⟩ (fun a b => by rw [e16]; exact (hO x a b).1) (fun a b c => q1 ⟨⟨by omega, by omega⟩, ⟨by omega, by omega⟩, ?_⟩) (fun c => q0 (ih (x + 1) 0 (by omega) (by omega) (by omega) (Or.inl ⟨rfl, nx (fun a => ?_)⟩)))
        · rw [show (k : Int) + 1 = ((k + 1 : Nat) : Int) by omega, n4 _ (by omega), n4 _ (by omega)]
          rw [e16] at c
          refine sp_thatZ hI hr hs hf hn hk ⟨a, b⟩ c hO e2 e16 e17 (fun al => q1 (ih (x + 1) 1 (by omega) (by omega) (by omega) (Or.inr ⟨rfl, x, ⟨a, b⟩, al⟩))) (fun al => q0 (ih (x + 1) 0 (by omega) (by omega) (by omega) (Or.inl ⟨rfl, nx al⟩)))
        · have c' := c g1 (by omega)
          rw [e16] at c'
          have := a.1
          unfold pL at this
          omega
  have l80 : ∀ (k : Nat), k < n → ∀ (P : Prop) (KK : Int → Prop), (∀ h : Int, (h = 0 ∧ ¬ (P ∨ ∃ i, i < k ∧ AL (N 2) (pS N r f i) (pL N r f i) (pS N r f k) (pL N r f k))) ∨ (h = 1 ∧ (P ∨ ∃ i, i < k ∧ AL (N 2) (pS N r f i) (pL N r f i) (pS N r f k) (pL N r f k))) → KK h) → ∀ (w i : Nat) (h : Int), i ≤ k → k - i < w → ((h = 0 ∧ ¬ P ∧ ∀ j, j < i → ¬ AL (N 2) (pS N r f j) (pL N r f j) (pS N r f k) (pL N r f k)) ∨ (h = 1 ∧ (P ∨ ∃ i, i < k ∧ AL (N 2) (pS N r f i) (pL N r f i) (pS N r f k) (pL N r f k)))) → fX9_lacks_L80 f k N' w h i KK Q := by
    intro k hk P KK hKK w
    induction w with
    | zero => intro i h g1 g2; omega
    | succ w ih =>
      intro i h g1 g2 g3
      have rh : rg h := by rcases g3 with g | g <;> exact ⟨by omega, by omega⟩
      rw [fX9_lacks_L80]
      refine ⟨⟨by omega, by omega⟩, ⟨by omega, by omega⟩, fun l1 => ⟨rh, fun hz => ?_, fun hnz => hKK h (g3.elim (fun g => absurd g.1 hnz) Or.inr)⟩, fun l1 => hKK h ?_⟩
      · refine ⟨⟨by omega, by omega⟩, ⟨by omega, by omega⟩, ⟨by omega, by omega⟩, ⟨by omega, by omega⟩, ?_⟩
        rw [show (i : Int) + 1 = ((i + 1 : Nat) : Int) by omega, show (k : Int) + 1 = ((k + 1 : Nat) : Int) by omega, n4 _ (by omega), n4 _ (by omega), n4 _ (by omega), n4 _ (by omega)]
        refine sp_alikeM hI hN hr hs hf hf hn hn (by omega) hk (fun al => ih (i + 1) 1 (by omega) (by omega) (Or.inr ⟨rfl, Or.inr ⟨i, by omega, al⟩⟩)) (fun al => ih (i + 1) 0 (by omega) (by omega) ?_)
        rcases g3 with g | g
        · refine Or.inl ⟨rfl, g.2.1, fun j hj => ?_⟩
          by_cases c : j = i
          · subst c; exact al
          · exact g.2.2 j (by omega)
        · omega
      · rcases g3 with g | g
        · refine Or.inl ⟨g.1, fun hh => ?_⟩
          rcases hh with hh | ⟨j, j1, j2⟩
          · exact g.2.1 hh
          · exact g.2.2 j (by omega) j2
        · exact Or.inr g
  have key : ∀ (w k : Nat) (v : Int), k ≤ n → n - k < w → LK N r f k v → fX9_lacks_L4 f N' w v k Q := by
    intro w
    induction w with
    | zero => intro k v g1 g2; omega
    | succ w ih =>
      intro k v g1 g2 g3
      rw [fX9_lacks_L4, n3]
      refine ⟨⟨by omega, by omega⟩, ⟨by omega, by omega⟩, fun hlt => ?_, fun hge => ?_⟩
      · have hk : k < n := by omega
        refine ⟨301, l18 k hk _ (fun h hh => ⟨k + 1, l80 k hk _ _ (fun h2 hh2 => ?_) (k + 1) 0 h (by omega) (by omega) (hh.elim (fun g => Or.inl ⟨g.1, g.2, fun j hj => by omega⟩) (fun g => Or.inr ⟨g.1, Or.inl g.2⟩))⟩) 301 1 0 (by omega) (by omega) (by omega) (Or.inl ⟨rfl, fun q q1 q2 => by omega⟩)⟩
        have hh3 : (h2 = 0 ∧ ¬ hsQ N r f k) ∨ (h2 = 1 ∧ hsQ N r f k) := hh2
        clear hh2 hh
        refine ⟨by rcases hh3 with g | g <;> exact ⟨by omega, by omega⟩, fun hz => ?_, fun hnz => ?_⟩
        · refine ih (k + 1) (v + 1) (by omega) (by omega) ⟨v, g3, Or.inr ⟨?_, rfl⟩⟩
          rcases hh3 with g | g
          · exact g.2
          · omega
        · refine ih (k + 1) v (by omega) (by omega) ⟨v, g3, Or.inl ⟨?_, rfl⟩⟩
          rcases hh3 with g | g
          · omega
          · exact g.2
      · have : k = n := by omega
        subst this
        exact hQ v g3
  exact ⟨n + 1, key (n + 1) 0 0 (by omega) (by omega) rfl⟩
theorem sp_comes {t : Nat} {M N N' Z Z' : gMem} (hI : Inv t M N) {r f : Int} {n k : Nat} {Q : Int → gMem → Prop} (hr : 0 ≤ r ∧ r < 6) (hs : 0 < N 4 r) (hf : 0 ≤ f ∧ f < 8) (hn : CN N r f n) (hk : k < n) (hO : OKZ Z) (hst : Step N r f k Z Z') (e2 : N' 2 = N 2) (e16 : N' 16 = Z 16) (e17 : N' 17 = Z 17) (e18 : N' 18 = Z 18) (e19 : N' 19 = Z 19) (e22 : N' 22 = Z 22) (e0 : N' 0 27 = Z 0 27)
    (hQ : ∀ (p : Int) (N2 : gMem), (1 ≤ p ∧ p ≤ 300) → (∀ k', k' ≠ 0 → k' ≠ 16 → k' ≠ 17 → k' ≠ 18 → k' ≠ 19 → N2 k' = N' k') → (∀ i, i ≠ 27 → N2 0 i = N' 0 i) → N2 16 = Z' 16 → N2 17 = Z' 17 → N2 18 = Z' 18 → (∀ q, Z' 19 q = if q = p then N2 19 p + 1 else N2 19 q) → (∀ j, Z' 22 j = if j = 600 * f + k then p else N2 22 j) → N2 0 27 = Z' 0 27 → Q p N2) : fX9_comes f (cp N r f k) (cp N r f (k + 1)) N' Q := by
  obtain ⟨u1, u2⟩ := pc_ok hI hr hs hf hn hk
  obtain ⟨a1, a2, a3, a4, a5⟩ := PV_bd hI u2
  have hby := PV_by hI u2
  have epl : cp N r f (k + 1) - cp N r f k = pL N r f k := rfl
  have prb := PR_bd (fun i => N 2 (pS N r f k + i)) (pL N r f k)
  refine sp_printM hI e2 hr hs hf hn hk ⟨302, ?_⟩
  have epp : PR (fun i => N 2 (pS N r f k + i)) (pL N r f k) = pP N r f k := rfl
  have prb' : 0 ≤ pP N r f k ∧ pP N r f k < 256 := prb
  rw [epp]
  -- what comes of it
  have finF : ∀ (p x6 : Int) (N2 : gMem), LA Z (N 2) (pS N r f k) (pL N r f k) p → (∀ k', k' ≠ 0 → N2 k' = N' k') → (∀ i, i ≠ 27 → N2 0 i = N' 0 i) → N2 0 27 = Z 0 27 + mc Z (pP N r f k) (pL N r f k) (p - 1).toNat → fX9_comes_J117 f (cp N r f k) (cp N r f (k + 1)) (pP N r f k) p x6 N2 Q := by
    intro p x6 N2 la m1 m2 m3
    have eZ : Z' = coF Z (600 * f + k) (pL N r f k) (pP N r f k) p := by
      rcases hst with ⟨p', la', e⟩ | ⟨hno, -⟩
      · rw [e, LA_un la la']
      · exact absurd la.2.1 (hno p la.1.1 la.1.2)
    have lp := la.1
    refine ⟨⟨by omega, by omega⟩, fun g => by omega, fun _ => hQ p N2 lp (fun k' h0 _ _ _ _ => m1 k' h0) m2 ?_ ?_ ?_ (fun q => ?_) (fun j => ?_) ?_⟩
    · rw [m1 16 (by decide), e16, eZ, coF_o (by decide)]
    · rw [m1 17 (by decide), e17, eZ, coF_o (by decide)]
    · rw [m1 18 (by decide), e18, eZ, coF_o (by decide)]
    · rw [m1 19 (by decide), e19, eZ, coF_19]
    · rw [m1 22 (by decide), e22, eZ, coF_22]
    · rw [m3, eZ, coF_0, if_pos rfl]
  have finN : ∀ (x6 : Int) (N2 : gMem), (∀ q, 1 ≤ q → q ≤ 300 → ¬ alZ Z (N 2) (pS N r f k) (pL N r f k) q) → ((x6 = -1 ∧ ∀ q, 1 ≤ q → q ≤ 300 → Z 16 q ≠ 0) ∨ LF Z x6) → (∀ k', k' ≠ 0 → N2 k' = N' k') → (∀ i, i ≠ 27 → N2 0 i = N' 0 i) → N2 0 27 = Z 0 27 + mc Z (pP N r f k) (pL N r f k) 300 → fX9_comes_J117 f (cp N r f k) (cp N r f (k + 1)) (pP N r f k) (-1) x6 N2 Q := by
    intro p N2 hno hfr m1 m2 m3
    obtain ⟨lf, eZ⟩ : LF Z p ∧ Z' = coN Z (N 2) (600 * f + k) (pS N r f k) (pL N r f k) (pP N r f k) p := by
      rcases hst with ⟨p', la', e⟩ | ⟨-, p', lf', e⟩
      · exact absurd la'.2.1 (hno p' la'.1.1 la'.1.2)
      · rcases hfr with g | g
        · exact absurd lf'.2.1 (g.2 p' lf'.1.1 lf'.1.2)
        · exact ⟨g, by rw [e, LF_un g lf']⟩
    have lp := lf.1
    refine ⟨rg_m1, fun _ => ⟨by omega, fun M1 d1 => ⟨by omega, fun M2 d2 => ⟨by omega, fun M3 d3 => ⟨(pL N r f k).toNat + 1, ?_⟩⟩⟩⟩, fun g => absurd rfl g⟩
    rw [epl] at d1
    have key : ∀ (w : Nat) (x : Int) (M4 : gMem), cp N r f k ≤ x → x ≤ cp N r f (k + 1) → cp N r f (k + 1) - x < w → (∀ k', k' ≠ 17 → M4 k' = M3 k') → (∀ i, M4 17 i = if 200 * p ≤ i ∧ i < 200 * p + (x - cp N r f k) then N 2 (pS N r f k + (i - 200 * p)) else M3 17 i) → fX9_comes_L156 f (cp N r f k) (cp N r f (k + 1)) p w x M4 Q := by
      intro w
      induction w with
      | zero => intro x M4 g1 g2 g3; omega
      | succ w ih =>
        intro x M4 g1 g2 g3 g4 g5
        have b2 : M4 2 = N 2 := by rw [g4 2 (by decide), d3, gSt_ne _ _ _ _ _ (by decide), d2, gSt_ne _ _ _ _ _ (by decide), d1, gSt_ne _ _ _ _ _ (by decide), m1 2 (by decide), e2]
        have l2 : pL N r f k = cp N r f (k + 1) - cp N r f k := rfl
        refine ⟨⟨by omega, by omega⟩, ⟨by omega, by omega⟩, fun hlt => ⟨⟨by omega, by omega⟩, ⟨by omega, by omega⟩, fun M5 d5 => ?_⟩, fun hge => ?_⟩
        · refine ih (x + 1) M5 (by omega) (by omega) (by omega) (fun k' hk' => by rw [d5, gSt_ne _ _ _ _ _ hk', g4 k' hk']) (fun i => ?_)
          rw [d5, gSt_at, b2]
          by_cases c : i = 200 * p + x - cp N r f k
          · rw [if_pos c, if_pos (by omega)]
            unfold pS
            rw [show 600 * f + cp N r f k + (i - 200 * p) = 600 * f + x by omega]
          · rw [if_neg c, g5 i]
            by_cases c2 : 200 * p ≤ i ∧ i < 200 * p + (x - cp N r f k)
            · rw [if_pos c2, if_pos (by omega)]
            · rw [if_neg c2, if_neg (by omega)]
        · have hx : x = cp N r f (k + 1) := by omega
          subst hx
          have o : ∀ k', k' ≠ 16 → k' ≠ 17 → k' ≠ 18 → k' ≠ 19 → M4 k' = N2 k' := fun k' h1 h2 h3 h4 => by rw [g4 k' h2, d3, gSt_ne _ _ _ _ _ h4, d2, gSt_ne _ _ _ _ _ h3, d1, gSt_ne _ _ _ _ _ h1]
          have o16 : ∀ i, M4 16 i = if i = p then pL N r f k else Z 16 i := fun i => by rw [g4 16 (by decide), d3, gSt_ne _ _ _ _ _ (by decide), d2, gSt_ne _ _ _ _ _ (by decide), d1, gSt_at, m1 16 (by decide), e16]
          have o18 : ∀ i, M4 18 i = if i = p then pP N r f k else Z 18 i := fun i => by rw [g4 18 (by decide), d3, gSt_ne _ _ _ _ _ (by decide), d2, gSt_at, d1, gSt_ne _ _ _ _ 18 (by decide), m1 18 (by decide), e18]
          have o19 : ∀ i, M4 19 i = if i = p then 0 else Z 19 i := fun i => by rw [g4 19 (by decide), d3, gSt_at, d2, gSt_ne _ _ _ _ 19 (by decide), d1, gSt_ne _ _ _ _ 19 (by decide), m1 19 (by decide), e19]
          have o17 : M3 17 = Z 17 := by rw [d3, gSt_ne _ _ _ _ _ (by decide), d2, gSt_ne _ _ _ _ _ (by decide), d1, gSt_ne _ _ _ _ _ (by decide), m1 17 (by decide), e17]
          refine hQ p M4 lp (fun k' h0 h1 h2 h3 h4 => by rw [o k' h1 h2 h3 h4, m1 k' h0]) (fun i hi => by rw [o 0 (by decide) (by decide) (by decide) (by decide), m2 i hi]) ?_ ?_ ?_ (fun q => ?_) (fun j => ?_) ?_
          · funext i; rw [o16, eZ, coN_16]
          · funext i; rw [g5, eZ, coN_17, o17]; rfl
          · funext i; rw [o18, eZ, coN_18]
          · rw [eZ, coN_19, o19, o19, if_pos rfl]
            by_cases c : q = p
            · rw [if_pos c, if_pos c]; rfl
            · rw [if_neg c, if_neg c, if_neg c]
          · rw [eZ, coN_22, o 22 (by decide) (by decide) (by decide) (by decide), m1 22 (by decide), e22]
          · rw [o 0 (by decide) (by decide) (by decide) (by decide), m3, eZ, coN_0, if_pos rfl]
    refine key _ _ M3 (by omega) (by omega) ?_ (fun _ _ => rfl) (fun i => by rw [if_neg (by omega)])
    unfold pL; omega
  have key : ∀ (w : Nat) (x5 x6 x7 : Int) (N2 : gMem), 1 ≤ x7 → x7 ≤ 301 → 301 - x7 < w → (∀ k', k' ≠ 0 → N2 k' = N' k') → (∀ i, i ≠ 27 → N2 0 i = N' 0 i) → ((x6 = -1 ∧ ∀ q, 1 ≤ q → q < x7 → Z 16 q ≠ 0) ∨ LF Z x6) →
      ((x5 = -1 ∧ (∀ q, 1 ≤ q → q < x7 → ¬ alZ Z (N 2) (pS N r f k) (pL N r f k) q) ∧ N2 0 27 = Z 0 27 + mc Z (pP N r f k) (pL N r f k) (x7 - 1).toNat) ∨ (LA Z (N 2) (pS N r f k) (pL N r f k) x5 ∧ N2 0 27 = Z 0 27 + mc Z (pP N r f k) (pL N r f k) (x5 - 1).toNat)) →
      fX9_comes_L18 f (cp N r f k) (cp N r f (k + 1)) (pP N r f k) w x5 x6 x7 N2 (fun x5_26 x6_27 M_28 => fX9_comes_J117 f (cp N r f k) (cp N r f (k + 1)) (pP N r f k) x5_26 x6_27 M_28 Q) Q := by
    intro w
    induction w with
    | zero => intro x5 x6 x7 N2 g1 g2 g3; omega
    | succ w ih =>
      intro x5 x6 x7 N2 g1 g2 g3 g4 g5 g6 g7
      refine ⟨⟨by omega, by omega⟩, fun hgt => ?_, fun hle => ?_⟩
      · have : x7 = 301 := by omega
        subst this
        rcases g7 with ⟨e5, h7, m7⟩ | ⟨la, m7⟩
        · subst e5
          exact finN x6 N2 (fun q q1 q2 => h7 q q1 (by omega)) (g6.elim (fun g => Or.inl ⟨g.1, fun q q1 q2 => g.2 q q1 (by omega)⟩) Or.inr) g4 g5 m7
        · exact finF x5 x6 N2 la g4 g5 m7
      · rcases g7 with ⟨e5, h7, m7⟩ | ⟨la, m7⟩
        · subst e5
          refine ⟨rg_m1, fun _ => ?_, fun g => absurd rfl g⟩
          have f16 : N2 16 = Z 16 := by rw [g4 16 (by decide), e16]
          have f17 : N2 17 = Z 17 := by rw [g4 17 (by decide), e17]
          have f18 : N2 18 = Z 18 := by rw [g4 18 (by decide), e18]
          have f2 : N2 2 = N 2 := by rw [g4 2 (by decide), e2]
          obtain ⟨o1, o2⟩ := hO x7 g1 (by omega)
          have em := mc_step Z (pP N r f k) (pL N r f k) g1
          have nx : ¬ alZ Z (N 2) (pS N r f k) (pL N r f k) x7 → ∀ q, 1 ≤ q → q < x7 + 1 → ¬ alZ Z (N 2) (pS N r f k) (pL N r f k) q := fun na q q1 q2 => by
            by_cases c : q = x7
            · rw [c]; exact na
            · exact h7 q q1 (by omega)
          have r6 : rg x6 := by
            rcases g6 with g | g
            · rw [g.1]; exact rg_m1
            · have := g.1; exact ⟨by omega, by omega⟩
          refine sp_isPiece ⟨by omega, by omega⟩ (fun a b => by rw [f16]; exact o1) (fun a b c => q1 ?_) (fun c => q0 ⟨r6, fun g => ?_, fun g => ?_⟩)
          · rw [f16] at c
            obtain ⟨o3, o4⟩ := o2 c
            have pb := PR_bd (fun i => Z 17 (200 * x7 + i)) (Z 16 x7)
            have g6' : (x6 = -1 ∧ ∀ q, 1 ≤ q → q < x7 + 1 → Z 16 q ≠ 0) ∨ LF Z x6 := by
              rcases g6 with g | g
              · refine Or.inl ⟨g.1, fun q q1 q2 => ?_⟩
                by_cases d : q = x7
                · rw [d]; omega
                · exact g.2 q q1 (by omega)
              · exact Or.inr g
            rw [f18, f16, epl]
            refine ⟨by omega, by rw [o4]; exact ⟨by omega, by omega⟩, ⟨by omega, by omega⟩, fun hpr => ⟨by omega, ⟨by omega, by omega⟩, ⟨by omega, by omega⟩, fun hln => ?_, fun hln => ?_⟩, fun hpr => ?_⟩
            · refine sp_thatZ hI hr hs hf hn hk ⟨a, b⟩ c hO f2 f16 f17 (fun al => q1 ?_) (fun al => q0 (fun M3 d3 => ?_))
              · exact ih x7 x6 (x7 + 1) N2 (by omega) (by omega) (by omega) g4 g5 g6' (Or.inr ⟨⟨⟨a, b⟩, al, h7⟩, m7⟩)
              · refine ih (-1) x6 (x7 + 1) M3 (by omega) (by omega) (by omega) (fun k' hk' => by rw [d3, gSt_ne _ _ _ _ _ hk', g4 k' hk']) (fun i hi => by rw [d3, gSt_at, if_neg hi, g5 i hi]) g6' (Or.inl ⟨rfl, nx al, ?_⟩)
                rw [d3, gSt_eq, m7, show x7 + 1 - 1 = x7 by omega, em, if_pos ⟨c, hpr, hln⟩]
                omega
            · refine ih (-1) x6 (x7 + 1) N2 (by omega) (by omega) (by omega) g4 g5 g6' (Or.inl ⟨rfl, nx (fun al => hln al.1), ?_⟩)
              rw [m7, show x7 + 1 - 1 = x7 by omega, em, if_neg (fun g => hln g.2.2)]
              omega
            · refine ih (-1) x6 (x7 + 1) N2 (by omega) (by omega) (by omega) g4 g5 g6' (Or.inl ⟨rfl, nx (fun al => hpr ?_), ?_⟩)
              · rw [o4, alZ_pr al]; rfl
              · rw [m7, show x7 + 1 - 1 = x7 by omega, em, if_neg (fun g => hpr g.2.1)]
                omega
          · have cz := c g1 (by omega)
            rw [f16] at cz
            have l6 : LF Z x7 := by
              rcases g6 with h | h
              · exact ⟨⟨g1, by omega⟩, by omega, h.2⟩
              · have := h.1; omega
            refine ih (-1) x7 (x7 + 1) N2 (by omega) (by omega) (by omega) g4 g5 (Or.inr l6) (Or.inl ⟨rfl, nx (fun al => by have := al.1; omega), ?_⟩)
            rw [m7, show x7 + 1 - 1 = x7 by omega, em, if_neg (fun g => by omega)]
            omega
          · have cz := c g1 (by omega)
            rw [f16] at cz
            have l6 : LF Z x6 := by
              rcases g6 with h | h
              · exact absurd h.1 g
              · exact h
            refine ih (-1) x6 (x7 + 1) N2 (by omega) (by omega) (by omega) g4 g5 (Or.inr l6) (Or.inl ⟨rfl, nx (fun al => by have := al.1; omega), ?_⟩)
            rw [m7, show x7 + 1 - 1 = x7 by omega, em, if_neg (fun g => by omega)]
            omega
        · have lp := la.1
          exact ⟨⟨by omega, by omega⟩, fun g => by omega, fun _ => finF x5 x6 N2 la g4 g5 m7⟩
  exact key 302 (-1) (-1) 1 N' (by omega) (by omega) (by omega) (fun _ _ => rfl) (fun _ _ => rfl) (Or.inl ⟨rfl, fun q q1 q2 => by omega⟩) (Or.inl ⟨rfl, fun q q1 q2 => by omega, by rw [e0, show ((1 : Int) - 1).toNat = 0 by decide, mc]; omega⟩)
