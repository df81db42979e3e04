/-! cuts, cut, agree -/
theorem setC {t : Nat} {M N : gMem} (hI : Inv t M N) {r : Int} (rr : rg r) {A B : Prop} (hY : 0 ≤ r ∧ r < 6 → 0 < N 4 r → B) (hN : ¬ ((0 ≤ r ∧ r < 6) ∧ 0 < N 4 r) → A) : fX8_isSetRule r M (fun r_1 => rg r_1 ∧ (r_1 = 0 → A) ∧ (¬ r_1 = 0 → B)) := by
  have hC := hI.2.2.1
  refine sp_isSetRule rr (fun a b => ?_) (fun a b c => q1 ?_) (fun g => q0 ?_)
  · obtain ⟨c, d, e, -⟩ := hC r a b; simp only at c; exact ⟨by omega, by omega⟩
  · obtain ⟨i, i2, -⟩ := hC r a b; simp only at i; exact hY ⟨a, b⟩ (by omega)
  · refine hN (fun h => ?_)
    have := g h.1.1 h.1.2; obtain ⟨c, -⟩ := hC r h.1.1 h.1.2; simp only at c; omega
theorem setM {t : Nat} {M N : gMem} (hI : Inv t M N) {r : Int} (rr : rg r) {A B : Prop} (hY : 0 ≤ r ∧ r < 6 → 0 < N 4 r → B) (hN : ¬ ((0 ≤ r ∧ r < 6) ∧ 0 < N 4 r) → A) : fX9_isRule r N (fun r_1 => rg r_1 ∧ (r_1 = 0 → A) ∧ (¬ r_1 = 0 → B)) := by
  refine sp_isRule9 rr (fun a b => ?_) (fun a b c => q1 (hY ⟨a, b⟩ c)) (fun g => q0 (hN (fun h => g h.1.1 h.1.2 h.2)))
  obtain ⟨c, d, e, -⟩ := hI.2.2.1 r a b; exact ⟨by omega, by omega⟩
theorem fileC {M : gMem} {f : Int} (rf : rg f) {A B : Prop} (hY : 0 ≤ f ∧ f < 8 → B) (hN : ¬ (0 ≤ f ∧ f < 8) → A) : fX8_isFile f M (fun r_1 => rg r_1 ∧ (r_1 = 0 → A) ∧ (¬ r_1 = 0 → B)) :=
  sp_isFile rf (fun a b => q1 (hY ⟨a, b⟩)) (fun a => q0 (hN (by omega)))
theorem fileM {N : gMem} {f : Int} (rf : rg f) {A B : Prop} (hY : 0 ≤ f ∧ f < 8 → B) (hN : ¬ (0 ≤ f ∧ f < 8) → A) : fX9_isFile f N (fun r_1 => rg r_1 ∧ (r_1 = 0 → A) ∧ (¬ r_1 = 0 → B)) :=
  sp_isFile9 rf (fun a b => q1 (hY ⟨a, b⟩)) (fun a => q0 (hN (by omega)))
theorem by_of {t : Nat} {M N : gMem} (hI : Inv t M N) {f : Int} (hf : 0 ≤ f ∧ f < 8) : (0 ≤ N 1 f ∧ N 1 f ≤ 600) ∧ ∀ i, 0 ≤ i → i < N 1 f → 0 ≤ N 2 (600 * f + i) ∧ N 2 (600 * f + i) < 256 := by
  obtain ⟨a1, a2, a3, a4⟩ := hI.1 f hf.1 hf.2
  exact ⟨⟨a2, a3⟩, fun i h1 h2 => by rw [a4 i h1 h2]; omega⟩
theorem sp_cuts9 {t : Nat} {M N N' : gMem} (hI : Inv t M N) {r f : Int} {n : Nat} {Q : gMem → Prop} (hr : 0 ≤ r ∧ r < 6) (hs : 0 < N 4 r) (hf : 0 ≤ f ∧ f < 8) (hn : CN N r f n) (hN : ∀ k, essM k → k ≠ 0 → N' k = N k)
    (hQ : ∀ N2 : gMem, (∀ k, k ≠ 0 → k ≠ 10 → N2 k = N' k) → (∀ i, i ≠ 10 → N2 0 i = N' 0 i) → N2 0 10 = n → (∀ j : Nat, j ≤ n → N2 10 j = cp N r f j) → Q N2) : fX9_cutsOf r f N' Q :=
  sp_cutsOf (ru_of hI hr hs) hr hf (by_of hI hf).1 (by_of hI hf).2 hn hN hQ
theorem cn_ex {t : Nat} {M N : gMem} (hI : Inv t M N) {r f : Int} (hr : 0 ≤ r ∧ r < 6) (hs : 0 < N 4 r) (hf : 0 ≤ f ∧ f < 8) : ∃ n, CN N r f n := CN_ex (ru_of hI hr hs) (by_of hI hf).1
theorem CN_un {N : gMem} {r f : Int} {n m : Nat} (hn : CN N r f n) (hm : CN N r f m) : n = m := by
  rcases Nat.lt_trichotomy n m with h | h | h
  · have := hm.2.2 n h; have := hn.2.1; omega
  · exact h
  · have := hn.2.2 m h; have := hm.2.1; omega
theorem sm_cuts {t : Nat} {M N : gMem} {x1 x2 : Int} (hI : Inv t M N) (ht : t ≤ 511) (r1 : rg x1) (r2 : rg x2) {K : gMem → gMem → Prop} (hK : ∀ M1 N1, Inv (t + 1) M1 N1 → K M1 N1) :
    fX8_cuts x1 x2 M (fun r1 M1 => fX9_cuts x1 x2 N (fun r2 N1 => rg r1 ∧ r1 = r2 ∧ K M1 N1)) := by
  have e : rg (-1) ∧ (-1 : Int) = -1 ∧ K M N := ⟨⟨by decide, by decide⟩, rfl, hK _ _ hI.next⟩
  have no : ¬ (((0 ≤ x1 ∧ x1 < 6) ∧ 0 < N 4 x1) ∧ (0 ≤ x2 ∧ x2 < 8)) → fX9_cuts x1 x2 N (fun r2 N1 => rg (-1) ∧ (-1 : Int) = r2 ∧ K M N1) := fun h =>
    setM hI r1 (fun a b => fileM r2 (fun c => absurd ⟨⟨a, b⟩, c⟩ h) (fun _ => e)) (fun _ => e)
  refine setC hI r1 (fun hr hs => fileC r2 (fun hf => ⟨hr, ?_⟩) (fun g => no (fun h => g h.2))) (fun g => no (fun h => g h.1))
  obtain ⟨n, hn⟩ := cn_ex hI hr hs hf
  refine sp_divide hI (fun _ _ => rfl) hI.2.2.2.2.2.2.2.2.1 (Or.inl rfl) hr hs hf hn (fun M2 m1 m2 m3 m4 => ?_)
  refine setM hI r1 (fun _ _ => fileM r2 (fun _ => ?_) (fun g => absurd hf g)) (fun g => absurd ⟨hr, hs⟩ g)
  refine sp_cuts9 hI hr hs hf hn (fun _ _ _ => rfl) (fun N2 n1 n2 n3 n4 => ?_)
  rw [m2, n3]
  have := hn.1
  refine ⟨⟨by omega, by omega⟩, rfl, hK _ _ (fr_ok hI (fun k hk => m1 k (by unfold essC at hk; omega) (by unfold essC at hk; omega) (by unfold essC at hk; omega)) ⟨m4 0 (by omega), by rw [m1 18 (by decide) (by decide) (by decide)]; exact hI.2.2.2.2.2.2.2.2.2⟩ (fun k hk h0 => n1 k h0 (by unfold essM at hk; omega)) (fun i h1 h2 => n2 i h1))⟩
theorem sm_cut {t : Nat} {M N : gMem} {x1 x2 x3 : Int} (hI : Inv t M N) (ht : t ≤ 511) (r1 : rg x1) (r2 : rg x2) (r3 : rg x3) {K : gMem → gMem → Prop} (hK : ∀ M1 N1, Inv (t + 1) M1 N1 → K M1 N1) :
    fX8_cut x1 x2 x3 M (fun r1 M1 => fX9_cut x1 x2 x3 N (fun r2 N1 => rg r1 ∧ r1 = r2 ∧ K M1 N1)) := by
  have rm : rg (-1) := ⟨by decide, by decide⟩
  have e : rg (-1) ∧ (-1 : Int) = -1 ∧ K M N := ⟨rm, rfl, hK _ _ hI.next⟩
  have no : ¬ (((0 ≤ x1 ∧ x1 < 6) ∧ 0 < N 4 x1) ∧ (0 ≤ x2 ∧ x2 < 8)) → fX9_cut x1 x2 x3 N (fun r2 N1 => rg (-1) ∧ (-1 : Int) = r2 ∧ K M N1) := fun h =>
    setM hI r1 (fun a b => fileM r2 (fun c => absurd ⟨⟨a, b⟩, c⟩ h) (fun _ => e)) (fun _ => e)
  refine setC hI r1 (fun hr hs => fileC r2 (fun hf => ⟨hr, ?_⟩) (fun g => no (fun h => g h.2))) (fun g => no (fun h => g h.1))
  obtain ⟨n, hn⟩ := cn_ex hI hr hs hf
  have hn6 := hn.1
  refine sp_divide hI (fun _ _ => rfl) hI.2.2.2.2.2.2.2.2.1 (Or.inl rfl) hr hs hf hn (fun M2 m1 m2 m3 m4 => ?_)
  have fr : ∀ N2 : gMem, (∀ k, k ≠ 0 → k ≠ 10 → N2 k = N k) → (∀ i, i ≠ 10 → N2 0 i = N 0 i) → K M2 N2 := fun N2 n1 n2 => hK _ _ (fr_ok hI (fun k hk => m1 k (by unfold essC at hk; omega) (by unfold essC at hk; omega) (by unfold essC at hk; omega)) ⟨m4 0 (by omega), by rw [m1 18 (by decide) (by decide) (by decide)]; exact hI.2.2.2.2.2.2.2.2.2⟩ (fun k hk h0 => n1 k h0 (by unfold essM at hk; omega)) (fun i h1 h2 => n2 i h1))
  have all : ∀ v, (0 ≤ x3 ∧ x3 ≤ n → v = cp N x1 x2 x3.toNat) → (¬ (0 ≤ x3 ∧ x3 ≤ n) → v = -1) → rg v → fX9_cut x1 x2 x3 N (fun r2 N1 => rg v ∧ v = r2 ∧ K M2 N1) := fun v h1 h2 rv => by
    refine setM hI r1 (fun _ _ => fileM r2 (fun _ => ⟨r3, fun g => ?_, fun g => ?_⟩) (fun g => absurd hf g)) (fun g => absurd ⟨hr, hs⟩ g)
    · exact ⟨rv, h2 (by omega), fr N (fun _ _ _ => rfl) (fun _ _ => rfl)⟩
    · refine sp_cuts9 hI hr hs hf hn (fun _ _ _ => rfl) (fun N2 n1 n2 n3 n4 => ?_)
      rw [n3]
      refine ⟨r3, ⟨by omega, by omega⟩, fun g2 => ⟨rv, h2 (by omega), fr N2 n1 n2⟩, fun g2 => ⟨by omega, rv, ?_, fr N2 n1 n2⟩⟩
      have := n4 x3.toNat (by omega)
      rw [show ((x3.toNat : Nat) : Int) = x3 by omega] at this
      rw [this]
      exact h1 (by omega)
  rw [m2]
  refine sp_isWithin r3 ⟨by decide, by decide⟩ ⟨by omega, by omega⟩ (fun a b => q1 ⟨by omega, ?_⟩) (fun a => q0 ?_)
  · have h4 := m4 x3.toNat (by omega)
    rw [show ((x3.toNat : Nat) : Int) = x3 by omega] at h4
    have hb := CN_le (ru_of hI hr hs) hn x3.toNat (by omega)
    have := (by_of hI hf).1
    refine all _ (fun _ => h4) (fun g => by omega) ?_
    show rg (M2 (13 + 2) x3)
    rw [h4]
    exact ⟨by omega, by omega⟩
  · exact all _ (fun g => by omega) (fun _ => rfl) rm
/-- pieces with the same bytes: by start and length -/
def AL (b : Int → Int) (s l s' l' : Int) : Prop := l = l' ∧ ∀ i, 0 ≤ i → i < l → b (s + i) = b (s' + i)
theorem AL.symm {b : Int → Int} {s l s' l' : Int} (h : AL b s l s' l') : AL b s' l' s l := ⟨h.1.symm, fun i h1 h2 => (h.2 i h1 (by have := h.1; omega)).symm⟩
theorem AL.trans {b : Int → Int} {s l s' l' s2 l2 : Int} (h : AL b s l s' l') (g : AL b s' l' s2 l2) : AL b s l s2 l2 := ⟨h.1.trans g.1, fun i h1 h2 => (h.2 i h1 h2).trans (g.2 i h1 (by have := h.1; omega))⟩
theorem bm_eq {a b : Int} : Int.bmod a 256 = Int.bmod b 256 ↔ a % 256 = b % 256 := by
  constructor
  · intro h
    have := congrArg (· % 256) h
    simp only [bmod_emod] at this
    exact this
  · intro h
    unfold Int.bmod
    rw [show ((256 : Nat) : Int) = 256 from rfl, h]
theorem rg_bm (a : Int) : rg (Int.bmod a 256) := by
  unfold Int.bmod
  show rg (if a % 256 < (256 + 1) / 2 then a % 256 else a % 256 - 256)
  split <;> exact ⟨by omega, by omega⟩
theorem sp_areAlike {k0 n0 k2 n2 : Nat} {s s' l : Int} {M : gMem} {Q : Int → Prop} (hl : 0 ≤ l ∧ l ≤ 600) (h0 : 0 ≤ s ∧ s + l ≤ n0) (h2 : 0 ≤ s' ∧ s' + l ≤ n2) (hY : (∀ i, 0 ≤ i → i < l → M k0 (s + i) % 256 = M k2 (s' + i) % 256) → Q 1) (hN : ¬ (∀ i, 0 ≤ i → i < l → M k0 (s + i) % 256 = M k2 (s' + i) % 256) → Q 0) : fX8_areAlike k0 n0 s k2 n2 s' l M Q := by
  have key : ∀ (n : Nat) (x : Int), 0 ≤ x → x ≤ l → l - x < n → (∀ i, 0 ≤ i → i < x → M k0 (s + i) % 256 = M k2 (s' + i) % 256) → fX8_areAlike_L3 k0 n0 k2 n2 s s' l M n x Q := by
    intro n
    induction n with
    | zero => intro x g1 g2 g3; omega
    | succ n ih =>
      intro x g1 g2 g3 g4
      refine ⟨⟨by omega, by omega⟩, ⟨by omega, by omega⟩, fun h => ⟨⟨by omega, by omega⟩, ⟨by omega, by omega⟩, rg_bm _, rg_bm _, fun e => ih _ (by omega) (by omega) (by omega) (fun i i1 i2 => ?_), fun e => hN (fun g => e (bm_eq.mpr (g x g1 h)))⟩, fun h => hY (fun i i1 i2 => g4 i i1 (by omega))⟩
      by_cases c : i = x
      · rw [c]; exact bm_eq.mp e
      · exact g4 i i1 (by omega)
  exact ⟨l.toNat + 1, key _ 0 (by omega) (by omega) (by omega) (fun i i1 i2 => by omega)⟩
/-- a piece that lies in a FILE -/
def PV (N : gMem) (s l : Int) : Prop := ∃ f, (0 ≤ f ∧ f < 8) ∧ 600 * f ≤ s ∧ 1 ≤ l ∧ l ≤ 200 ∧ s + l ≤ 600 * f + N 1 f
theorem PV_bd {t : Nat} {M N : gMem} (hI : Inv t M N) {s l : Int} (h : PV N s l) : 0 ≤ s ∧ s + l ≤ 4800 ∧ 1 ≤ l ∧ l ≤ 200 ∧ ∀ i, 0 ≤ i → i < l → N 2 (s + i) = M 2 (s + i) % 256 := by
  obtain ⟨f, h1, h2, h3, h4, h5⟩ := h
  obtain ⟨a1, a2, a3, a4⟩ := hI.1 f h1.1 h1.2
  refine ⟨by omega, by omega, h3, h4, fun i i1 i2 => ?_⟩
  have := a4 (s - 600 * f + i) (by omega) (by omega)
  rw [show 600 * f + (s - 600 * f + i) = s + i by omega] at this
  exact this
theorem sp_alikeC {t : Nat} {M N M' : gMem} (hI : Inv t M N) (hM : ∀ k, essC k → M' k = M k) {s s' l : Int} {Q : Int → Prop} (h1 : PV N s l) (h2 : PV N s' l) (hY : AL (N 2) s l s' l → Q 1) (hN : ¬ AL (N 2) s l s' l → Q 0) : fX8_areAlike 2 4800 s 2 4800 s' l M' Q := by
  obtain ⟨a1, a2, a3, a4, a5⟩ := PV_bd hI h1
  obtain ⟨b1, b2, b3, b4, b5⟩ := PV_bd hI h2
  have c2 : M' 2 = M 2 := hM 2 (by simp [essC])
  refine sp_areAlike (by omega) ⟨a1, a2⟩ ⟨b1, b2⟩ (fun h => hY ⟨rfl, fun i i1 i2 => ?_⟩) (fun h => hN (fun g => h (fun i i1 i2 => ?_)))
  · rw [a5 i i1 i2, b5 i i1 i2, ← c2]; exact h i i1 i2
  · rw [c2, ← a5 i i1 i2, ← b5 i i1 i2]; exact g.2 i i1 i2
theorem sp_isAlike {f a e g b z : Int} {N : gMem} {Q : Int → Prop} (hf : 0 ≤ f ∧ f < 8) (hg : 0 ≤ g ∧ g < 8) (ha : 0 ≤ a ∧ a ≤ e ∧ e ≤ 600) (hb : 0 ≤ b ∧ b ≤ z ∧ z ≤ 600) (hv : ∀ i, 0 ≤ i → i < e - a → 0 ≤ N 2 (600 * f + a + i) ∧ N 2 (600 * f + a + i) < 256) (hw : ∀ i, 0 ≤ i → i < z - b → 0 ≤ N 2 (600 * g + b + i) ∧ N 2 (600 * g + b + i) < 256)
    (hY : AL (N 2) (600 * f + a) (e - a) (600 * g + b) (z - b) → Q 1) (hN : ¬ AL (N 2) (600 * f + a) (e - a) (600 * g + b) (z - b) → Q 0) : fX9_isAlike f a e g b z N Q := by
  have key : e - a = z - b → ∀ (n : Nat) (x : Int), 0 ≤ x → x ≤ e - a → e - a - x < n → (∀ i, 0 ≤ i → i < x → N 2 (600 * f + a + i) = N 2 (600 * g + b + i)) → fX9_isAlike_L16 f a e g b N n x Q := by
    intro he n
    induction n with
    | zero => intro x g1 g2 g3; omega
    | succ n ih =>
      intro x g1 g2 g3 g4
      refine ⟨⟨by omega, by omega⟩, ⟨by omega, by omega⟩, fun h => ⟨⟨by omega, by omega⟩, ⟨by omega, by omega⟩, ?_, ?_, fun c => ih _ (by omega) (by omega) (by omega) (fun i i1 i2 => ?_), fun c => hN (fun g => c (g.2 x g1 h))⟩, fun h => hY ⟨he, fun i i1 i2 => g4 i i1 (by omega)⟩⟩
      · have := hv x g1 h; exact ⟨by omega, by omega⟩
      · have := hw x g1 (by omega); exact ⟨by omega, by omega⟩
      · by_cases d : i = x
        · rw [d]; exact c
        · exact g4 i i1 (by omega)
  exact ⟨⟨by omega, by omega⟩, ⟨by omega, by omega⟩, fun he => ⟨(e - a).toNat + 1, key he _ 0 (by omega) (by omega) (by omega) (fun i i1 i2 => by omega)⟩, fun he => hN (fun g => he g.1)⟩
/-- the piece k: its start and its length -/
def pS (N : gMem) (r f : Int) (k : Nat) : Int := 600 * f + cp N r f k
def pL (N : gMem) (r f : Int) (k : Nat) : Int := cp N r f (k + 1) - cp N r f k
theorem pc_ok {t : Nat} {M N : gMem} (hI : Inv t M N) {r f : Int} {n : Nat} (hr : 0 ≤ r ∧ r < 6) (hs : 0 < N 4 r) (hf : 0 ≤ f ∧ f < 8) (hn : CN N r f n) {k : Nat} (hk : k < n) : (0 ≤ cp N r f k ∧ cp N r f k < cp N r f (k + 1) ∧ cp N r f (k + 1) ≤ N 1 f ∧ N 1 f ≤ 600) ∧ PV N (pS N r f k) (pL N r f k) := by
  have h1 := CN_st (ru_of hI hr hs) hn hk
  have h2 := CN_le (ru_of hI hr hs) hn k (by omega)
  have h3 := (by_of hI hf).1
  refine ⟨⟨by omega, h1.1, h1.2.1, h3.2⟩, f, hf, ?_⟩
  unfold pS pL
  omega
theorem sp_alikeM {t : Nat} {M N N' : gMem} (hI : Inv t M N) (hN : ∀ k, essM k → k ≠ 0 → N' k = N k) {r f g : Int} {n m i j : Nat} {Q : Int → Prop} (hr : 0 ≤ r ∧ r < 6) (hs : 0 < N 4 r) (hf : 0 ≤ f ∧ f < 8) (hg : 0 ≤ g ∧ g < 8) (hn : CN N r f n) (hm : CN N r g m) (hi : i < n) (hj : j < m)
    (hY : AL (N 2) (pS N r f i) (pL N r f i) (pS N r g j) (pL N r g j) → Q 1) (hQ : ¬ AL (N 2) (pS N r f i) (pL N r f i) (pS N r g j) (pL N r g j) → Q 0) : fX9_isAlike f (cp N r f i) (cp N r f (i + 1)) g (cp N r g j) (cp N r g (j + 1)) N' Q := by
  obtain ⟨a1, -⟩ := pc_ok hI hr hs hf hn hi
  obtain ⟨b1, -⟩ := pc_ok hI hr hs hg hm hj
  have c2 : N' 2 = N 2 := hN 2 (by simp [essM]) (by decide)
  have hv := (by_of hI hf).2
  have hw := (by_of hI hg).2
  refine sp_isAlike hf hg (by omega) (by omega) (fun x x1 x2 => ?_) (fun x x1 x2 => ?_) (fun h => hY ?_) (fun h => hQ ?_)
  · rw [c2, Int.add_assoc]; exact hv _ (by omega) (by omega)
  · rw [c2, Int.add_assoc]; exact hw _ (by omega) (by omega)
  · rw [c2] at h; exact h
  · rw [c2] at h; exact h
theorem sp_startC {M : gMem} {k : Nat} {f : Int} {j : Int} {Q : Int → Prop} (h4 : M k 4 = f) (hj : 0 ≤ j ∧ j < 601) (hQ : Q (600 * f + M (k + 2) j)) : fX0_startOf k j M Q := by
  show (0 ≤ j ∧ j < 601) ∧ Q (M k 4 * 600 + M (k + 2) j)
  rw [h4, Int.mul_comm f 600]
  exact ⟨hj, hQ⟩
theorem sp_othersOf {t : Nat} {M N N' : gMem} (hI : Inv t M N) {r f : Int} {n : Nat} {Q : gMem → Prop} (hr : 0 ≤ r ∧ r < 6) (hs : 0 < N 4 r) (hf : 0 ≤ f ∧ f < 8) (hn : CN N r f n) (hN : ∀ k, essM k → k ≠ 0 → N' k = N k)
    (hQ : ∀ N2 : gMem, (∀ k, k ≠ 0 → k ≠ 10 → k ≠ 11 → N2 k = N' k) → (∀ i, i ≠ 10 → i ≠ 13 → N2 0 i = N' 0 i) → N2 0 13 = n → (∀ j : Nat, j ≤ n → N2 11 j = cp N r f j) → Q N2) : fX9_othersOf r f N' Q := by
  refine sp_cuts9 hI hr hs hf hn hN (fun N2 n1 n2 n3 n4 => ?_)
  intro N3 e3
  have hn6 := hn.1
  have key : ∀ (m j : Nat) (N4 : gMem), j ≤ n + 1 → n + 1 - j < m → (∀ k, k ≠ 11 → N4 k = N3 k) → (∀ i : Nat, i < j → N4 11 i = cp N r f i) → fX9_othersOf_L16 m j N4 Q := by
    intro m
    induction m with
    | zero => intro j N4 g1 g2; omega
    | succ m ih =>
      intro j N4 g1 g2 g3 g4
      have e0 : N4 0 10 = n := by rw [g3 0 (by decide), e3, gSt_at, if_neg (by decide), n3]
      have e10 : ∀ j : Nat, j ≤ n → N4 10 j = cp N r f j := fun j hj => by rw [g3 10 (by decide), e3, gSt_ne _ _ _ _ _ (by decide), n4 j hj]
      rw [fX9_othersOf_L16, e0]
      refine ⟨⟨by omega, by omega⟩, ⟨by omega, by omega⟩, fun h => hQ N4 (fun k h0 h1 h2 => ?_) (fun i h1 h2 => ?_) ?_ (fun i hi => g4 i (by omega)), fun h => ⟨⟨by omega, by omega⟩, ⟨by omega, by omega⟩, fun M8 e8 => ?_⟩⟩
      · rw [g3 k h2, e3, gSt_ne _ _ _ _ _ h0, n1 k h0 h1]
      · rw [g3 0 (by decide), e3, gSt_at, if_neg h2, n2 i h1]
      · rw [g3 0 (by decide), e3, gSt_eq, n3]
      · subst e8
        refine ih (j + 1) _ (by omega) (by omega) (fun k hk => by rw [gSt_ne _ _ _ _ _ hk, g3 k hk]) (fun i hi => ?_)
        rw [gSt_at]
        by_cases c : i = j
        · subst c; rw [if_pos rfl, e10 i (by omega)]
        · rw [if_neg (by omega), g4 i (by omega)]
  exact ⟨n + 2, key (n + 2) 0 N3 (by omega) (by omega) (fun _ _ => rfl) (fun i hi => by omega)⟩
theorem sm_agree {t : Nat} {M N : gMem} {x1 x2 x3 : Int} (hI : Inv t M N) (ht : t ≤ 511) (r1 : rg x1) (r2 : rg x2) (r3 : rg x3) {K : gMem → gMem → Prop} (hK : ∀ M1 N1, Inv (t + 1) M1 N1 → K M1 N1) :
    fX8_agree x1 x2 x3 M (fun r1 M1 => fX9_agree x1 x2 x3 N (fun r2 N1 => rg r1 ∧ r1 = r2 ∧ K M1 N1)) := by
  have e : rg (-1) ∧ (-1 : Int) = -1 ∧ K M N := ⟨⟨by decide, by decide⟩, rfl, hK _ _ hI.next⟩
  have no : ¬ (((0 ≤ x1 ∧ x1 < 6) ∧ 0 < N 4 x1) ∧ (0 ≤ x2 ∧ x2 < 8) ∧ (0 ≤ x3 ∧ x3 < 8)) → fX9_agree x1 x2 x3 N (fun r2 N1 => rg (-1) ∧ (-1 : Int) = r2 ∧ K M N1) := fun h =>
    setM hI r1 (fun a b => fileM r2 (fun c => fileM r3 (fun d => absurd ⟨⟨a, b⟩, c, d⟩ h) (fun _ => e)) (fun _ => e)) (fun _ => e)
  refine setC hI r1 (fun hr hs => fileC r2 (fun hf => fileC r3 (fun hg => ⟨hr, ?_⟩) (fun g => no (fun h => g h.2.2))) (fun g => no (fun h => g h.2.1))) (fun g => no (fun h => g h.1))
  obtain ⟨n, hn⟩ := cn_ex hI hr hs hf
  obtain ⟨m, hm⟩ := cn_ex hI hr hs hg
  have hn6 := hn.1
  have hm6 := hm.1
  refine sp_divide hI (fun _ _ => rfl) hI.2.2.2.2.2.2.2.2.1 (Or.inl rfl) hr hs hf hn (fun M2 m1 m2 m3 m4 => ⟨hr, ?_⟩)
  have hM2 : ∀ k, essC k → M2 k = M k := fun k hk => m1 k (by unfold essC at hk; omega) (by unfold essC at hk; omega) (by unfold essC at hk; omega)
  refine sp_divide hI hM2 (by rw [m1 18 (by decide) (by decide) (by decide)]; exact hI.2.2.2.2.2.2.2.2.2) (Or.inr rfl) hr hs hg hm (fun M3 p1 p2 p3 p4 => ?_)
  have hM3 : ∀ k, essC k → M3 k = M k := fun k hk => by rw [p1 k (by unfold essC at hk; omega) (by unfold essC at hk; omega) (by unfold essC at hk; omega), hM2 k hk]
  have c13 : M3 13 = M2 13 := p1 13 (by decide) (by decide) (by decide)
  have c15 : M3 15 = M2 15 := p1 15 (by decide) (by decide) (by decide)
  rw [c13, m2, p2]
  refine ⟨⟨by omega, by omega⟩, ⟨by omega, by omega⟩, min n m + 1, ?_⟩
  have hP : ∀ (i : Nat), i < min n m → ∀ Q : Int → Prop, (AL (N 2) (pS N x1 x2 (n - 1 - i)) (pL N x1 x2 (n - 1 - i)) (pS N x1 x3 (m - 1 - i)) (pL N x1 x3 (m - 1 - i)) → Q 1) → (¬ AL (N 2) (pS N x1 x2 (n - 1 - i)) (pL N x1 x2 (n - 1 - i)) (pS N x1 x3 (m - 1 - i)) (pL N x1 x3 (m - 1 - i)) → Q 0) → fX8_agreesFromEnd i M3 Q := by
    intro i hi Q h1 h0
    obtain ⟨u1, u2⟩ := pc_ok hI hr hs hf hn (k := n - 1 - i) (by omega)
    obtain ⟨v1, v2⟩ := pc_ok hI hr hs hg hm (k := m - 1 - i) (by omega)
    unfold fX8_agreesFromEnd
    rw [c13, m2, p2]
    have e1 : (n : Int) - 1 - i = ((n - 1 - i : Nat) : Int) := by omega
    have e2 : (m : Int) - 1 - i = ((m - 1 - i : Nat) : Int) := by omega
    rw [e1, e2]
    have b1 : M3 (13 + 2) ((n - 1 - i : Nat) : Int) = cp N x1 x2 (n - 1 - i) := by rw [show M3 (13 + 2) = M2 (13 + 2) from c15, m4 _ (by omega)]
    have b2 : M3 (13 + 2) (((n - 1 - i : Nat) : Int) + 1) = cp N x1 x2 (n - 1 - i + 1) := by
      rw [show M3 (13 + 2) = M2 (13 + 2) from c15]
      exact m4 (n - 1 - i + 1) (by omega)
    have b3 : M3 (16 + 2) ((m - 1 - i : Nat) : Int) = cp N x1 x3 (m - 1 - i) := p4 _ (by omega)
    have b4 : M3 (16 + 2) (((m - 1 - i : Nat) : Int) + 1) = cp N x1 x3 (m - 1 - i + 1) := p4 (m - 1 - i + 1) (by omega)
    refine ⟨⟨by omega, by omega⟩, ⟨by omega, by omega⟩, ⟨by omega, by omega⟩, ⟨by omega, by omega⟩, ?_⟩
    rw [b1, b2, b3, b4]
    refine ⟨⟨by omega, by omega⟩, ⟨by omega, by omega⟩, fun el => ?_, fun el => h0 (fun g => el g.1)⟩
    refine sp_startC (f := x2) (by rw [c13, m3]) ⟨by omega, by omega⟩ (sp_startC p3 ⟨by omega, by omega⟩ ?_)
    rw [b1, b3]
    have el' : pL N x1 x3 (m - 1 - i) = pL N x1 x2 (n - 1 - i) := el.symm
    rw [el'] at v2
    refine sp_alikeC hI hM3 u2 v2 (fun h => q1 (h1 ?_)) (fun h => q0 (h0 (fun g => h ?_)))
    · rw [el']; exact h
    · rw [el'] at g; exact g
  have ref : ∀ (v : Nat), v ≤ min n m → (∀ i, i < v → AL (N 2) (pS N x1 x2 (n - 1 - i)) (pL N x1 x2 (n - 1 - i)) (pS N x1 x3 (m - 1 - i)) (pL N x1 x3 (m - 1 - i))) → (v = min n m ∨ ¬ AL (N 2) (pS N x1 x2 (n - 1 - v)) (pL N x1 x2 (n - 1 - v)) (pS N x1 x3 (m - 1 - v)) (pL N x1 x3 (m - 1 - v))) → fX9_agree x1 x2 x3 N (fun r2 N1 => rg (v : Int) ∧ (v : Int) = r2 ∧ K M3 N1) := by
    intro v hv h1 h2
    refine setM hI r1 (fun _ _ => fileM r2 (fun _ => fileM r3 (fun _ => ?_) (fun g => absurd hg g)) (fun g => absurd hf g)) (fun g => absurd ⟨hr, hs⟩ g)
    refine sp_othersOf hI hr hs hf hn (fun _ _ _ => rfl) (fun N2 n1 n2 n3 n4 => ?_)
    refine sp_cuts9 hI hr hs hg hm (fun k hk h0 => n1 k h0 (by unfold essM at hk; omega) (by unfold essM at hk; omega)) (fun N3 q1' q2' q3' q4' => ?_)
    have hN3 : ∀ k, essM k → k ≠ 0 → N3 k = N k := fun k hk h0 => by rw [q1' k h0 (by unfold essM at hk; omega), n1 k h0 (by unfold essM at hk; omega) (by unfold essM at hk; omega)]
    have c11 : N3 11 = N2 11 := q1' 11 (by decide) (by decide)
    have c013 : N3 0 13 = n := by rw [q2' 13 (by decide), n3]
    have fin : rg (v : Int) ∧ (v : Int) = v ∧ K M3 N3 := by
      refine ⟨⟨by omega, by omega⟩, rfl, hK _ _ (fr_ok hI hM3 ⟨by rw [c15]; exact m4 0 (by omega), p4 0 (by omega)⟩ hN3 (fun i i1 i2 => by rw [q2' i i1, n2 i i1 i2]))⟩
    have key : ∀ (w i : Nat), i ≤ v → v - i < w → fX9_agree_L39 x2 x3 N3 w i (fun r2 N1 => rg (v : Int) ∧ (v : Int) = r2 ∧ K M3 N1) := by
      intro w
      induction w with
      | zero => intro i g1 g2; omega
      | succ w ih =>
        intro i g1 g2
        rw [fX9_agree_L39, q3', c013]
        refine ⟨⟨by omega, by omega⟩, ⟨by omega, by omega⟩, fun l1 => ⟨⟨by omega, by omega⟩, ⟨by omega, by omega⟩, fun l2 => ⟨⟨by omega, by omega⟩, ⟨by omega, by omega⟩, ⟨by omega, by omega⟩, ⟨by omega, by omega⟩, ?_⟩, fun l2 => ?_⟩, fun l1 => ?_⟩
        · rw [show (n : Int) - 1 - i = ((n - 1 - i : Nat) : Int) by omega, show (n : Int) - i = ((n - 1 - i + 1 : Nat) : Int) by omega, show (m : Int) - 1 - i = ((m - 1 - i : Nat) : Int) by omega, show (m : Int) - i = ((m - 1 - i + 1 : Nat) : Int) by omega, c11, n4 _ (by omega), n4 _ (by omega), q4' _ (by omega), q4' _ (by omega)]
          refine sp_alikeM hI hN3 hr hs hf hg hn hm (by omega) (by omega) (fun h => q1 ?_) (fun h => q0 ?_)
          · have : i < v := by
              rcases Nat.lt_or_ge i v with c | c
              · exact c
              · have : i = v := by omega
                subst this
                rcases h2 with h2 | h2
                · omega
                · exact absurd h h2
            exact ih (i + 1) (by omega) (by omega)
          · have : i = v := by
              rcases Nat.lt_or_ge i v with c | c
              · exact absurd (h1 i c) h
              · omega
            subst this
            exact fin
        · have : i = v := by omega
          subst this
          exact fin
        · have : i = v := by omega
          subst this
          exact fin
    exact ⟨v + 1, key (v + 1) 0 (by omega) (by omega)⟩
  have key : ∀ (w i : Nat), i ≤ min n m → min n m - i < w → (∀ i', i' < i → AL (N 2) (pS N x1 x2 (n - 1 - i')) (pL N x1 x2 (n - 1 - i')) (pS N x1 x3 (m - 1 - i')) (pL N x1 x3 (m - 1 - i'))) → fX8_agree_L74 (min (n : Int) m) M3 w i (fun r1 M1 => fX9_agree x1 x2 x3 N (fun r2 N1 => rg r1 ∧ r1 = r2 ∧ K M1 N1)) := by
    intro w
    induction w with
    | zero => intro i g1 g2; omega
    | succ w ih =>
      intro i g1 g2 g3
      refine ⟨⟨by omega, by omega⟩, ⟨by omega, by omega⟩, fun l1 => ?_, fun l1 => ref i g1 g3 (Or.inl (by omega))⟩
      refine hP i (by omega) _ (fun h => q1 ?_) (fun h => q0 (ref i g1 g3 (Or.inr h)))
      refine ih (i + 1) (by omega) (by omega) (fun i' h' => ?_)
      by_cases c : i' = i
      · subst c; exact h
      · exact g3 i' (by omega)
  exact key (min n m + 1) 0 (by omega) (by omega) (fun i' h' => by omega)
