/-! SUM of the call, SIGN, and where a piece ends -/
theorem sp_isSetRule {r : Int} {M : gMem} {Q : Int → Prop} (r0 : rg r) (hR : 0 ≤ r → r < 6 → rg (M (7 + r.toNat) 0)) (h1 : 0 ≤ r → r < 6 → M (7 + r.toNat) 0 ≠ -1 → Q 1) (h0 : (0 ≤ r → r < 6 → M (7 + r.toNat) 0 = -1) → Q 0) : fX8_isSetRule r M Q := by
  refine sp_isRule r0 (fun a b => q1 ⟨⟨a, b⟩, hR a b, fun h => h0 (fun _ _ => h), fun h => h1 a b h⟩) (fun a => q0 (h0 (by omega)))
theorem sp_isRule9 {r : Int} {N : gMem} {Q : Int → Prop} (r0 : rg r) (hR : 0 ≤ r → r < 6 → rg (N 4 r)) (h1 : 0 ≤ r → r < 6 → 0 < N 4 r → Q 1) (h0 : (0 ≤ r → r < 6 → ¬ 0 < N 4 r) → Q 0) : fX9_isRule r N Q := by
  refine ⟨r0, fun h => h0 (by omega), fun h => ⟨r0, fun h' => ⟨⟨by omega, h'⟩, hR (by omega) h', fun g => h1 (by omega) h' g, fun g => h0 (fun _ _ => g)⟩, fun h' => h0 (by omega)⟩⟩
theorem sp_hasWindow {k : Nat} {M : gMem} {Q : Int → Prop} (h : rg (M k 0)) (h1 : M k 0 = 1 ∨ M k 0 = 2 → Q 1) (h0 : ¬ (M k 0 = 1 ∨ M k 0 = 2) → Q 0) : fX4_hasWindow k M Q :=
  ⟨h, fun a => h1 (Or.inl a), fun a => ⟨h, fun b => h1 (Or.inr b), fun b => h0 (by omega)⟩⟩
theorem sp_isRolling {r : Int} {N : gMem} {Q : Int → Prop} (hr : 0 ≤ r ∧ r < 6) (h : rg (N 4 r)) (h1 : N 4 r = 2 ∨ N 4 r = 3 → Q 1) (h0 : ¬ (N 4 r = 2 ∨ N 4 r = 3) → Q 0) : fX9_isRolling r N Q :=
  ⟨hr, h, fun a => h1 (Or.inl a), fun a => ⟨hr, h, fun b => h1 (Or.inr b), fun b => h0 (by omega)⟩⟩
theorem fr_ok {t : Nat} {M N M1 N1 : gMem} (hI : Inv t M N) (hM : ∀ k, essC k → M1 k = M k) (hz : M1 15 0 = 0 ∧ M1 18 0 = 0) (hN : ∀ k, essM k → k ≠ 0 → N1 k = N k) (h0 : ∀ i, i ≠ 10 → i ≠ 13 → N1 0 i = N 0 i) : Inv (t + 1) M1 N1 := hI.frame (Nat.le_succ t) hM hN h0 hz
theorem sm_sum {t : Nat} {M N : gMem} {x1 x2 x3 : Int} (hI : Inv t M N) (ht : t ≤ 511) (r1 : rg x1) (r2 : rg x2) (r3 : rg x3) {K : gMem → gMem → Prop} (hK : ∀ M1 N1, Inv (t + 1) M1 N1 → K M1 N1) :
    fX8_sum x1 x2 x3 M (fun r1 M1 => fX9_sum x1 x2 x3 N (fun r2 => rg r1 ∧ r1 = r2 ∧ K M1 N)) := by
  have hA := hI.1
  have hC := hI.2.2.1
  have hm1 : rg (-1) := ⟨by decide, by decide⟩
  have rN : 0 ≤ x1 → x1 < 6 → rg (N 4 x1) := fun a b => by obtain ⟨c, d, e, -⟩ := hC x1 a b; exact ⟨by omega, by omega⟩
  have rM : 0 ≤ x1 → x1 < 6 → rg (M (7 + x1.toNat) 0) := fun a b => by obtain ⟨c, d, e, -⟩ := hC x1 a b; simp only at c; exact ⟨by omega, by omega⟩
  have no : ¬ (0 ≤ x1 ∧ x1 < 6 ∧ (N 4 x1 = 2 ∨ N 4 x1 = 3) ∧ 0 ≤ x2 ∧ x2 < 8 ∧ 0 ≤ x3 ∧ x3 < N 1 x2) → fX9_sum x1 x2 x3 N (fun r2 => rg (-1) ∧ -1 = r2 ∧ K M N) := by
    intro h
    have e : rg (-1) ∧ (-1 : Int) = -1 ∧ K M N := ⟨hm1, rfl, hK _ _ hI.next⟩
    refine sp_isRule9 r1 rN (fun a b c => q1 ?_) (fun _ => q0 e)
    refine sp_isRolling ⟨a, b⟩ (rN a b) (fun d => q1 ?_) (fun _ => q0 e)
    refine sp_isFile9 r2 (fun f g => q1 ?_) (fun _ => q0 e)
    obtain ⟨i1, i2, i3, -⟩ := hA x2 f g
    exact ⟨r3, fun _ => e, fun i => ⟨⟨f, g⟩, r3, ⟨by omega, by omega⟩, fun j => absurd ⟨a, b, d, f, g, by omega, j⟩ h, fun _ => e⟩⟩
  refine sp_isSetRule r1 rM (fun a b c => q1 ⟨⟨a, b⟩, ?_⟩) (fun g => q0 (no (fun h => by have := g h.1 h.2.1; obtain ⟨c, -⟩ := hC x1 h.1 h.2.1; simp only at c; omega)))
  obtain ⟨i1, i2, i3, i4, i5⟩ := hC x1 a b
  simp only at i1
  refine sp_hasWindow (rM a b) (fun d => q1 ?_) (fun d => q0 (no (by omega)))
  have hk : N 4 x1 = 2 ∨ N 4 x1 = 3 := by omega
  refine sp_isPlace r2 r3 (fun f g => by have := hA x2 f g; omega) (fun f g h i => q1 ⟨⟨a, b⟩, ?_⟩) (fun g => q0 (no (fun h => by have := g h.2.2.2.1 h.2.2.2.2.1; have := hA x2 h.2.2.2.1 h.2.2.2.2.1; omega)))
  obtain ⟨j1, j2, j3, j4⟩ := hA x2 f g
  obtain ⟨w1, w2, w3, w4, -⟩ := i5 hk
  refine sp_addUp (Or.inl rfl) (by omega) ⟨f, g⟩ (by omega) w1 ⟨w3, w4⟩ (fun M' e1 e2 => ⟨by omega, ?_⟩)
  rw [e2 x3 h i]
  refine sp_isRule9 r1 rN (fun _ _ _ => q1 ?_) (fun hh => absurd (by omega : 0 < N 4 x1) (hh a b))
  refine sp_isRolling ⟨a, b⟩ (rN a b) (fun _ => q1 ?_) (fun hh => absurd hk hh)
  refine sp_isFile9 r2 (fun _ _ => q1 ?_) (fun hh => by omega)
  refine ⟨r3, fun _ => by omega, fun _ => ⟨⟨f, g⟩, r3, ⟨by omega, by omega⟩, fun _ => ?_, fun hh => by omega⟩⟩
  have ec : smE (fun i => M 2 (600 * x2 + i) % 256) (N 7 x1) x3 = smE (fun i => N 2 (600 * x2 + i)) (N 7 x1) x3 := smE_congr w3 (fun j g1 g2 => (j4 j g1 (by omega)).symm)
  refine sp_sumAt ⟨a, b⟩ ⟨f, g⟩ ⟨by omega, by omega⟩ rfl ⟨w3, w4⟩ (fun j g1 g2 => by rw [j4 j g1 (by omega)]; omega) ⟨?_, ?_, hK _ _ ?_⟩
  · unfold smA; exact ⟨by omega, by omega⟩
  · unfold smA; rw [ec]
  · exact fr_ok hI (fun k hk' => e1 k (by unfold essC at hk'; omega)) (by rw [e1 15 (by decide), e1 18 (by decide)]; exact hI.2.2.2.2.2.2.2.2) (fun _ _ _ => rfl) (fun _ _ _ => rfl)
/-- SIGN of the bits b -/
abbrev sgn (s x b : Int) : Prop := (s / 16) % 2 ^ b.toNat = x % 2 ^ b.toNat
theorem p2b {b : Int} (h : 0 ≤ b ∧ b ≤ 8) : (0 : Int) < 2 ^ b.toNat ∧ (2 : Int) ^ b.toNat ≤ 256 := by
  have h8 : b = 0 ∨ b = 1 ∨ b = 2 ∨ b = 3 ∨ b = 4 ∨ b = 5 ∨ b = 6 ∨ b = 7 ∨ b = 8 := by omega
  rcases h8 with e | e | e | e | e | e | e | e | e <;> subst e <;> decide
theorem sgn_weak {s x b : Int} (h : 0 ≤ b ∧ b ≤ 8) (hs : sgn s x b) : sgn s x (max (b - 1) 0) := by
  have hd : (2 : Int) ^ (max (b - 1) 0).toNat ∣ 2 ^ b.toNat := ⟨2 ^ (b.toNat - (max (b - 1) 0).toNat), by rw [← Int.pow_add, show (max (b - 1) 0).toNat + (b.toNat - (max (b - 1) 0).toNat) = b.toNat by omega]⟩
  have h2 := congrArg (· % (2 : Int) ^ (max (b - 1) 0).toNat) hs
  simp only [Int.emod_emod_of_dvd _ hd] at h2
  exact h2
theorem sp_hasSign {k : Nat} {s b : Int} {M : gMem} {Q : Int → Prop} (hs : 0 ≤ s ∧ s < 65536) (hb : 0 ≤ b ∧ b ≤ 8) (h1 : sgn s (M k 5) b → Q 1) (h0 : ¬ sgn s (M k 5) b → Q 0) : fX4_hasSign k s b M Q := by
  have hp := p2b hb
  have e : shl 1 b - 1 = 2 ^ b.toNat - 1 := by unfold shl; rw [Int.one_mul]
  have e2 : shr s 4 = s / 16 := rfl
  refine ⟨⟨by omega, by omega⟩, ⟨by omega, by omega⟩, ?_⟩
  rw [e, e2, band_mod (by omega), band_mod (by omega)]
  have b1 := Int.emod_nonneg (s / 16) (by omega : (2 : Int) ^ b.toNat ≠ 0)
  have b2 := Int.emod_lt_of_pos (s / 16) hp.1
  have b3 := Int.emod_nonneg (M k 5) (by omega : (2 : Int) ^ b.toNat ≠ 0)
  have b4 := Int.emod_lt_of_pos (M k 5) hp.1
  exact ⟨⟨by omega, by omega⟩, ⟨by omega, by omega⟩, h1, h0⟩
theorem sp_isSign {s x b : Int} {N : gMem} {Q : Int → Prop} (hs : 0 ≤ s ∧ s < 65536) (hx : 0 ≤ x ∧ x ≤ 255) (hb : 0 ≤ b ∧ b ≤ 8) (h1 : sgn s x b → Q 1) (h0 : ¬ sgn s x b → Q 0) : fX9_isSign s x b N Q := by
  have hp := p2b hb
  have e : shl 1 b = 2 ^ b.toNat := by unfold shl; rw [Int.one_mul]
  have e2 : shr s 4 = s / 16 := rfl
  have key : sgn s x b ↔ Int.tmod (s / 16 - x) (2 ^ b.toNat) = 0 := by
    rw [← Int.dvd_iff_tmod_eq_zero]
    unfold sgn
    exact Int.emod_eq_emod_iff_emod_sub_eq_zero.trans Int.dvd_iff_emod_eq_zero.symm
  refine ⟨⟨by omega, by omega⟩, ⟨by omega, by omega⟩, ?_⟩
  rw [e, e2]
  refine ⟨⟨by omega, by omega⟩, ⟨by omega, by omega⟩, by omega, ?_, fun h => h1 (key.mpr h), fun h => h0 (fun g => h (key.mp g))⟩
  have t1 := Int.tmod_lt_of_pos (s / 16 - x) hp.1
  have t2 := Int.lt_tmod_of_pos (s / 16 - x) hp.1
  exact ⟨by omega, by omega⟩
/-- the first end with a strong mark; else what fin makes of the last with a weak one -/
def scn (st wk : Int → Bool) (lim : Int) (fin : Int → Int) : Nat → Int → Int → Int
  | 0, sp, _ => fin sp
  | n + 1, sp, e => if lim < e then fin sp else if st e = true then e else scn st wk lim fin n (if wk e = true then e else sp) (e + 1)
def stB (k w b x : Int) (bf : Int → Int) (e : Int) : Bool := decide (((k = 2 ∨ k = 3) ∧ sgn (smA bf w (e - 1)) x b) ∨ (k = 4 ∧ bf (e - 1) = x))
def wkB (k w b x : Int) (bf : Int → Int) (e : Int) : Bool := decide (k = 3 ∧ sgn (smA bf w (e - 1)) x (max (b - 1) 0))
/-- where the piece from a ends -/
def eoF (k l mo w b x : Int) (bf : Int → Int) (L a : Int) : Int :=
  scn (stB k w b x bf) (wkB k w b x bf) (min (a + mo) L) (fun sp => if min (a + mo) L = a + mo then sp else min (a + mo) L) 700 (min (a + mo) L) (a + l)
theorem scn_bd {st wk : Int → Bool} {lim a : Int} {fin : Int → Int} (hf : ∀ s, a < s → s ≤ lim → a < fin s ∧ fin s ≤ lim) : ∀ (n : Nat) (sp e : Int), a < sp → sp ≤ lim → a < e → a < scn st wk lim fin n sp e ∧ scn st wk lim fin n sp e ≤ lim := by
  intro n
  induction n with
  | zero => intro sp e h1 h2 h3; exact hf sp h1 h2
  | succ n ih =>
    intro sp e h1 h2 h3
    rw [scn]
    by_cases c : lim < e
    · rw [if_pos c]; exact hf sp h1 h2
    · rw [if_neg c]
      by_cases d : st e = true
      · rw [if_pos d]; omega
      · rw [if_neg d]
        by_cases g : wk e = true
        · rw [if_pos g]; exact ih _ _ h3 (by omega) (by omega)
        · rw [if_neg g]; exact ih _ _ h1 h2 (by omega)
theorem eoF_bd {k l mo w b x : Int} {bf : Int → Int} {L a : Int} (hl : 1 ≤ l) (hm : l ≤ mo) (ha : a < L) : a < eoF k l mo w b x bf L a ∧ eoF k l mo w b x bf L a ≤ L ∧ eoF k l mo w b x bf L a ≤ a + mo := by
  have := scn_bd (st := stB k w b x bf) (wk := wkB k w b x bf) (lim := min (a + mo) L) (a := a) (fin := fun sp => if min (a + mo) L = a + mo then sp else min (a + mo) L) (fun s h1 h2 => by split <;> omega) 700 (min (a + mo) L) (a + l) (by omega) (by omega) (by omega)
  unfold eoF
  omega
theorem smA_bd (bf : Int → Int) (w i : Int) : 0 ≤ smA bf w i ∧ smA bf w i < 65536 := by unfold smA; omega
theorem sp_endsBehind {k : Nat} {v s kd l mo w b x e : Int} {bf : Int → Int} {M : gMem} {Q : Int → Prop} (hR : IR (M k) kd l mo w b x) (hs : 0 < kd) (hv : v = bf (e - 1)) (hb : 0 ≤ v ∧ v < 256) (he : kd = 2 ∨ kd = 3 → s = smA bf w (e - 1)) (h1 : stB kd w b x bf e = true → Q 1) (h0 : ¬ stB kd w b x bf e = true → Q 0) : fX4_endsBehind k v s M Q := by
  obtain ⟨i1, i2, i3, i4, i5⟩ := hR
  obtain ⟨-, -, j3, -, -, -, j7, j8⟩ := i4 hs
  have key : kd = 2 ∨ kd = 3 → fX4_hasSign k s (M k 4) M (fun r => (r = 0 ∨ r = 1) ∧ Q r) := fun hk => by
    obtain ⟨w1, w2, w3, w4, w5, w6⟩ := i5 hk
    rw [he hk, w2]
    refine sp_hasSign (smA_bd _ _ _) ⟨w5, w6⟩ (fun h => ⟨Or.inr rfl, h1 ?_⟩) (fun h => ⟨Or.inl rfl, h0 ?_⟩)
    · rw [j3] at h; unfold stB; exact decide_eq_true (Or.inl ⟨hk, h⟩)
    · rw [j3] at h; unfold stB; intro g
      rcases of_decide_eq_true g with g | g
      · exact h g.2
      · omega
  refine ⟨⟨by omega, by omega⟩, fun h => key (by omega), fun h => key (by omega), fun h => ⟨⟨by omega, by omega⟩, ⟨by omega, by omega⟩, fun g => h1 ?_, fun g => h0 ?_⟩, fun h => h0 ?_⟩
  · unfold stB; exact decide_eq_true (Or.inr ⟨by omega, by omega⟩)
  · unfold stB; intro g'
    rcases of_decide_eq_true g' with g' | g'
    · have := g'.1; omega
    · have := g'.2; omega
  · unfold stB; intro g'
    rcases of_decide_eq_true g' with g' | g'
    · have := g'.1; omega
    · have := g'.1; omega
theorem sp_mayEndBehind {k : Nat} {s kd l mo w b x e : Int} {bf : Int → Int} {M : gMem} {Q : Int → Prop} (hR : IR (M k) kd l mo w b x) (hs : 0 < kd) (he : kd = 2 ∨ kd = 3 → s = smA bf w (e - 1)) (h1 : wkB kd w b x bf e = true → Q 1) (h0 : ¬ wkB kd w b x bf e = true → Q 0) : fX4_mayEndBehind k s M Q := by
  obtain ⟨i1, i2, i3, i4, i5⟩ := hR
  obtain ⟨-, -, j3, -, -, -, j7, j8⟩ := i4 hs
  refine ⟨⟨by omega, by omega⟩, fun h => ?_, fun h => h0 ?_⟩
  · have hk : kd = 3 := by omega
    obtain ⟨w1, w2, w3, w4, w5, w6⟩ := i5 (Or.inr hk)
    rw [he (Or.inr hk), w2]
    refine ⟨⟨by omega, by omega⟩, sp_hasSign (smA_bd _ _ _) ⟨by omega, by omega⟩ (fun h => q1 (h1 ?_)) (fun h => q0 (h0 ?_))⟩
    · rw [j3] at h; unfold wkB; exact decide_eq_true ⟨hk, h⟩
    · rw [j3] at h; unfold wkB; intro g; exact h (of_decide_eq_true g).2
  · unfold wkB; intro g; have := (of_decide_eq_true g).1; omega
theorem sp_endOfPiece {k0 k1 : Nat} {f a kd l mo w b x L : Int} {bf : Int → Int} {M : gMem} {Q : Int → Prop} (hR : IR (M k1) kd l mo w b x) (hs : 0 < kd) (hf : 0 ≤ f ∧ f < 8) (h4 : M k0 4 = f) (hL : M 3 f = L) (hLb : L ≤ 600) (ha : 0 ≤ a ∧ a < L) (hb : ∀ i, 0 ≤ i → i < L → M 2 (600 * f + i) % 256 = bf i) (hsm : kd = 2 ∨ kd = 3 → ∀ i, 0 ≤ i → i < L → M (k0 + 1) i = smA bf w i)
    (hQ : Q (eoF kd l mo w b x bf L a)) : fX0_endOfPiece k0 k1 a M Q := by
  obtain ⟨i1, i2, i3, i4, i5⟩ := id hR
  obtain ⟨j1, j2, j3, j4, j5, j6, j7, j8⟩ := i4 hs
  unfold eoF at hQ
  unfold fX0_endOfPiece
  rw [h4, hL, j1, j2]
  refine ⟨hf, ⟨by omega, by omega⟩, ⟨by omega, by omega⟩, 700, ?_⟩
  generalize hlim : min (a + mo) L = lim at *
  have key : ∀ (n : Nat) (x5 x6 : Int), a < x6 → 1 ≤ n → lim + 1 - x6 < n → x6 ≤ a + 500 → a < x5 → x5 ≤ lim → Q (scn (stB kd w b x bf) (wkB kd w b x bf) lim (fun sp => if lim = a + mo then sp else lim) n x5 x6) → fX0_endOfPiece_L37 k0 k1 lim M n x5 x6 (fun x5_19 => rg lim ∧ rg (a + mo) ∧ (lim = a + mo → Q x5_19) ∧ (¬ lim = a + mo → Q lim)) Q := by
    intro n
    induction n with
    | zero => intro x5 x6 g1 g2 g3; omega
    | succ n ih =>
      intro x5 x6 g1 g2 g3 g4 g5 g6 g7
      rw [scn] at g7
      rw [fX0_endOfPiece_L37]
      refine ⟨⟨by omega, by omega⟩, ⟨by omega, by omega⟩, fun h => ?_, fun h => ?_⟩
      · rw [if_pos h] at g7
        exact ⟨⟨by omega, by omega⟩, ⟨by omega, by omega⟩, fun e => by rw [if_pos e] at g7; exact g7, fun e => by rw [if_neg e] at g7; exact g7⟩
      · rw [if_neg h] at g7
        rw [h4]
        refine sp_byteAt (by omega) ?_
        have hv := hb (x6 - 1) (by omega) (by omega)
        have he : kd = 2 ∨ kd = 3 → M (k0 + 1) (x6 - 1) = smA bf w (x6 - 1) := fun e => hsm e _ (by omega) (by omega)
        refine ⟨⟨by omega, by omega⟩, sp_endsBehind (e := x6) hR hs hv (by omega) he (fun c => q1 ?_) (fun c => q0 ⟨⟨by omega, by omega⟩, ?_⟩)⟩
        · rw [if_pos c] at g7; exact g7
        · rw [if_neg c] at g7
          refine sp_mayEndBehind (e := x6) hR hs he (fun d => q1 ?_) (fun d => q0 ?_)
          · rw [if_pos d] at g7
            exact ih _ _ (by omega) (by omega) (by omega) (by omega) g1 (by omega) g7
          · rw [if_neg d] at g7
            exact ih _ _ (by omega) (by omega) (by omega) (by omega) g5 g6 g7
  exact key 700 lim (a + l) (by omega) (by omega) (by omega) (by omega) (by omega) (by omega) hQ
theorem scn_fin {st wk : Int → Bool} {lim L : Int} {fin : Int → Int} (hf : ∀ s, fin s = L) (hl : L = lim) : ∀ (n : Nat) (sp e : Int), lim ≤ e → scn st wk lim fin n sp e = L := by
  intro n
  induction n with
  | zero => intro sp e _; exact hf sp
  | succ n ih =>
    intro sp e h
    rw [scn]
    by_cases c : lim < e
    · rw [if_pos c]; exact hf sp
    · rw [if_neg c]
      by_cases d : st e = true
      · rw [if_pos d]; omega
      · rw [if_neg d]; exact ih _ _ (by omega)
theorem scn_past {st wk : Int → Bool} {lim : Int} {fin : Int → Int} (n : Nat) (sp e : Int) (h : lim < e) : scn st wk lim fin n sp e = fin sp := by
  cases n with
  | zero => rfl
  | succ n => rw [scn, if_pos h]
theorem sp_endOf {r f a : Int} {N : gMem} {Q : Int → Prop} (hr : 0 ≤ r ∧ r < 6) (hk : 0 < N 4 r ∧ N 4 r ≤ 4) (hl : 1 ≤ N 5 r ∧ N 5 r ≤ N 6 r ∧ N 6 r ≤ 200) (hw : N 4 r = 2 ∨ N 4 r = 3 → 1 ≤ N 7 r ∧ N 7 r ≤ 16 ∧ 0 ≤ N 8 r ∧ N 8 r ≤ 8) (hx : 0 ≤ N 9 r ∧ N 9 r ≤ 255) (hf : 0 ≤ f ∧ f < 8) (hLb : N 1 f ≤ 600) (ha : 0 ≤ a ∧ a < N 1 f) (hb : ∀ i, 0 ≤ i → i < N 1 f → 0 ≤ N 2 (600 * f + i) ∧ N 2 (600 * f + i) < 256)
    (hQ : Q (eoF (N 4 r) (N 5 r) (N 6 r) (N 7 r) (N 8 r) (N 9 r) (fun i => N 2 (600 * f + i)) (N 1 f) a)) : fX9_endOf r f a N Q := by
  unfold eoF at hQ
  have rL : rg (N 1 f) := ⟨by omega, by omega⟩
  have rk : rg (N 4 r) := ⟨by omega, by omega⟩
  have rm : rg (N 6 r) := ⟨by omega, by omega⟩
  have rx : rg (N 9 r) := ⟨by omega, by omega⟩
  have rb : N 4 r = 2 ∨ N 4 r = 3 → rg (N 8 r) := fun h => by have := hw h; exact ⟨by omega, by omega⟩
  have key : ∀ (n m : Nat) (x4 x5 : Int), 1 ≤ x5 → x5 ≤ N 6 r → N 6 r - x5 < n → (x5 ≤ N 5 r → x4 = -1) → (x4 = -1 ∨ (a < x4 ∧ x4 < a + N 6 r)) → N 6 r + 1 - max x5 (N 5 r) < m →
      Q (scn (stB (N 4 r) (N 7 r) (N 8 r) (N 9 r) (fun i => N 2 (600 * f + i))) (wkB (N 4 r) (N 7 r) (N 8 r) (N 9 r) (fun i => N 2 (600 * f + i))) (min (a + N 6 r) (N 1 f)) (fun sp => if min (a + N 6 r) (N 1 f) = a + N 6 r then sp else min (a + N 6 r) (N 1 f)) m (if N 4 r = 3 ∧ x4 ≠ -1 then x4 else min (a + N 6 r) (N 1 f)) (a + max x5 (N 5 r))) →
      fX9_endOf_L6 r f a N n x4 x5 (((0 ≤ f ∧ f < 8) ∧ Q (N 1 f))) (fun x6_53 =>
  Q (x6_53 + 1)) (fun x6_54 =>
  Q (x6_54 + 1)) (fun x4_55 =>
  ((0 ≤ r ∧ r < 6) ∧ ((0 ≤ f ∧ f < 8) ∧ (rg (((a + (N 6 r)) - 1) + 1) ∧ rg (N 1 f) ∧ ((N 1 f) < (((a + (N 6 r)) - 1) + 1) →
    ((0 ≤ f ∧ f < 8) ∧ Q (N 1 f))) ∧
    (¬ (N 1 f) < (((a + (N 6 r)) - 1) + 1) →
    ((0 ≤ r ∧ r < 6) ∧ (rg (N 4 r) ∧ ((N 4 r) = 3 →
      (rg x4_55 ∧ (x4_55 = (-1) →
        Q (((a + (N 6 r)) - 1) + 1)) ∧
        (¬ x4_55 = (-1) →
        (fX9_sumAt r f ((a + (N 6 r)) - 1) N (fun r_67 =>
          ((0 ≤ r ∧ r < 6) ∧ ((0 ≤ r ∧ r < 6) ∧ (rg (N 8 r) ∧ (0 < (N 8 r) →
          ((0 ≤ r ∧ r < 6) ∧ (fX9_isSign r_67 (N 9 r) ((N 8 r) - 1) N (fun r_74 =>
            (rg r_74 ∧ (r_74 = 0 →
            Q x4_55) ∧
            (¬ r_74 = 0 →
            Q (((a + (N 6 r)) - 1) + 1))))))) ∧
          (¬ 0 < (N 8 r) →
          (fX9_isSign r_67 (N 9 r) 0 N (fun r_78 =>
            (rg r_78 ∧ (r_78 = 0 →
            Q x4_55) ∧
            (¬ r_78 = 0 →
            Q (((a + (N 6 r)) - 1) + 1)))))))))))))) ∧
      (¬ (N 4 r) = 3 →
      Q (((a + (N 6 r)) - 1) + 1))))))))) Q := by
    intro n
    induction n with
    | zero => intro m x4 x5 g1 g2 g3; omega
    | succ n ih =>
      intro m x4 x5 g1 g2 g3 g4 g5 g6 g7
      rw [fX9_endOf_L6]
      refine ⟨hr, ⟨by omega, by omega⟩, rm, fun hlt => ?_, fun hge => ?_⟩
      · refine ⟨hf, ⟨by omega, by omega⟩, rL, fun hin => ?_, fun hout => ⟨hf, ?_⟩⟩
        · refine ⟨hr, ⟨by omega, by omega⟩, ⟨by omega, by omega⟩, fun hl1 => ?_, fun hl2 => ?_⟩
          · have e1 : x4 = -1 := g4 (by omega)
            subst e1
            refine ih m _ _ (by omega) (by omega) (by omega) (fun _ => rfl) (Or.inl rfl) (by omega) ?_
            rw [show max (x5 + 1) (N 5 r) = max x5 (N 5 r) by omega]
            exact g7
          · have em : max x5 (N 5 r) = x5 := by omega
            rw [em] at g6 g7
            have ei : a + x5 - 1 + 1 = a + x5 := by omega
            obtain ⟨m', em'⟩ : ∃ m', m = m' + 1 := ⟨m - 1, by omega⟩
            subst em'
            rw [scn, if_neg (by omega)] at g7
            have eb : 600 * f + (a + x5 - 1) = 600 * f + (a + x5 - 1) := rfl
            have hv := hb (a + x5 - 1) (by omega) (by omega)
            have hJ : ¬ (N 4 r = 4 ∧ N 2 (600 * f + (a + x5 - 1)) = N 9 r) → fX9_endOf_J96 r f a N x4 x5 (a + x5 - 1) (fun x4_49 x5_50 => fX9_endOf_L6 r f a N n x4_49 x5_50 _ _ _ _ Q) (fun x6_51 => Q (x6_51 + 1)) Q := fun hno => by
              refine sp_isRolling hr rk (fun hro => q1 ?_) (fun hro => q0 ?_)
              · obtain ⟨w1, w2, w3, w4⟩ := hw hro
                refine sp_sumAt hr hf ⟨by omega, by omega⟩ rfl ⟨w1, w2⟩ (fun j j1 j2 => hb j j1 (by omega)) ?_
                refine ⟨hr, hr, sp_isSign (smA_bd _ _ _) hx ⟨w3, w4⟩ (fun hs => q1 ?_) (fun hs => q0 ⟨hr, hr, rb hro, ?_⟩)⟩
                · have est : stB (N 4 r) (N 7 r) (N 8 r) (N 9 r) (fun i => N 2 (600 * f + i)) (a + x5) = true := decide_eq_true (Or.inl ⟨hro, hs⟩)
                  rw [if_pos est] at g7
                  show Q (a + x5 - 1 + 1)
                  rw [ei]; exact g7
                · have est : ¬ stB (N 4 r) (N 7 r) (N 8 r) (N 9 r) (fun i => N 2 (600 * f + i)) (a + x5) = true := fun g => by
                    rcases of_decide_eq_true g with g | g
                    · exact hs g.2
                    · omega
                  rw [if_neg est] at g7
                  have nx : ∀ b', b' = max (N 8 r - 1) 0 → fX9_endOf_J173 r f a N x4 x5 (a + x5 - 1) b' (N 9 r) (smA (fun j => N 2 (600 * f + j)) (N 7 r) (a + x5 - 1)) (fun x4_49 x5_50 => fX9_endOf_L6 r f a N n x4_49 x5_50 _ _ _ _ Q) Q := fun b' hb' => by
                    refine sp_isSign (smA_bd _ _ _) hx ⟨by omega, by omega⟩ (fun hs => q1 ?_) (fun hs => q0 ?_)
                    · rw [ei]
                      refine ih m' _ _ (by omega) (by omega) (by omega) (fun _ => by omega) (Or.inr (by omega)) (by omega) ?_
                      rw [show a + max (x5 + 1) (N 5 r) = a + x5 + 1 by omega]
                      by_cases k3 : N 4 r = 3
                      · have ewk : wkB (N 4 r) (N 7 r) (N 8 r) (N 9 r) (fun i => N 2 (600 * f + i)) (a + x5) = true := decide_eq_true ⟨k3, by rw [← hb']; exact hs⟩
                        rw [if_pos ewk] at g7
                        rw [if_pos ⟨k3, by omega⟩]
                        exact g7
                      · have ewk : ¬ wkB (N 4 r) (N 7 r) (N 8 r) (N 9 r) (fun i => N 2 (600 * f + i)) (a + x5) = true := fun g => k3 (of_decide_eq_true g).1
                        rw [if_neg ewk, if_neg (fun h => k3 h.1)] at g7
                        rw [if_neg (fun h => k3 h.1)]
                        exact g7
                    · refine ih m' _ _ (by omega) (by omega) (by omega) (fun _ => by omega) g5 (by omega) ?_
                      rw [show a + max (x5 + 1) (N 5 r) = a + x5 + 1 by omega]
                      have ewk : ¬ wkB (N 4 r) (N 7 r) (N 8 r) (N 9 r) (fun i => N 2 (600 * f + i)) (a + x5) = true := fun g => hs (by rw [hb']; exact (of_decide_eq_true g).2)
                      rw [if_neg ewk] at g7
                      exact g7
                  exact ⟨fun h => ⟨hr, nx _ (by omega)⟩, fun h => nx _ (by omega)⟩
              · have est : ¬ stB (N 4 r) (N 7 r) (N 8 r) (N 9 r) (fun i => N 2 (600 * f + i)) (a + x5) = true := fun g => by
                  rcases of_decide_eq_true g with g | g
                  · exact hro g.1
                  · exact hno g
                have ewk : ¬ wkB (N 4 r) (N 7 r) (N 8 r) (N 9 r) (fun i => N 2 (600 * f + i)) (a + x5) = true := fun g => hro (Or.inr (of_decide_eq_true g).1)
                rw [if_neg est, if_neg ewk] at g7
                refine ih m' _ _ (by omega) (by omega) (by omega) (fun _ => by omega) g5 (by omega) ?_
                rw [show a + max (x5 + 1) (N 5 r) = a + x5 + 1 by omega]
                exact g7
            refine ⟨hr, rk, fun k4 => ⟨by omega, hr, ⟨by omega, by omega⟩, rx, fun hm => ?_, fun hm => hJ (fun g => hm g.2)⟩, fun k4 => hJ (fun g => k4 g.1)⟩
            have est : stB (N 4 r) (N 7 r) (N 8 r) (N 9 r) (fun i => N 2 (600 * f + i)) (a + x5) = true := decide_eq_true (Or.inr ⟨k4, hm⟩)
            rw [if_pos est] at g7
            rw [ei]; exact g7
        · rw [scn_fin (L := N 1 f) (fun s => by rw [if_neg (by omega)]; omega) (by omega) m _ _ (by omega)] at g7
          exact g7
      · have e5 : x5 = N 6 r := by omega
        subst e5
        rw [show max (N 6 r) (N 5 r) = N 6 r by omega] at g6 g7
        refine ⟨hr, hf, ⟨by omega, by omega⟩, rL, fun h => ⟨hf, ?_⟩, fun h => ⟨hr, rk, fun k3 => ?_, fun k3 => ?_⟩⟩
        · rw [scn_past _ _ _ (by omega), if_neg (by omega), show min (a + N 6 r) (N 1 f) = N 1 f by omega] at g7
          exact g7
        · obtain ⟨m', em'⟩ : ∃ m', m = m' + 1 := ⟨m - 1, by omega⟩
          subst em'
          have el : min (a + N 6 r) (N 1 f) = a + N 6 r := by omega
          rw [el, scn, if_neg (by omega), scn_past _ _ _ (by omega), if_pos rfl] at g7
          have ei : a + N 6 r - 1 + 1 = a + N 6 r := by omega
          rw [ei]
          refine ⟨⟨by omega, by omega⟩, fun h1 => ?_, fun h1 => ?_⟩
          · rw [if_neg (c := N 4 r = 3 ∧ x4 ≠ -1) (fun g => g.2 h1)] at g7
            split at g7
            · exact g7
            · split at g7 <;> exact g7
          · rw [if_pos (c := N 4 r = 3 ∧ x4 ≠ -1) ⟨k3, h1⟩] at g7
            obtain ⟨w1, w2, w3, w4⟩ := hw (Or.inr k3)
            have fin : ∀ b', b' = max (N 8 r - 1) 0 → fX9_isSign (smA (fun j => N 2 (600 * f + j)) (N 7 r) (a + N 6 r - 1)) (N 9 r) b' N (fun r_74 => (rg r_74 ∧ (r_74 = 0 → Q x4) ∧ (¬ r_74 = 0 → Q (a + N 6 r)))) := fun b' hb' => by
              refine sp_isSign (smA_bd _ _ _) hx ⟨by omega, by omega⟩ (fun hs => q1 ?_) (fun hs => q0 ?_)
              · have ewk : wkB (N 4 r) (N 7 r) (N 8 r) (N 9 r) (fun i => N 2 (600 * f + i)) (a + N 6 r) = true := decide_eq_true ⟨k3, by rw [← hb']; exact hs⟩
                rw [if_pos ewk] at g7
                split at g7 <;> exact g7
              · have ewk : ¬ wkB (N 4 r) (N 7 r) (N 8 r) (N 9 r) (fun i => N 2 (600 * f + i)) (a + N 6 r) = true := fun g => hs (by rw [hb']; exact (of_decide_eq_true g).2)
                have est : ¬ stB (N 4 r) (N 7 r) (N 8 r) (N 9 r) (fun i => N 2 (600 * f + i)) (a + N 6 r) = true := fun g => by
                  rcases of_decide_eq_true g with g | g
                  · exact hs (by rw [hb']; exact sgn_weak ⟨w3, w4⟩ g.2)
                  · omega
                rw [if_neg est, if_neg ewk] at g7
                exact g7
            refine sp_sumAt hr hf ⟨by omega, by omega⟩ rfl ⟨w1, w2⟩ (fun j j1 j2 => hb j j1 (by omega)) ?_
            exact ⟨hr, hr, rb (Or.inr k3), fun h => ⟨hr, fin _ (by omega)⟩, fun h => fin _ (by omega)⟩
        · obtain ⟨m', em'⟩ : ∃ m', m = m' + 1 := ⟨m - 1, by omega⟩
          subst em'
          have el : min (a + N 6 r) (N 1 f) = a + N 6 r := by omega
          rw [el, scn, if_neg (by omega), scn_past _ _ _ (by omega), if_pos rfl, if_neg (c := N 4 r = 3 ∧ x4 ≠ -1) (fun g => k3 g.1)] at g7
          have ei : a + N 6 r - 1 + 1 = a + N 6 r := by omega
          rw [ei]
          split at g7
          · exact g7
          · split at g7 <;> exact g7
  refine ⟨201, key 201 700 (-1) 1 (by omega) (by omega) (by omega) (fun _ => rfl) (Or.inl rfl) (by omega) ?_⟩
  rw [if_neg (fun g => g.2 rfl), show max 1 (N 5 r) = N 5 r by omega]
  exact hQ
