/-! SUM and SIGN -/
/-- the latest k bytes up to place i, each and 1, times 31, 31 times 31 .. -/
def TT (b : Int → Int) (i : Int) : Nat → Int
  | 0 => 0
  | k + 1 => TT b i k + (b (i - k) + 1) * 31 ^ k
theorem TT_shift (b : Int → Int) (i : Int) : ∀ k : Nat, TT b i (k + 1) = b i + 1 + 31 * TT b (i - 1) k
  | 0 => by simp [TT]
  | k + 1 => by
    rw [TT, TT_shift b i k, TT, Int.mul_add]
    have e1 : i - ((k + 1 : Nat) : Int) = i - 1 - (k : Int) := by omega
    rw [e1, Int.pow_succ]
    have e2 : (b (i - 1 - (k : Int)) + 1) * (31 ^ k * 31) = 31 * ((b (i - 1 - (k : Int)) + 1) * 31 ^ k) := by
      rw [← Int.mul_assoc, Int.mul_comm _ 31]
    rw [e2]
    omega
theorem TT_congr {b b' : Int → Int} {i : Int} : ∀ {k : Nat}, (∀ j, i - k < j → j ≤ i → b j = b' j) → TT b i k = TT b' i k
  | 0, _ => rfl
  | k + 1, h => by rw [TT, TT, TT_congr (fun j h1 h2 => h j (by omega) h2), h (i - k) (by omega) (by omega)]
/-- SUM at place i by the window w -/
def smE (b : Int → Int) (w i : Int) : Int := TT b i (min w (i + 1)).toNat
def smA (b : Int → Int) (w i : Int) : Int := smE b w i % 65536
theorem smE_low {b : Int → Int} {w i : Int} (h0 : 0 ≤ i) (h : i < w) : smE b w i = (if i = 0 then 0 else smE b w (i - 1)) * 31 + b i + 1 := by
  unfold smE
  have e1 : (min w (i + 1)).toNat = i.toNat + 1 := by omega
  rw [e1, TT_shift]
  by_cases hz : i = 0
  · rw [if_pos hz, hz]
    simp [TT]
  · have e2 : (min w (i - 1 + 1)).toNat = i.toNat := by omega
    rw [if_neg hz, e2]
    omega
theorem smE_high {b : Int → Int} {w i : Int} (hw : 1 ≤ w) (h : w ≤ i) : smE b w i = smE b w (i - 1) * 31 + b i + 1 - 31 ^ w.toNat * (b (i - w) + 1) := by
  unfold smE
  have e1 : (min w (i + 1)).toNat = w.toNat := by omega
  have e2 : (min w (i - 1 + 1)).toNat = w.toNat := by omega
  rw [e1, e2]
  have h1 := TT_shift b i w.toNat
  rw [TT] at h1
  have e3 : i - (w.toNat : Int) = i - w := by omega
  rw [e3, Int.mul_comm (b (i - w) + 1)] at h1
  omega
theorem smE_congr {b b' : Int → Int} {w i : Int} (hw : 1 ≤ w) (h : ∀ j, 0 ≤ j → j ≤ i → b j = b' j) : smE b w i = smE b' w i := TT_congr (fun j h1 h2 => h j (by omega) h2)
theorem pow31 {x : Int} (h : 0 ≤ x) : (31 : Int) ^ (x + 1).toNat = 31 ^ x.toNat * 31 := by
  rw [show (x + 1).toNat = x.toNat + 1 by omega, Int.pow_succ]
theorem sp_addUp {k0 k1 : Nat} {f w : Int} {M : gMem} {Q : gMem → Prop} (hk : k0 = 13 ∨ k0 = 16) (h1 : 7 ≤ k1 ∧ k1 < 13) (hf : 0 ≤ f ∧ f < 8) (hl : 0 ≤ M 3 f ∧ M 3 f ≤ 600) (hw : M k1 3 = w) (hw1 : 1 ≤ w ∧ w ≤ 16)
    (hQ : ∀ M', (∀ k, k ≠ k0 + 1 → M' k = M k) → (∀ j, 0 ≤ j → j < M 3 f → M' (k0 + 1) j = smA (fun i => M 2 (600 * f + i) % 256) w j) → Q M') : fX0_addUp k0 k1 f M Q := by
  have key1 : ∀ (K : Int → Prop), K (31 ^ w.toNat) → ∀ (n : Nat) (x3 x4 : Int), 0 ≤ x4 → x4 ≤ w → w - x4 < n → x3 = 31 ^ x4.toNat → fX0_addUp_L5 k0 k1 M n x3 x4 K Q := by
    intro K hK n
    induction n with
    | zero => intro x3 x4 g1 g2 g3; omega
    | succ n ih =>
      intro x3 x4 g1 g2 g3 g4
      rw [fX0_addUp_L5, hw]
      refine ⟨⟨by omega, by omega⟩, ⟨by omega, by omega⟩, fun hlt => ?_, fun hge => ?_⟩
      · exact ih _ _ (by omega) (by omega) (by omega) (by rw [pow31 g1, g4])
      · have : x4 = w := by omega
        subst this
        rw [g4]
        exact hK
  have key2 : ∀ (n : Nat) (x4 x5 : Int) (M' : gMem), 0 ≤ x5 → x5 ≤ M 3 f → M 3 f - x5 < n → x4 = (if x5 = 0 then 0 else smE (fun i => M 2 (600 * f + i) % 256) w (x5 - 1)) → (∀ k, k ≠ k0 + 1 → M' k = M k) → (∀ j, 0 ≤ j → j < x5 → M' (k0 + 1) j = smA (fun i => M 2 (600 * f + i) % 256) w j) → fX0_addUp_L31 k0 k1 f (31 ^ w.toNat) n x4 x5 M' Q := by
    intro n
    induction n with
    | zero => intro x4 x5 M' g1 g2 g3; omega
    | succ n ih =>
      intro x4 x5 M' g1 g2 g3 g4 g5 g6
      have e3 : M' 3 = M 3 := g5 3 (by omega)
      have e2 : M' 2 = M 2 := g5 2 (by omega)
      have ek : M' k1 = M k1 := g5 k1 (by omega)
      have nx : ∀ (v : Int), v = smE (fun i => M 2 (600 * f + i) % 256) w x5 → ∀ M2, M2 = gSt M' (k0 + 1) x5 (band v 65535) → fX0_addUp_L31 k0 k1 f (31 ^ w.toNat) n v (x5 + 1) M2 Q → True := fun _ _ _ _ _ => trivial
      have go : x5 < M 3 f → ∀ (v : Int), v = smE (fun i => M 2 (600 * f + i) % 256) w x5 → ∀ M2, M2 = gSt M' (k0 + 1) x5 (band v 65535) → fX0_addUp_L31 k0 k1 f (31 ^ w.toNat) n v (x5 + 1) M2 Q := by
        intro hlt v hv M2 hM2
        subst hM2
        refine ih v (x5 + 1) _ (by omega) (by omega) (by omega) (by rw [if_neg (by omega), show x5 + 1 - 1 = x5 by omega, hv]) (fun k hk' => by rw [gSt_ne _ _ _ _ _ hk', g5 k hk']) (fun j j1 j2 => ?_)
        rw [gSt_at]
        by_cases ej : j = x5
        · rw [if_pos ej, band_65535, hv, ej]; rfl
        · rw [if_neg ej, g6 j j1 (by omega)]
      rw [fX0_addUp_L31, e3, ek, hw]
      refine ⟨hf, ⟨by omega, by omega⟩, ⟨by omega, by omega⟩, fun hlt => ?_, fun hge => ?_⟩
      · refine sp_byteAt (by omega) ?_
        rw [e2]
        refine ⟨⟨by omega, by omega⟩, ⟨by omega, by omega⟩, fun hlow => ⟨⟨by omega, by omega⟩, fun M2 hM2 => ?_⟩, fun hhigh => ?_⟩
        · exact go hlt _ (by rw [smE_low g1 hlow, g4]) M2 hM2
        · refine sp_byteAt (by omega) ?_
          rw [e2]
          refine ⟨⟨by omega, by omega⟩, fun M2 hM2 => ?_⟩
          exact go hlt _ (by rw [smE_high hw1.1 (by omega), g4, if_neg (by omega)]) M2 hM2
      · have : x5 = M 3 f := by omega
        subst this
        exact hQ M' g5 g6
  exact ⟨17, key1 _ ⟨601, key2 601 0 0 M (by omega) (by omega) (by omega) (by rw [if_pos rfl]) (fun _ _ => rfl) (fun j h1 h2 => by omega)⟩ 17 1 0 (by omega) (by omega) (by omega) rfl⟩
theorem tm (a : Int) {m : Int} (h : 0 ≤ a) : Int.tmod a m = a % m := Int.tmod_eq_emod_of_nonneg h
theorem sp_sumAt {r f i w : Int} {N : gMem} {Q : Int → Prop} (hr : 0 ≤ r ∧ r < 6) (hf : 0 ≤ f ∧ f < 8) (hi : 0 ≤ i ∧ i < 600) (hw : N 7 r = w) (hw1 : 1 ≤ w ∧ w ≤ 16) (hb : ∀ j, 0 ≤ j → j ≤ i → 0 ≤ N 2 (600 * f + j) ∧ N 2 (600 * f + j) < 256)
    (hQ : Q (smA (fun j => N 2 (600 * f + j)) w i)) : fX9_sumAt r f i N Q := by
  have key : ∀ (n : Nat) (x4 x5 x6 : Int), 0 ≤ x6 → x6 ≤ w → x6 ≤ i + 1 → w - x6 < n → x4 = TT (fun j => N 2 (600 * f + j)) i x6.toNat % 65536 → x5 = 31 ^ x6.toNat % 65536 → fX9_sumAt_L9 r f i N n x4 x5 x6 Q := by
    intro n
    induction n with
    | zero => intro x4 x5 x6 g1 g2 g3 g4; omega
    | succ n ih =>
      intro x4 x5 x6 g1 g2 g3 g4 g5 g6
      have fin : x6 = min w (i + 1) → Q x4 := fun e => by
        rw [g5, e]
        exact hQ
      rw [fX9_sumAt_L9, hw]
      refine ⟨hr, ⟨by omega, by omega⟩, ⟨by omega, by omega⟩, fun hlt => ⟨⟨by omega, by omega⟩, ⟨by omega, by omega⟩, fun hgt => fin (by omega), fun hle => ?_⟩, fun hge => fin (by omega)⟩
      have e : 600 * f + i - x6 = 600 * f + (i - x6) := by omega
      rw [e]
      have hb' := hb (i - x6) (by omega) (by omega)
      have b5 : 0 ≤ x5 ∧ x5 < 65536 := by omega
      have b4 : 0 ≤ x4 ∧ x4 < 65536 := by omega
      have m1 : (N 2 (600 * f + (i - x6)) + 1) * x5 ≤ 256 * 65536 := Int.mul_le_mul (by omega) (by omega) b5.1 (by decide)
      have m0 : 0 ≤ (N 2 (600 * f + (i - x6)) + 1) * x5 := Int.mul_nonneg (by omega) b5.1
      refine ⟨⟨by omega, by omega⟩, ⟨by omega, by omega⟩, ⟨by omega, by omega⟩, ?_⟩
      rw [tm _ (by omega), tm _ (by omega)]
      have e6 : (x6 + 1).toNat = x6.toNat + 1 := by omega
      refine ih _ _ _ (by omega) (by omega) (by omega) (by omega) ?_ ?_
      · rw [e6, TT, g5, g6]
        have e7 : i - (x6.toNat : Int) = i - x6 := by omega
        rw [e7, Int.emod_add_emod, Int.add_emod, Int.mul_emod, Int.emod_emod, ← Int.mul_emod, ← Int.add_emod]
      · rw [pow31 g1, g6, Int.mul_emod, Int.emod_emod, ← Int.mul_emod]
  exact ⟨17, key 17 0 1 0 (by omega) (by omega) (by omega) (by omega) rfl rfl⟩
