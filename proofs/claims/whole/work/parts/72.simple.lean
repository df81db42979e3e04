/-! the plain calls: end, prices, at, pair, number -/
theorem sp_isWithin {x0 x1 x2 : Int} {M : gMem} {Q : Int → Prop} (r0 : rg x0) (r1 : rg x1) (r2 : rg x2) (h1 : x1 ≤ x0 → x0 ≤ x2 → Q 1) (h0 : x0 < x1 ∨ x2 < x0 → Q 0) : fX8_isWithin x0 x1 x2 M Q :=
  ⟨r0, r1, fun h => h0 (Or.inl h), fun h => ⟨r0, r2, fun h' => h0 (Or.inr h'), fun h' => h1 (by omega) (by omega)⟩⟩
theorem sp_isIn {x0 x1 x2 : Int} {M : gMem} {Q : Int → Prop} (r0 : rg x0) (r1 : rg x1) (r2 : rg x2) (h1 : x1 ≤ x0 → x0 ≤ x2 → Q 1) (h0 : x0 < x1 ∨ x2 < x0 → Q 0) : fX9_isIn x0 x1 x2 M Q :=
  ⟨r0, r1, fun h => h0 (Or.inl h), fun h => ⟨r0, r2, fun h' => h0 (Or.inr h'), fun h' => h1 (by omega) (by omega)⟩⟩
theorem sp_isFile {x0 : Int} {M : gMem} {Q : Int → Prop} (r0 : rg x0) (h1 : 0 ≤ x0 → x0 < 8 → Q 1) (h0 : x0 < 0 ∨ 8 ≤ x0 → Q 0) : fX8_isFile x0 M Q :=
  sp_isWithin r0 ⟨by decide, by decide⟩ ⟨by decide, by decide⟩ (fun a b => ⟨Or.inr rfl, h1 a (by omega)⟩) (fun a => ⟨Or.inl rfl, h0 (by omega)⟩)
theorem sp_isFile9 {x0 : Int} {M : gMem} {Q : Int → Prop} (r0 : rg x0) (h1 : 0 ≤ x0 → x0 < 8 → Q 1) (h0 : x0 < 0 ∨ 8 ≤ x0 → Q 0) : fX9_isFile x0 M Q :=
  ⟨r0, fun h => h0 (Or.inl h), fun h => ⟨r0, fun h' => h1 (by omega) h', fun h' => h0 (Or.inr (by omega))⟩⟩
theorem sm_end {t : Nat} {M N : gMem} {x1 : Int} (hI : Inv t M N) (ht : t ≤ 511) (r1 : rg x1) {K : gMem → gMem → Prop} (hK : ∀ M1 N1, Inv (t + 1) M1 N1 → K M1 N1) :
    fX8_end x1 M (fun r1 M1 => fX9_end x1 N (fun r2 N1 => rg r1 ∧ r1 = r2 ∧ K M1 N1)) := by
  obtain ⟨b1, b2, b3, b4⟩ := hI.2.1
  have rz : rg (0 : Int) := ⟨by decide, by decide⟩
  have ro : rg (1 : Int) := ⟨by decide, by decide⟩
  have rM : rg (M 4 1) := ⟨by omega, by omega⟩
  have rN : rg (N 0 3) := ⟨by omega, by omega⟩
  refine ⟨r1, fun h => ?_, fun h => ⟨r1, rM, fun h' => ?_, fun h' M1 hM1 => ?_⟩⟩
  · exact ⟨r1, fun _ => ⟨rz, rfl, hK _ _ hI.next⟩, fun g => absurd h g⟩
  · exact ⟨r1, fun g => absurd g h, fun _ => ⟨r1, rN, fun _ => ⟨rz, rfl, hK _ _ hI.next⟩, fun g => absurd (by omega) g⟩⟩
  · refine ⟨r1, fun g => absurd g h, fun _ => ⟨r1, rN, fun g => absurd g (by omega), fun _ N1 hN1 => ⟨ro, rfl, hK _ _ ?_⟩⟩⟩
    subst hM1; subst hN1
    refine hI.upd_tape (Nat.le_succ t) (fun k hk => gSt_ne _ _ _ _ _ (by omega)) (fun k hk => gSt_ne _ _ _ _ _ (by omega)) (fun i hi => by rw [gSt_at, if_neg hi.2.2]) ?_
    rw [gSt_eq, gSt_eq, gSt_ne _ _ _ _ 5 (by decide), gSt_ne _ _ _ _ 3 (by decide)]
    exact ⟨rfl, by omega, by omega, fun i h1 h2 => b4 i h1 (by omega)⟩
theorem sm_prices {t : Nat} {M N : gMem} {x1 x2 : Int} (hI : Inv t M N) (ht : t ≤ 511) (r1 : rg x1) (r2 : rg x2) {K : gMem → gMem → Prop} (hK : ∀ M1 N1, Inv (t + 1) M1 N1 → K M1 N1) :
    fX8_prices x1 x2 M (fun r1 M1 => fX9_prices x1 x2 N (fun r2 N1 => rg r1 ∧ r1 = r2 ∧ K M1 N1)) := by
  have rz : rg (0 : Int) := ⟨by decide, by decide⟩
  have ro : rg (1 : Int) := ⟨by decide, by decide⟩
  have rh : rg (100 : Int) := ⟨by decide, by decide⟩
  refine sp_isWithin r1 rz rh (fun a1 a2 => q1 ?_) (fun a => q0 ?_)
  · refine sp_isWithin r2 rz rh (fun c1 c2 => q1 ?_) (fun c => q0 ?_)
    · intro M1 hM1 M2 hM2
      refine sp_isIn r1 rz rh (fun _ _ => q1 ?_) (fun g => by omega)
      refine sp_isIn r2 rz rh (fun _ _ => q1 ?_) (fun g => by omega)
      intro N1 hN1 N2 hN2
      refine ⟨ro, rfl, hK _ _ ?_⟩
      subst hM1; subst hM2; subst hN1; subst hN2
      refine hI.upd_prices (Nat.le_succ t) (fun k hk => by rw [gSt_ne _ _ _ _ _ hk, gSt_ne _ _ _ _ _ hk]) (fun k hk => by rw [gSt_ne _ _ _ _ _ hk, gSt_ne _ _ _ _ _ hk]) (fun i hi => by rw [gSt_at, if_neg hi.2.2.2, gSt_at, if_neg hi.2.2.1]) ?_
      simp only [gSt_at]
      exact ⟨rfl, rfl, a1, a2, c1, c2⟩
    · refine sp_isIn r1 rz rh (fun _ _ => q1 ?_) (fun g => by omega)
      refine sp_isIn r2 rz rh (fun _ _ => by omega) (fun g => q0 ?_)
      exact ⟨rz, rfl, hK _ _ hI.next⟩
  · refine sp_isIn r1 rz rh (fun _ _ => by omega) (fun g => q0 ?_)
    exact ⟨rz, rfl, hK _ _ hI.next⟩
theorem bmod_emod (x : Int) : x.bmod 256 % 256 = x % 256 := Int.bmod_emod
theorem band_mod {a : Int} {k : Nat} (hk : k ≤ 31) : band a (2 ^ k - 1) = a % 2 ^ k := by
  have h2 : (0 : Int) < 2 ^ k := Int.pow_pos (by decide)
  have hle : (2 : Int) ^ k ≤ 2147483648 := by
    have h9 : (2 : Nat) ^ k ≤ 2 ^ 31 := Nat.pow_le_pow_right (by decide) hk
    have h8 : ((2 ^ k : Nat) : Int) ≤ ((2147483648 : Nat) : Int) := Int.ofNat_le.mpr h9
    rw [Int.natCast_pow] at h8
    exact h8
  have hm : (Int32.ofInt (2 ^ k - 1)).toBitVec.toNat = 2 ^ k - 1 := by
    apply Int.ofNat.inj
    show (((Int32.ofInt (2 ^ k - 1)).toBitVec.toNat : Nat) : Int) = _
    rw [gt_nat, Int.emod_eq_of_lt (by omega) (by omega)]
    have : (1 : Nat) ≤ 2 ^ k := Nat.one_le_two_pow
    show (2 : Int) ^ k - 1 = ((2 ^ k - 1 : Nat) : Int)
    rw [Int.natCast_sub this]
    simp
  unfold band
  rw [pk_and _ k hm, nI]
  have e := gt_nat a
  have h5 : ((Int32.ofInt a).toBitVec.toNat % 2 ^ k : Nat) < 2 ^ 31 := Nat.lt_of_lt_of_le (Nat.mod_lt _ (Nat.pow_pos (by decide))) (Nat.pow_le_pow_right (by decide) hk)
  rw [Int32.toInt_ofNat_of_lt h5, Int.natCast_emod, e]
  have e2 : ((2 ^ k : Nat) : Int) = 2 ^ k := by simp
  rw [e2]
  have hd : (2 : Int) ^ k ∣ 4294967296 := by
    refine ⟨2 ^ (32 - k), ?_⟩
    rw [← Int.pow_add, show k + (32 - k) = 32 by omega]
    rfl
  exact Int.emod_emod_of_dvd a hd
theorem band_255 (a : Int) : band a 255 = a % 256 := band_mod (k := 8) (by decide)
theorem band_65535 (a : Int) : band a 65535 = a % 65536 := band_mod (k := 16) (by decide)
theorem band_31 (a : Int) : band a 31 = a % 32 := band_mod (k := 5) (by decide)
theorem band_1 (a : Int) : band a 1 = a % 2 := band_mod (k := 1) (by decide)
theorem band_8191 (a : Int) : band a 8191 = a % 8192 := band_mod (k := 13) (by decide)
theorem sp_byteAt {x1 x2 : Int} {M : gMem} {Q : Int → Prop} (h : 0 ≤ 600 * x1 + x2 ∧ 600 * x1 + x2 < 4800) (hQ : Q (M 2 (600 * x1 + x2) % 256)) : fX2_byteAt x1 x2 M Q := by
  have e : x1 * 600 + x2 = 600 * x1 + x2 := by omega
  show (0 ≤ x1 * 600 + x2 ∧ x1 * 600 + x2 < 4800) ∧ Q (band (Int.bmod (M 2 (x1 * 600 + x2)) 256) 255)
  rw [e, band_255, bmod_emod]
  exact ⟨h, hQ⟩
theorem sp_isPlace {x1 x2 : Int} {M : gMem} {Q : Int → Prop} (r1 : rg x1) (r2 : rg x2) (hl : 0 ≤ x1 → x1 < 8 → 0 ≤ M 3 x1 ∧ M 3 x1 ≤ 600) (h1 : 0 ≤ x1 → x1 < 8 → 0 ≤ x2 → x2 < M 3 x1 → Q 1) (h0 : (0 ≤ x1 → x1 < 8 → x2 < 0 ∨ M 3 x1 ≤ x2) → Q 0) : fX8_isPlace x1 x2 M Q := by
  refine sp_isFile r1 (fun a b => q1 ?_) (fun a => q0 (h0 (fun c d => by omega)))
  have := hl a b
  refine ⟨⟨a, b⟩, sp_isWithin r2 ⟨by decide, by decide⟩ ⟨by omega, by omega⟩ (fun c d => q1 (h1 a b c (by omega))) (fun c => q0 (h0 (fun _ _ => by omega)))⟩
theorem sm_at {t : Nat} {M N : gMem} {x1 x2 : Int} (hI : Inv t M N) (ht : t ≤ 511) (r1 : rg x1) (r2 : rg x2) {K : gMem → gMem → Prop} (hK : ∀ M1 N1, Inv (t + 1) M1 N1 → K M1 N1) :
    fX8_at x1 x2 M (fun r1 => fX9_at x1 x2 N (fun r2 => rg r1 ∧ r1 = r2 ∧ K M N)) := by
  have hA := hI.1
  refine sp_isPlace r1 r2 (fun a b => by have := hA x1 a b; omega) (fun a b c d => q1 ?_) (fun g => q0 ?_)
  · obtain ⟨e1, e2, e3, e4⟩ := hA x1 a b
    refine sp_byteAt (by omega) ?_
    refine sp_isFile9 r1 (fun _ _ => q1 ?_) (fun _ => by omega)
    refine ⟨r2, fun _ => by omega, fun _ => ⟨⟨a, b⟩, r2, ⟨by omega, by omega⟩, fun _ => ⟨by omega, ?_⟩, fun _ => by omega⟩⟩
    have := e4 x2 c (by omega)
    exact ⟨⟨by omega, by omega⟩, this.symm, hK _ _ hI.next⟩
  · refine sp_isFile9 r1 (fun a b => q1 ?_) (fun _ => q0 ?_)
    · obtain ⟨e1, e2, e3, e4⟩ := hA x1 a b
      have := g a b
      refine ⟨r2, fun _ => ?_, fun _ => ⟨⟨a, b⟩, r2, ⟨by omega, by omega⟩, fun _ => by omega, fun _ => ?_⟩⟩
      · exact ⟨⟨by decide, by decide⟩, rfl, hK _ _ hI.next⟩
      · exact ⟨⟨by decide, by decide⟩, rfl, hK _ _ hI.next⟩
    · exact ⟨⟨by decide, by decide⟩, rfl, hK _ _ hI.next⟩
