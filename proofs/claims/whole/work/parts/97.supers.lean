/-! supers: both sides -/
theorem Inv.upd_supers {t t' : Nat} {M N M1 N1 : gMem} (h : Inv t M N) (ht : t ≤ t') (hM : ∀ k, k < 39 → M1 k = M k) (hN : ∀ k, k ≠ 0 → k < 24 → N1 k = N k) (h0 : ∀ i : Int, i ≠ 33 → N1 0 i = N 0 i) (hnew : IH (M1 39 7) (M1 45) (M1 46) (M1 47) (N1 0 33) (N1 28) (N1 29) (N1 30)) (hp : IP t' (M1 41 3) (M1 44)) : Inv t' M1 N1 := by
  obtain ⟨a, b, c, d, ⟨s1, s2, s3, s4, s5⟩, g, hh, p, z1, z2⟩ := h
  have hQ : ∀ r : Int, 0 ≤ r → r < 6 → M1 (7 + r.toNat) = M (7 + r.toNat) := fun r h1 h2 => hM _ (by omega)
  have hR : ∀ r : Int, 0 ≤ r → r < 8 → M1 (29 + r.toNat) = M (29 + r.toNat) := fun r h1 h2 => hM _ (by omega)
  refine ⟨?_, ?_, ?_, ?_, ⟨?_, ?_, ?_, ?_, ?_⟩, ?_, hnew, hp, by rw [hM 15 (by decide)]; exact z1, by rw [hM 18 (by decide)]; exact z2⟩
  · rw [hM 2 (by decide), hM 3 (by decide), hN 1 (by decide) (by decide), hN 2 (by decide) (by decide)]; exact a
  · rw [hM 4 (by decide), hM 5 (by decide), h0 3 (by decide), hN 3 (by decide) (by decide)]; exact b
  · rw [hN 4 (by decide) (by decide), hN 5 (by decide) (by decide), hN 6 (by decide) (by decide), hN 7 (by decide) (by decide), hN 8 (by decide) (by decide), hN 9 (by decide) (by decide)]; exact IC_congr hQ c
  · rw [hM 0 (by decide), h0 14 (by decide), h0 15 (by decide)]; exact d
  · rw [hM 24 (by decide), hM 25 (by decide), hM 26 (by decide), hM 27 (by decide), hM 23 (by decide), hM 22 (by decide), hN 16 (by decide) (by decide), hN 17 (by decide) (by decide), hN 18 (by decide) (by decide), hN 19 (by decide) (by decide)]; exact s1
  · rw [hM 24 (by decide), hN 16 (by decide) (by decide)]; exact s2
  · rw [hM 22 (by decide), hN 16 (by decide) (by decide)]; exact s3
  · rw [hM 38 (by decide), hN 20 (by decide) (by decide), hN 21 (by decide) (by decide), hN 22 (by decide) (by decide), hN 16 (by decide) (by decide)]; exact I4_congr hR s4
  · rw [hM 27 (by decide), hN 20 (by decide) (by decide), hN 21 (by decide) (by decide), hN 22 (by decide) (by decide)]; exact s5
  · rw [hM 22 (by decide), h0 27 (by decide)]; exact ⟨g.1, g.2.1, by have := g.2.2; omega⟩
theorem sm_supers {t : Nat} {M N : gMem} (hI : Inv t M N) (ht : t ≤ 511) {K : gMem → gMem → Prop} (hK : ∀ M1 N1, Inv (t + 1) M1 N1 → K M1 N1) :
    fX8_supers  M (fun r1 M1 => fX9_supers  N (fun r2 N1 => rg r1 ∧ r1 = r2 ∧ K M1 N1)) := by
  have h4 := hI.2.2.2.2.1.2.2.2.1
  obtain ⟨hok, htt, hnk⟩ := rws_ok h4 8 (by decide)
  refine sp_supers8 hI ht (fun m M1 a1 a2 a3 a4 a5 => sp_supers9 hI (fun m' N1 b1 b2 b3 b4 b5 b6 => ?_))
  have em := FN_un b1 a1
  subst em
  have hto := RK_tot (rws N 8) m'
  have hm := a1.1
  refine ⟨⟨by omega, by omega⟩, rfl, hK _ _ (hI.upd_supers (Nat.le_succ t) a2 b2 b4 ⟨?_, by omega, by omega, fun k k1 k2 => ?_⟩ a4)⟩
  · rw [a3, b5]
  · obtain ⟨i, rfl⟩ := Int.eq_ofNat_of_zero_le k1
    have hi : i < m' := by omega
    obtain ⟨p1, p2, p3⟩ := a5 i hi
    obtain ⟨q1', q2', q3'⟩ := b6 i hi
    have hti := RK_tot (rws N 8) i
    have htm := tmR_bd (RK (rws N 8) i) (CK (rws N 8) i)
    have hTK : TK (rws N 8) i = tmR (CK (rws N 8) i) (RK (rws N 8) i) := rfl
    have hcdi : cd (CK (rws N 8) i) := a1.2.1 i hi
    unfold cd at hcdi
    have t1 := tld_bd (x := CK (rws N 8) i / 512) (by omega) (by omega)
    have t2 := tld_bd (x := CK (rws N 8) i % 512) (by omega) (by omega)
    rw [p1, p2, p3, q1', q2', q3']
    exact ⟨rfl, rfl, rfl, by omega, by omega, by omega, by omega, by omega, by omega⟩
