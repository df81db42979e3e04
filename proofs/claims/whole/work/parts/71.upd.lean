/-! one part of Inv is new -/
theorem gSt_fn (M : gMem) (k : Nat) (i v : Int) (k' : Nat) : gSt M k i v k' = if k' = k then (fun j => if j = i then v else M k j) else M k' := by
  funext j
  by_cases h : k' = k
  · subst h; simp [gSt]
  · simp [gSt, h]
theorem gSt_eq (M : gMem) (k : Nat) (i v : Int) : gSt M k i v k i = v := by simp [gSt]
theorem Inv.upd_tape {t t' : Nat} {M N M1 N1 : gMem} (h : Inv t M N) (ht : t ≤ t') (hM : ∀ k, k ≠ 4 ∧ k ≠ 5 → M1 k = M k) (hN : ∀ k, k ≠ 0 ∧ k ≠ 3 → N1 k = N k) (h0 : ∀ i : Int, i ≠ 10 ∧ i ≠ 13 ∧ i ≠ 3 → N1 0 i = N 0 i) (hnew : IB (M1 4 1) (M1 5) (N1 0 3) (N1 3)) : Inv t' M1 N1 := by
  obtain ⟨a, b, c, d, ⟨s1, s2, s3, s4, s5⟩, g, hh, p, z1, z2⟩ := h
  have hQ : ∀ r : Int, 0 ≤ r → r < 6 → M1 (7 + r.toNat) = M (7 + r.toNat) := fun r h1 h2 => hM _ (by omega)
  have hR : ∀ r : Int, 0 ≤ r → r < 8 → M1 (29 + r.toNat) = M (29 + r.toNat) := fun r h1 h2 => hM _ (by omega)
  refine ⟨?_, ?_, ?_, ?_, ⟨?_, ?_, ?_, ?_, ?_⟩, ?_, ?_, ?_, by rw [hM 15 (by simp)]; exact z1, by rw [hM 18 (by simp)]; exact z2⟩
  · rw [hM 2 (by simp), hM 3 (by simp), hN 1 (by simp), hN 2 (by simp)]; exact a
  · exact hnew
  · rw [hN 4 (by simp), hN 5 (by simp), hN 6 (by simp), hN 7 (by simp), hN 8 (by simp), hN 9 (by simp)]; exact IC_congr hQ c
  · rw [hM 0 (by simp), h0 14 (by simp), h0 15 (by simp)]; exact d
  · rw [hM 24 (by simp), hM 25 (by simp), hM 26 (by simp), hM 27 (by simp), hM 23 (by simp), hM 22 (by simp), hN 16 (by simp), hN 17 (by simp), hN 18 (by simp), hN 19 (by simp)]; exact s1
  · rw [hM 24 (by simp), hN 16 (by simp)]; exact s2
  · rw [hM 22 (by simp), hN 16 (by simp)]; exact s3
  · rw [hM 38 (by simp), hN 20 (by simp), hN 21 (by simp), hN 22 (by simp), hN 16 (by simp)]; exact I4_congr hR s4
  · rw [hM 27 (by simp), hN 20 (by simp), hN 21 (by simp), hN 22 (by simp)]; exact s5
  · rw [hM 22 (by simp), h0 27 (by simp)]; exact ⟨g.1, g.2.1, by have := g.2.2; omega⟩
  · rw [hM 39 (by simp), hM 45 (by simp), hM 46 (by simp), hM 47 (by simp), h0 33 (by simp), hN 28 (by simp), hN 29 (by simp), hN 30 (by simp)]; exact hh
  · rw [hM 41 (by simp), hM 44 (by simp)]; exact ⟨p.1, by have := p.2.1; omega, p.2.2⟩
theorem Inv.upd_files {t t' : Nat} {M N M1 N1 : gMem} (h : Inv t M N) (ht : t ≤ t') (hM : ∀ k, k ≠ 2 ∧ k ≠ 3 → M1 k = M k) (hN : ∀ k, k ≠ 0 ∧ k ≠ 1 ∧ k ≠ 2 → N1 k = N k) (h0 : ∀ i : Int, i ≠ 10 ∧ i ≠ 13 → N1 0 i = N 0 i) (hnew : IA (M1 2) (M1 3) (N1 1) (N1 2)) : Inv t' M1 N1 := by
  obtain ⟨a, b, c, d, ⟨s1, s2, s3, s4, s5⟩, g, hh, p, z1, z2⟩ := h
  have hQ : ∀ r : Int, 0 ≤ r → r < 6 → M1 (7 + r.toNat) = M (7 + r.toNat) := fun r h1 h2 => hM _ (by omega)
  have hR : ∀ r : Int, 0 ≤ r → r < 8 → M1 (29 + r.toNat) = M (29 + r.toNat) := fun r h1 h2 => hM _ (by omega)
  refine ⟨?_, ?_, ?_, ?_, ⟨?_, ?_, ?_, ?_, ?_⟩, ?_, ?_, ?_, by rw [hM 15 (by simp)]; exact z1, by rw [hM 18 (by simp)]; exact z2⟩
  · exact hnew
  · rw [hM 4 (by simp), hM 5 (by simp), h0 3 (by simp), hN 3 (by simp)]; exact b
  · rw [hN 4 (by simp), hN 5 (by simp), hN 6 (by simp), hN 7 (by simp), hN 8 (by simp), hN 9 (by simp)]; exact IC_congr hQ c
  · rw [hM 0 (by simp), h0 14 (by simp), h0 15 (by simp)]; exact d
  · rw [hM 24 (by simp), hM 25 (by simp), hM 26 (by simp), hM 27 (by simp), hM 23 (by simp), hM 22 (by simp), hN 16 (by simp), hN 17 (by simp), hN 18 (by simp), hN 19 (by simp)]; exact s1
  · rw [hM 24 (by simp), hN 16 (by simp)]; exact s2
  · rw [hM 22 (by simp), hN 16 (by simp)]; exact s3
  · rw [hM 38 (by simp), hN 20 (by simp), hN 21 (by simp), hN 22 (by simp), hN 16 (by simp)]; exact I4_congr hR s4
  · rw [hM 27 (by simp), hN 20 (by simp), hN 21 (by simp), hN 22 (by simp)]; exact s5
  · rw [hM 22 (by simp), h0 27 (by simp)]; exact ⟨g.1, g.2.1, by have := g.2.2; omega⟩
  · rw [hM 39 (by simp), hM 45 (by simp), hM 46 (by simp), hM 47 (by simp), h0 33 (by simp), hN 28 (by simp), hN 29 (by simp), hN 30 (by simp)]; exact hh
  · rw [hM 41 (by simp), hM 44 (by simp)]; exact ⟨p.1, by have := p.2.1; omega, p.2.2⟩
theorem Inv.upd_rule {t t' : Nat} {M N M1 N1 : gMem} (h : Inv t M N) (ht : t ≤ t') (hM : ∀ k, k ≠ 7 ∧ k ≠ 8 ∧ k ≠ 9 ∧ k ≠ 10 ∧ k ≠ 11 ∧ k ≠ 12 → M1 k = M k) (hN : ∀ k, k ≠ 0 ∧ k ≠ 4 ∧ k ≠ 5 ∧ k ≠ 6 ∧ k ≠ 7 ∧ k ≠ 8 ∧ k ≠ 9 → N1 k = N k) (h0 : ∀ i : Int, i ≠ 10 ∧ i ≠ 13 → N1 0 i = N 0 i) (hnew : IC (fun r => M1 (7 + r.toNat)) (N1 4) (N1 5) (N1 6) (N1 7) (N1 8) (N1 9)) : Inv t' M1 N1 := by
  obtain ⟨a, b, c, d, ⟨s1, s2, s3, s4, s5⟩, g, hh, p, z1, z2⟩ := h
  have hR : ∀ r : Int, 0 ≤ r → r < 8 → M1 (29 + r.toNat) = M (29 + r.toNat) := fun r h1 h2 => hM _ (by omega)
  refine ⟨?_, ?_, ?_, ?_, ⟨?_, ?_, ?_, ?_, ?_⟩, ?_, ?_, ?_, by rw [hM 15 (by simp)]; exact z1, by rw [hM 18 (by simp)]; exact z2⟩
  · rw [hM 2 (by simp), hM 3 (by simp), hN 1 (by simp), hN 2 (by simp)]; exact a
  · rw [hM 4 (by simp), hM 5 (by simp), h0 3 (by simp), hN 3 (by simp)]; exact b
  · exact hnew
  · rw [hM 0 (by simp), h0 14 (by simp), h0 15 (by simp)]; exact d
  · rw [hM 24 (by simp), hM 25 (by simp), hM 26 (by simp), hM 27 (by simp), hM 23 (by simp), hM 22 (by simp), hN 16 (by simp), hN 17 (by simp), hN 18 (by simp), hN 19 (by simp)]; exact s1
  · rw [hM 24 (by simp), hN 16 (by simp)]; exact s2
  · rw [hM 22 (by simp), hN 16 (by simp)]; exact s3
  · rw [hM 38 (by simp), hN 20 (by simp), hN 21 (by simp), hN 22 (by simp), hN 16 (by simp)]; exact I4_congr hR s4
  · rw [hM 27 (by simp), hN 20 (by simp), hN 21 (by simp), hN 22 (by simp)]; exact s5
  · rw [hM 22 (by simp), h0 27 (by simp)]; exact ⟨g.1, g.2.1, by have := g.2.2; omega⟩
  · rw [hM 39 (by simp), hM 45 (by simp), hM 46 (by simp), hM 47 (by simp), h0 33 (by simp), hN 28 (by simp), hN 29 (by simp), hN 30 (by simp)]; exact hh
  · rw [hM 41 (by simp), hM 44 (by simp)]; exact ⟨p.1, by have := p.2.1; omega, p.2.2⟩
theorem Inv.upd_prices {t t' : Nat} {M N M1 N1 : gMem} (h : Inv t M N) (ht : t ≤ t') (hM : ∀ k, k ≠ 0 → M1 k = M k) (hN : ∀ k, k ≠ 0 → N1 k = N k) (h0 : ∀ i : Int, i ≠ 10 ∧ i ≠ 13 ∧ i ≠ 14 ∧ i ≠ 15 → N1 0 i = N 0 i) (hnew : ID (M1 0 8) (M1 0 9) (N1 0 14) (N1 0 15)) : Inv t' M1 N1 := by
  obtain ⟨a, b, c, d, ⟨s1, s2, s3, s4, s5⟩, g, hh, p, z1, z2⟩ := h
  have hQ : ∀ r : Int, 0 ≤ r → r < 6 → M1 (7 + r.toNat) = M (7 + r.toNat) := fun r h1 h2 => hM _ (by omega)
  have hR : ∀ r : Int, 0 ≤ r → r < 8 → M1 (29 + r.toNat) = M (29 + r.toNat) := fun r h1 h2 => hM _ (by omega)
  refine ⟨?_, ?_, ?_, ?_, ⟨?_, ?_, ?_, ?_, ?_⟩, ?_, ?_, ?_, by rw [hM 15 (by simp)]; exact z1, by rw [hM 18 (by simp)]; exact z2⟩
  · rw [hM 2 (by simp), hM 3 (by simp), hN 1 (by simp), hN 2 (by simp)]; exact a
  · rw [hM 4 (by simp), hM 5 (by simp), h0 3 (by simp), hN 3 (by simp)]; exact b
  · rw [hN 4 (by simp), hN 5 (by simp), hN 6 (by simp), hN 7 (by simp), hN 8 (by simp), hN 9 (by simp)]; exact IC_congr hQ c
  · exact hnew
  · rw [hM 24 (by simp), hM 25 (by simp), hM 26 (by simp), hM 27 (by simp), hM 23 (by simp), hM 22 (by simp), hN 16 (by simp), hN 17 (by simp), hN 18 (by simp), hN 19 (by simp)]; exact s1
  · rw [hM 24 (by simp), hN 16 (by simp)]; exact s2
  · rw [hM 22 (by simp), hN 16 (by simp)]; exact s3
  · rw [hM 38 (by simp), hN 20 (by simp), hN 21 (by simp), hN 22 (by simp), hN 16 (by simp)]; exact I4_congr hR s4
  · rw [hM 27 (by simp), hN 20 (by simp), hN 21 (by simp), hN 22 (by simp)]; exact s5
  · rw [hM 22 (by simp), h0 27 (by simp)]; exact ⟨g.1, g.2.1, by have := g.2.2; omega⟩
  · rw [hM 39 (by simp), hM 45 (by simp), hM 46 (by simp), hM 47 (by simp), h0 33 (by simp), hN 28 (by simp), hN 29 (by simp), hN 30 (by simp)]; exact hh
  · rw [hM 41 (by simp), hM 44 (by simp)]; exact ⟨p.1, by have := p.2.1; omega, p.2.2⟩
