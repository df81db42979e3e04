/-! THE MATHEMATICS: what both memories hold -/
/-- the sum of g 0 .. g (n - 1) -/
def sI (g : Int → Int) : Nat → Int
  | 0 => 0
  | n + 1 => sI g n + g n
/-- FILES: bytes and lengths of the class, sizes and bytes of the reference -/
def IA (mb ml nl nb : Int → Int) : Prop := ∀ f : Int, 0 ≤ f → f < 8 → ml f = nl f ∧ 0 ≤ nl f ∧ nl f ≤ 600 ∧ ∀ i, 0 ≤ i → i < nl f → nb (600 * f + i) = mb (600 * f + i) % 256
/-- the tape -/
def IB (mt : Int) (mb : Int → Int) (nt : Int) (nb : Int → Int) : Prop := mt = nt ∧ 0 ≤ nt ∧ nt ≤ 400 ∧ ∀ i, 0 ≤ i → i < nt → nb i = mb i % 256
/-- a RULE -/
def IR (m : Int → Int) (k l mo w b x : Int) : Prop := m 0 = k - 1 ∧ 0 ≤ k ∧ k ≤ 4 ∧ (0 < k → m 1 = l ∧ m 2 = mo ∧ m 5 = x ∧ 1 ≤ l ∧ l ≤ mo ∧ mo ≤ 200 ∧ 0 ≤ x ∧ x ≤ 255) ∧ ((k = 2 ∨ k = 3) → m 3 = w ∧ m 4 = b ∧ 1 ≤ w ∧ w ≤ 16 ∧ 0 ≤ b ∧ b ≤ 8)
def IC (m : Int → Int → Int) (k l mo w b x : Int → Int) : Prop := ∀ r : Int, 0 ≤ r → r < 6 → IR (m r) (k r) (l r) (mo r) (w r) (b r) (x r)
/-- prices -/
def ID (me mp ne np : Int) : Prop := me = ne ∧ mp = np ∧ 0 ≤ ne ∧ ne ≤ 100 ∧ 0 ≤ np ∧ np ≤ 100
/-- PRINT of n bytes -/
def PR (b : Int → Int) (n : Int) : Int := sI (fun i => b i * (i + 1)) n.toNat % 256
/-- how often p stands in what is KEPT -/
def kc (kf km kn : Int → Int) (p : Int) : Int := sI (fun f => if kf f % 2 = 1 then sI (fun k => if kn (600 * f + k) = p then 1 else 0) (km f).toNat else 0) 8
/-- a piece of THE STORE -/
def I1 (mst mln mpr mhd mby : Int → Int) (us : Int) (sz pb pr hd : Int → Int) : Prop := ∀ p : Int, 1 ≤ p → p ≤ 300 → 0 ≤ sz p ∧ sz p ≤ 200 ∧ (sz p = 0 → mhd p = 0) ∧
  (0 < sz p → mln p = sz p ∧ mpr p = pr p ∧ mhd p = hd p ∧ 0 < hd p ∧ pr p = PR (fun i => pb (200 * p + i)) (sz p) ∧ 0 ≤ mst p ∧ mst p + sz p ≤ us ∧ ∀ i, 0 ≤ i → i < sz p → pb (200 * p + i) = mby (mst p + i) % 256)
def I2 (mst sz : Int → Int) : Prop := ∀ p q : Int, 1 ≤ p → p ≤ 300 → 1 ≤ q → q ≤ 300 → 0 < sz p → 0 < sz q → p ≠ q → mst p + sz p ≤ mst q ∨ mst q + sz q ≤ mst p
def I3 (pc us : Int) (sz : Int → Int) : Prop := pc = sI (fun p => if 0 < sz (p + 1) then 1 else 0) 300 ∧ us = sI (fun p => sz (p + 1)) 300
/-- what is KEPT of a FILE -/
def I4 (mkl : Int → Int) (mrow : Int → Int → Int) (kf km kn sz : Int → Int) : Prop := ∀ f : Int, 0 ≤ f → f < 8 → (kf f % 2 = 0 ∧ mkl f = -1) ∨ (kf f % 2 = 1 ∧ mkl f = km f ∧ 0 ≤ km f ∧ km f ≤ 600 ∧ (∀ k, 0 ≤ k → k < km f → mrow f k = kn (600 * f + k) ∧ 1 ≤ kn (600 * f + k) ∧ kn (600 * f + k) ≤ 300 ∧ 0 < sz (kn (600 * f + k))) ∧ sI (fun k => sz (kn (600 * f + k))) (km f).toNat ≤ 600)
def I5 (mhd kf km kn : Int → Int) : Prop := ∀ p : Int, 1 ≤ p → p ≤ 300 → mhd p = kc kf km kn p
def IS (M N : gMem) : Prop := I1 (M 24) (M 25) (M 26) (M 27) (M 23) (M 22 10) (N 16) (N 17) (N 18) (N 19) ∧ I2 (M 24) (N 16) ∧ I3 (M 22 9) (M 22 10) (N 16) ∧ I4 (M 38) (fun f => M (29 + f.toNat)) (N 20) (N 21) (N 22) (N 16) ∧ I5 (M 27) (N 20) (N 21) (N 22)
/-- MEETINGS, after t calls -/
def IG (t : Nat) (m n : Int) : Prop := m = n ∧ 0 ≤ n ∧ n ≤ 180000 * t
/-- the latest SUPERS -/
def IH (mm : Int) (m1 m2 m3 : Int → Int) (nm : Int) (n1 n2 n3 : Int → Int) : Prop := mm = nm ∧ 0 ≤ nm ∧ nm ≤ 200 ∧ ∀ k, 0 ≤ k → k < nm → m1 k = n1 k ∧ m2 k = n2 k ∧ m3 k = n3 k ∧ 0 ≤ n1 k ∧ n1 k ≤ 5000 ∧ 0 ≤ n2 k ∧ n2 k ≤ 5000 ∧ 0 ≤ n3 k ∧ n3 k ≤ 5000
/-- the table's rounds -/
def IP (t : Nat) (ro : Int) (rs : Int → Int) : Prop := 0 ≤ ro ∧ ro ≤ 201 * t ∧ ∀ j, 0 ≤ j → j < 8192 → 0 ≤ rs j ∧ rs j ≤ ro
def Inv (t : Nat) (M N : gMem) : Prop :=
  IA (M 2) (M 3) (N 1) (N 2) ∧ IB (M 4 1) (M 5) (N 0 3) (N 3) ∧ IC (fun r => M (7 + r.toNat)) (N 4) (N 5) (N 6) (N 7) (N 8) (N 9) ∧ ID (M 0 8) (M 0 9) (N 0 14) (N 0 15) ∧ IS M N ∧ IG t (M 22 11) (N 0 27) ∧ IH (M 39 7) (M 45) (M 46) (M 47) (N 0 33) (N 28) (N 29) (N 30) ∧ IP t (M 41 3) (M 44) ∧ M 15 0 = 0 ∧ M 18 0 = 0
/-! small rows -/
theorem q1 {A B : Prop} (h : B) : rg 1 ∧ ((1 : Int) = 0 → A) ∧ (¬ (1 : Int) = 0 → B) := ⟨⟨by decide, by decide⟩, fun e => absurd e (by decide), fun _ => h⟩
theorem q0 {A B : Prop} (h : A) : rg 0 ∧ ((0 : Int) = 0 → A) ∧ (¬ (0 : Int) = 0 → B) := ⟨⟨by decide, by decide⟩, fun _ => h, fun e => absurd rfl e⟩
theorem rg_of {x : Int} (h1 : -2147483648 ≤ x) (h2 : x < 2147483648) : rg x := ⟨h1, h2⟩
theorem sI_congr {g h : Int → Int} : ∀ {n : Nat}, (∀ i : Int, 0 ≤ i → i < n → g i = h i) → sI g n = sI h n
  | 0, _ => rfl
  | n + 1, e => by rw [sI, sI, sI_congr (fun i h1 h2 => e i h1 (by omega)), e n (by omega) (by omega)]
theorem sI_zero {g : Int → Int} {n : Nat} (h : ∀ i : Int, 0 ≤ i → i < n → g i = 0) : sI g n = 0 := by
  rw [sI_congr (h := fun _ => 0) h]
  induction n with
  | zero => rfl
  | succ n ih => rw [sI, ih (fun i h1 h2 => h i h1 (by omega))]; rfl
theorem sI_nonneg {g : Int → Int} : ∀ {n : Nat}, (∀ i : Int, 0 ≤ i → i < n → 0 ≤ g i) → 0 ≤ sI g n
  | 0, _ => Int.le_refl _
  | n + 1, h => by
    have h1 := sI_nonneg (g := g) (n := n) (fun i a b => h i a (by omega))
    have h2 := h n (by omega) (by omega)
    rw [sI]
    omega
theorem sI_le {g h : Int → Int} : ∀ {n : Nat}, (∀ i : Int, 0 ≤ i → i < n → g i ≤ h i) → sI g n ≤ sI h n
  | 0, _ => Int.le_refl _
  | n + 1, e => by
    have h1 := sI_le (n := n) (fun i a b => e i a (by omega))
    have h2 := e n (by omega) (by omega)
    rw [sI, sI]
    omega
theorem sI_const (c : Int) : ∀ n : Nat, sI (fun _ => c) n = c * n
  | 0 => by simp [sI]
  | n + 1 => by rw [sI, sI_const c n]; push_cast; rw [Int.mul_add, Int.mul_one]
/-- the cells that Inv speaks of -/
def essC (k : Nat) : Prop := (k ≤ 12 ∨ 22 ≤ k) ∧ k ≠ 37 ∧ k ≠ 40 ∧ k ≠ 42 ∧ k ≠ 43
def essM (k : Nat) : Prop := k ≠ 10 ∧ k ≠ 11 ∧ k ≠ 12 ∧ k ≠ 13 ∧ k ≠ 14 ∧ k ≠ 15 ∧ k ≠ 23 ∧ k ≠ 24 ∧ k ≠ 25 ∧ k ≠ 26 ∧ k ≠ 27
theorem IC_congr {m m' : Int → Int → Int} {k l mo w b x : Int → Int} (h : ∀ r : Int, 0 ≤ r → r < 6 → m' r = m r) (hI : IC m k l mo w b x) : IC m' k l mo w b x := fun r h1 h2 => by rw [h r h1 h2]; exact hI r h1 h2
theorem I4_congr {mkl : Int → Int} {m m' : Int → Int → Int} {kf km kn sz : Int → Int} (h : ∀ r : Int, 0 ≤ r → r < 8 → m' r = m r) (hI : I4 mkl m kf km kn sz) : I4 mkl m' kf km kn sz := fun r h1 h2 => by rw [h r h1 h2]; exact hI r h1 h2
/-- only cells were written of which Inv says nothing (numbers of the reference's object: 10 and 13) -/
theorem Inv.frame {t t' : Nat} {M N M1 N1 : gMem} (h : Inv t M N) (ht : t ≤ t') (hM : ∀ k, essC k → M1 k = M k) (hN : ∀ k, essM k → k ≠ 0 → N1 k = N k) (h0 : ∀ i, i ≠ 10 → i ≠ 13 → N1 0 i = N 0 i) (hz : M1 15 0 = 0 ∧ M1 18 0 = 0) : Inv t' M1 N1 := by
  have e : ∀ k, essC k → M1 k = M k := hM
  obtain ⟨a, b, c, d, ⟨s1, s2, s3, s4, s5⟩, g, hh, p, -⟩ := h
  refine ⟨?_, ?_, ?_, ?_, ⟨?_, ?_, ?_, ?_, ?_⟩, ?_, ?_, ?_, hz⟩
  · rw [hM 2 (by simp [essC]), hM 3 (by simp [essC]), hN 1 (by simp [essM]) (by decide), hN 2 (by simp [essM]) (by decide)]; exact a
  · rw [hM 4 (by simp [essC]), hM 5 (by simp [essC]), h0 3 (by decide) (by decide), hN 3 (by simp [essM]) (by decide)]; exact b
  · rw [hN 4 (by simp [essM]) (by decide), hN 5 (by simp [essM]) (by decide), hN 6 (by simp [essM]) (by decide), hN 7 (by simp [essM]) (by decide), hN 8 (by simp [essM]) (by decide), hN 9 (by simp [essM]) (by decide)]
    exact IC_congr (fun r h1 h2 => hM _ (by unfold essC; omega)) c
  · rw [hM 0 (by simp [essC]), h0 14 (by decide) (by decide), h0 15 (by decide) (by decide)]; exact d
  · rw [hM 24 (by simp [essC]), hM 25 (by simp [essC]), hM 26 (by simp [essC]), hM 27 (by simp [essC]), hM 23 (by simp [essC]), hM 22 (by simp [essC]), hN 16 (by simp [essM]) (by decide), hN 17 (by simp [essM]) (by decide), hN 18 (by simp [essM]) (by decide), hN 19 (by simp [essM]) (by decide)]; exact s1
  · rw [hM 24 (by simp [essC]), hN 16 (by simp [essM]) (by decide)]; exact s2
  · rw [hM 22 (by simp [essC]), hN 16 (by simp [essM]) (by decide)]; exact s3
  · rw [hM 38 (by simp [essC]), hN 20 (by simp [essM]) (by decide), hN 21 (by simp [essM]) (by decide), hN 22 (by simp [essM]) (by decide), hN 16 (by simp [essM]) (by decide)]
    exact I4_congr (fun r h1 h2 => hM _ (by unfold essC; omega)) s4
  · rw [hM 27 (by simp [essC]), hN 20 (by simp [essM]) (by decide), hN 21 (by simp [essM]) (by decide), hN 22 (by simp [essM]) (by decide)]; exact s5
  · rw [hM 22 (by simp [essC]), h0 27 (by decide) (by decide)]
    obtain ⟨g1, g2, g3⟩ := g
    exact ⟨g1, g2, by omega⟩
  · rw [hM 39 (by simp [essC]), hM 45 (by simp [essC]), hM 46 (by simp [essC]), hM 47 (by simp [essC]), h0 33 (by decide) (by decide), hN 28 (by simp [essM]) (by decide), hN 29 (by simp [essM]) (by decide), hN 30 (by simp [essM]) (by decide)]; exact hh
  · rw [hM 41 (by simp [essC]), hM 44 (by simp [essC])]
    obtain ⟨p1, p2, p3⟩ := p
    exact ⟨p1, by omega, p3⟩
theorem Inv.next {t : Nat} {M N : gMem} (h : Inv t M N) : Inv (t + 1) M N := h.frame (Nat.le_succ t) (fun _ _ => rfl) (fun _ _ _ => rfl) (fun _ _ _ => rfl) h.2.2.2.2.2.2.2.2
/-- at the start -/
theorem Inv_0 : Inv 0 cM0 mM0 := by
  refine ⟨?_, ?_, ?_, ?_, ⟨?_, ?_, ?_, ?_, ?_⟩, ?_, ?_, ?_, by simp [cM0], by simp [cM0]⟩
  · intro f h1 h2
    exact ⟨rfl, by simp [mM0], by simp [mM0], fun i h3 h4 => by simp [mM0] at h4; omega⟩
  · exact ⟨by simp [cM0, mM0], by simp [mM0], by simp [mM0], fun i h3 h4 => by simp [mM0] at h4; omega⟩
  · intro r h1 h2
    refine ⟨?_, by simp [mM0], by simp [mM0], fun h => by simp [mM0] at h, fun h => by simp [mM0] at h⟩
    have h7 : 7 ≤ 7 + r.toNat ∧ 7 + r.toNat < 13 := by omega
    have h8 : ¬ (7 + r.toNat = 0) := by omega
    simp only [cM0]
    rw [if_neg h8, if_pos h7]
    simp [mM0]
  · exact ⟨by simp [cM0, mM0], by simp [cM0, mM0], by simp [mM0], by simp [mM0], by simp [mM0], by simp [mM0]⟩
  · intro p h1 h2
    exact ⟨by simp [mM0], by simp [mM0], fun _ => by simp [cM0], fun h => by simp [mM0] at h⟩
  · intro p q h1 h2 h3 h4 h5
    simp [mM0] at h5
  · constructor
    · rw [sI_zero (fun i _ _ => by simp [mM0])]; simp [cM0]
    · rw [sI_zero (fun i _ _ => by simp [mM0])]; simp [cM0]
  · intro f h1 h2
    refine Or.inl ⟨by simp [mM0], ?_⟩
    simp only [cM0, gFill]
    rw [if_neg (by decide), if_neg (by decide), if_pos (by decide), if_pos ⟨trivial, h1, h2⟩]
  · intro p h1 h2
    unfold kc
    rw [sI_zero (fun i _ _ => by simp [mM0])]
    simp [cM0]
  · exact ⟨by simp [cM0, mM0], by simp [mM0], by simp [mM0]⟩
  · exact ⟨by simp [cM0, mM0], by simp [mM0], by simp [mM0], fun k h1 h2 => by simp [mM0] at h2; omega⟩
  · exact ⟨by simp [cM0], by simp [cM0], fun j h1 h2 => by simp [cM0]⟩
