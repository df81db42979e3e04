/-! bring, edit -/
/-- where piece k of a row begins, and what bytes the first k pieces have -/
def offs (sz : Int → Int) (kn : Int → Int) (k : Nat) : Int := sI (fun i => sz (kn i)) k
def catb (sz : Int → Int) (pb : Int → Int → Int) (kn : Int → Int) : Nat → Int → Int
  | 0, _ => 0
  | k + 1, j => if j < offs sz kn k then catb sz pb kn k j else pb (kn k) (j - offs sz kn k)
theorem catb_low (sz : Int → Int) (pb : Int → Int → Int) (kn : Int → Int) {k : Nat} {j : Int} (h : j < offs sz kn k) : catb sz pb kn (k + 1) j = catb sz pb kn k j := by rw [catb, if_pos h]
theorem sI_mono {g : Int → Int} {m n : Nat} (h : ∀ i : Int, 0 ≤ i → i < n → 0 ≤ g i) (hm : m ≤ n) : sI g m ≤ sI g n := by
  induction n with
  | zero => rw [show m = 0 by omega]; exact Int.le_refl _
  | succ n ih =>
    rcases Nat.lt_or_ge m (n + 1) with q | q
    · have h1 := ih (fun i a b => h i a (by omega)) (by omega)
      have h2 := h n (by omega) (by omega)
      rw [sI]
      omega
    · rw [show m = n + 1 by omega]; exact Int.le_refl _
theorem sp_addBytes {f : Int} {k2 n2 : Nat} {x3 x4 : Int} {M : gMem} {Q : gMem → Prop} (hf : 0 ≤ f ∧ f < 8) (h1 : 0 ≤ x3) (h2 : 0 ≤ M 3 f) (h3 : 0 ≤ x4) (h4 : x3 + x4 ≤ n2) (h5 : M 3 f + x4 ≤ 600) (hQ : Q (gSt (gCp M k2 2 x3 (600 * f + M 3 f) x4) 3 f (M 3 f + x4))) : fX2_addBytes f k2 n2 x3 x4 M Q := by
  have e : f * 600 + M 3 f = 600 * f + M 3 f := by omega
  show (0 ≤ f ∧ f < 8) ∧ (0 ≤ x3 ∧ 0 ≤ f * 600 + M 3 f ∧ 0 ≤ x4 ∧ x3 + x4 ≤ n2 ∧ f * 600 + M 3 f + x4 ≤ 4800 ∧ _)
  rw [e]
  refine ⟨hf, h1, by omega, h3, h4, by omega, fun M1 e1 => ⟨hf, hf, fun M2 e2 => ?_⟩⟩
  subst e1
  rw [gCp_ne _ _ _ _ _ _ 3 (by decide)] at e2
  subst e2
  exact hQ
theorem sm_bring {t : Nat} {M N : gMem} {x1 : Int} (hI : Inv t M N) (ht : t ≤ 511) (r1 : rg x1) {K : gMem → gMem → Prop} (hK : ∀ M1 N1, Inv (t + 1) M1 N1 → K M1 N1) :
    fX8_bring x1 M (fun r1 M1 => fX9_bring x1 N (fun r2 N1 => rg r1 ∧ r1 = r2 ∧ K M1 N1)) := by
  have hKn := hK _ _ hI.next
  have hus := used_le hI.2.2.2.2.1
  obtain ⟨s1, s2, ⟨s3, s3'⟩, h4, s5⟩ := hI.2.2.2.2.1
  refine sp_isKept r1 h4 (fun a b k => q1 ?_) (fun g => q0 ?_)
  · obtain ⟨e1, e2, e3, e4, e5⟩ := kept_of h4 a b k
    generalize hkm : N 21 x1 = km at *
    generalize hkn : (fun k => N 22 (600 * x1 + k)) = kn
    generalize hsz : N 16 = sz at *
    generalize hpb : (fun p i => N 17 (200 * p + i)) = pb
    have kn_at : ∀ k, kn k = N 22 (600 * x1 + k) := fun k => by rw [← hkn]
    have pb_at : ∀ p i, pb p i = N 17 (200 * p + i) := fun p i => by rw [← hpb]
    have kb : ∀ k, 0 ≤ k → k < km → 1 ≤ kn k ∧ kn k ≤ 300 ∧ 0 < sz (kn k) ∧ M (29 + x1.toNat) k = kn k := fun k h1 h2 => by
      have := e4 k h1 h2
      rw [kn_at]
      exact ⟨this.2.1, this.2.2.1, this.2.2.2, this.1⟩
    have ho : ∀ m : Nat, (m : Int) ≤ km → 0 ≤ offs sz kn m ∧ offs sz kn m ≤ 600 := fun m hm => by
      refine ⟨sI_nonneg (fun i h1 h2 => by have := kb i h1 (by omega); omega), ?_⟩
      have h1 := sI_mono (g := fun i => sz (kn i)) (m := m) (n := km.toNat) (fun i h1 h2 => by have := kb i h1 (by omega); omega) (by omega)
      have h2 : sI (fun i => sz (kn i)) km.toNat ≤ 600 := by rw [← hkn]; exact e5
      exact Int.le_trans h1 h2
    have os : ∀ m : Nat, offs sz kn (m + 1) = offs sz kn m + sz (kn m) := fun m => rfl
    -- the class
    have key8 : ∀ (Q : gMem → Prop), (∀ M', SetC M M' x1 (offs sz kn km.toNat) (catb sz pb kn km.toNat) → Q M') → ∀ (n : Nat) (x2 : Int) (M' : gMem), 0 ≤ x2 → x2 ≤ km → km - x2 < n → SetC M M' x1 (offs sz kn x2.toNat) (catb sz pb kn x2.toNat) → fX5_restore_L12 x1 n x2 M' Q := by
      intro Q hQ n
      induction n with
      | zero => intro x2 M' h1 h2 h3; omega
      | succ n ih =>
        intro x2 M' h1 h2 h3 hS
        have c1 := hS.1
        have f38 : M' 38 = M 38 := c1 38 (by decide) (by decide)
        have f24 : M' 24 = M 24 := c1 24 (by decide) (by decide)
        have f25 : M' 25 = M 25 := c1 25 (by decide) (by decide)
        have f23 : M' 23 = M 23 := c1 23 (by decide) (by decide)
        have f29 : M' (29 + x1.toNat) = M (29 + x1.toNat) := c1 _ (by omega) (by omega)
        rw [fX5_restore_L12, f38, f24, f25, f29, e1]
        refine ⟨⟨a, b⟩, ⟨by omega, by omega⟩, ⟨by omega, by omega⟩, fun hlt => ?_, fun hge => ?_⟩
        · obtain ⟨k1, k2, k3, k4⟩ := kb x2 h1 hlt
          rw [k4]
          refine ⟨⟨a, b⟩, ⟨by omega, by omega⟩, ⟨by omega, by omega⟩, ⟨by omega, by omega⟩, ?_⟩
          obtain ⟨p1, p2, -, p4⟩ := s1 (kn x2) k1 k2
          obtain ⟨g1, g2, g3, g4', g5, g6, g7, g8⟩ := p4 k3
          have h3' : M' 3 x1 = offs sz kn x2.toNat := hS.2.2.1
          have ox := ho x2.toNat (by omega)
          have ox1 := ho (x2.toNat + 1) (by omega)
          have exk : ((x2.toNat : Nat) : Int) = x2 := by omega
          have osx := os x2.toNat
          rw [exk] at osx
          have hin : M 24 (kn x2) + M 25 (kn x2) ≤ ((5400 : Nat) : Int) := by
            rw [g1]
            have := hus.2
            omega
          refine sp_addBytes ⟨a, b⟩ g6 (by rw [h3']; exact ox.1) (by omega) hin (by rw [h3', g1]; omega) ?_
          rw [h3', g1]
          refine ih _ _ (by omega) (by omega) (by omega) ?_
          rw [show (x2 + 1).toNat = x2.toNat + 1 by omega]
          obtain ⟨c1', c2, c3, c4, c5⟩ := hS
          refine ⟨fun k k2 k3 => by rw [gSt_ne _ _ _ _ _ k3, gCp_ne _ _ _ _ _ _ _ k2, c1 k k2 k3], fun j hj => by rw [gSt_at, if_neg hj, gCp_ne _ _ _ _ _ _ 3 (by decide), c2 j hj], by rw [gSt_eq, osx], fun j hj => ?_, fun j h5 h6 => ?_⟩
          · rw [gSt_ne _ _ _ _ 2 (by decide), gCp_at, if_neg (by omega), c4 j hj]
          · rw [gSt_ne _ _ _ _ 2 (by decide), gCp_at]
            by_cases hj : j < offs sz kn x2.toNat
            · rw [if_neg (by omega), catb_low _ _ _ hj, c5 j h5 hj]
            · rw [if_pos (by omega), catb, if_neg hj, exk, f23, pb_at, show M 24 (kn x2) + (600 * x1 + j - (600 * x1 + offs sz kn x2.toNat)) = M 24 (kn x2) + (j - offs sz kn x2.toNat) by omega, g8 (j - offs sz kn x2.toNat) (by omega) (by omega)]
        · have : x2 = km := by omega
          subst this
          exact hQ M' hS
    have key9b : ∀ (Q : Int → gMem → Prop) (x2 : Int) (K9 : gMem → Prop), 0 ≤ x2 → x2 < km → (∀ N', SetM N N' x1 (offs sz kn (x2.toNat + 1)) (catb sz pb kn (x2.toNat + 1)) → K9 N') → ∀ (n : Nat) (x4 : Int) (N' : gMem), 0 ≤ x4 → x4 ≤ sz (kn x2) → sz (kn x2) - x4 < n → SetM N N' x1 (offs sz kn x2.toNat + x4) (catb sz pb kn (x2.toNat + 1)) → fX9_bring_L53 x1 (kn x2) n x4 N' K9 Q := by
      intro Q x2 K9 g1 g2 hK9 n
      have exk : ((x2.toNat : Nat) : Int) = x2 := by omega
      have osx := os x2.toNat
      rw [exk] at osx
      have ox := ho x2.toNat (by omega)
      have ox1 := ho (x2.toNat + 1) (by omega)
      obtain ⟨k1, k2, k3, k4⟩ := kb x2 g1 g2
      obtain ⟨p1, p2, -⟩ := s1 (kn x2) k1 k2
      induction n with
      | zero => intro x4 N' h1 h2 h3; omega
      | succ n ih =>
        intro x4 N' h1 h2 h3 hS
        have f16 : N' 16 = sz := by rw [hS.1 16 (by decide) (by decide), hsz]
        have f17 : N' 17 = N 17 := hS.1 17 (by decide) (by decide)
        have f1 : N' 1 x1 = offs sz kn x2.toNat + x4 := hS.2.2.1
        rw [fX9_bring_L53, f16, f17, f1]
        refine ⟨⟨by omega, by omega⟩, ⟨by omega, by omega⟩, ⟨by omega, by omega⟩, fun hlt => ?_, fun hge => ?_⟩
        · refine ⟨⟨a, b⟩, ⟨by omega, by omega⟩, ⟨by omega, by omega⟩, fun N1 e6 => ⟨⟨a, b⟩, ⟨a, b⟩, fun N2 e7 => ?_⟩⟩
          subst e6
          rw [gSt_ne _ _ _ _ 1 (by decide), f1] at e7
          subst e7
          refine ih _ _ (by omega) (by omega) (by omega) ?_
          rw [show offs sz kn x2.toNat + (x4 + 1) = offs sz kn x2.toNat + x4 + 1 by omega]
          refine SetM_push ⟨a, b⟩ (by omega) hS (fun _ _ _ => rfl) ?_
          rw [catb, if_neg (by omega), exk, pb_at, show offs sz kn x2.toNat + x4 - offs sz kn x2.toNat = x4 by omega]
        · have : x4 = sz (kn x2) := by omega
          subst this
          exact hK9 N' (by rw [osx]; exact hS)
    have key9 : ∀ (Q : Int → gMem → Prop) (K9 : gMem → Prop), (∀ N', SetM N N' x1 (offs sz kn km.toNat) (catb sz pb kn km.toNat) → K9 N') → ∀ (n : Nat) (x2 : Int) (N' : gMem), 0 ≤ x2 → x2 ≤ km → km - x2 < n → SetM N N' x1 (offs sz kn x2.toNat) (catb sz pb kn x2.toNat) → fX9_bring_L27 x1 n x2 N' K9 Q := by
      intro Q K9 hK9 n
      induction n with
      | zero => intro x2 N' h1 h2 h3; omega
      | succ n ih =>
        intro x2 N' h1 h2 h3 hS
        have f21 : N' 21 x1 = km := by rw [hS.1 21 (by decide) (by decide), hkm]
        have f22 : N' 22 = N 22 := hS.1 22 (by decide) (by decide)
        rw [fX9_bring_L27, f21, f22, ← kn_at]
        refine ⟨⟨a, b⟩, ⟨by omega, by omega⟩, ⟨by omega, by omega⟩, fun hlt => ⟨⟨by omega, by omega⟩, ?_⟩, fun hge => ?_⟩
        · obtain ⟨k1, k2, k3, k4⟩ := kb x2 h1 hlt
          obtain ⟨p1, p2, -⟩ := s1 (kn x2) k1 k2
          refine ⟨201, key9b Q x2 _ h1 hlt (fun N2 hS2 => ?_) 201 0 N' (by omega) (by omega) (by omega) ?_⟩
          · exact ih _ _ (by omega) (by omega) (by omega) (by rw [show (x2 + 1).toNat = x2.toNat + 1 by omega]; exact hS2)
          · rw [Int.add_zero]
            obtain ⟨c1, c2, c3, c4, c5⟩ := hS
            exact ⟨c1, c2, c3, c4, fun j h5 h6 => by rw [catb_low _ _ _ h6, c5 j h5 h6]⟩
        · have : x2 = km := by omega
          subst this
          exact hK9 N' hS
    have z0 : offs sz kn (0 : Int).toNat = 0 := rfl
    refine ⟨⟨a, b⟩, fun M1 eM1 => ?_⟩
    have hC0 : SetC M M1 x1 (offs sz kn (0 : Int).toNat) (catb sz pb kn (0 : Int).toNat) := by
      subst eM1
      exact ⟨fun k k1 k2 => gSt_ne _ _ _ _ _ k2, fun j hj => by rw [gSt_at, if_neg hj], by rw [gSt_eq, z0], fun j hj => by rw [gSt_ne _ _ _ _ 2 (by decide)], fun j h5 h6 => by rw [z0] at h6; omega⟩
    refine ⟨601, key8 _ (fun M' hS => ?_) 601 0 M1 (by omega) (by omega) (by omega) hC0⟩
    refine ⟨⟨a, b⟩, ?_⟩
    refine sp_isFile9 r1 (fun _ _ => q1 ?_) (fun _ => by omega)
    refine ⟨⟨a, b⟩, ⟨by omega, by omega⟩, fun g => by omega, fun _ => ⟨⟨a, b⟩, fun N1 eN1 => ?_⟩⟩
    have hM0 : SetM N N1 x1 (offs sz kn (0 : Int).toNat) (catb sz pb kn (0 : Int).toNat) := by
      subst eN1
      exact ⟨fun k k1 k2 => gSt_ne _ _ _ _ _ k1, fun j hj => by rw [gSt_at, if_neg hj], by rw [gSt_eq, z0], fun j hj => by rw [gSt_ne _ _ _ _ 2 (by decide)], fun j h5 h6 => by rw [z0] at h6; omega⟩
    refine ⟨601, key9 _ _ (fun N' hS' => ?_) 601 0 N1 (by omega) (by omega) (by omega) hM0⟩
    refine ⟨⟨a, b⟩, ?_⟩
    have ok := ho km.toNat (by omega)
    rw [hS.2.2.1, hS'.2.2.1]
    exact ⟨⟨by omega, by omega⟩, rfl, hK _ _ (set_inv hI (Nat.le_succ t) ⟨a, b⟩ ok hS hS')⟩
  · exact sp_isFile9 r1 (fun a b => q1 ⟨⟨a, b⟩, ⟨by omega, by omega⟩, fun _ => ⟨rg_m1, rfl, hKn⟩, fun g' => absurd (g a b) g'⟩) (fun _ => q0 ⟨rg_m1, rfl, hKn⟩)
