/-! copy, feed -/
theorem gCp_at (M : gMem) (a b : Nat) (sp dp n j : Int) : gCp M a b sp dp n b j = if dp ≤ j ∧ j < dp + n then M a (sp + (j - dp)) else M b j := by simp [gCp]
theorem sm_copy {t : Nat} {M N : gMem} {x1 x2 : Int} (hI : Inv t M N) (ht : t ≤ 511) (r1 : rg x1) (r2 : rg x2) {K : gMem → gMem → Prop} (hK : ∀ M1 N1, Inv (t + 1) M1 N1 → K M1 N1) :
    fX8_copy x1 x2 M (fun r1 M1 => fX9_copy x1 x2 N (fun r2 N1 => rg r1 ∧ r1 = r2 ∧ K M1 N1)) := by
  have hKn := hK _ _ hI.next
  have no : ¬ (0 ≤ x1 ∧ x1 < 8 ∧ 0 ≤ x2 ∧ x2 < 8) → fX9_copy x1 x2 N (fun r2 N1 => rg (-1) ∧ -1 = r2 ∧ K M N1) := fun h => by
    refine sp_isFile9 r1 (fun a b => q1 ?_) (fun a => q0 ⟨rg_m1, rfl, hKn⟩)
    exact sp_isFile9 r2 (fun c d => by omega) (fun a => q0 ⟨rg_m1, rfl, hKn⟩)
  refine sp_isFile r1 (fun a b => q1 ?_) (fun a => q0 (no (by omega)))
  refine sp_isFile r2 (fun c d => q1 ?_) (fun a => q0 (no (by omega)))
  obtain ⟨a1, a2, a3, a4⟩ := hI.1 x1 a b
  show (0 ≤ x1 ∧ x1 < 8) ∧ (0 ≤ x1 * 600 ∧ 0 ≤ x2 * 600 ∧ 0 ≤ M 3 x1 ∧ x1 * 600 + M 3 x1 ≤ 4800 ∧ x2 * 600 + M 3 x1 ≤ 4800 ∧ _)
  refine ⟨⟨a, b⟩, by omega, by omega, by omega, by omega, by omega, fun M1 e1 => ⟨⟨a, b⟩, ⟨c, d⟩, fun M2 e2 => ⟨⟨c, d⟩, ?_⟩⟩⟩
  have e13 : M1 3 = M 3 := by rw [e1]; exact gCp_ne _ _ _ _ _ _ _ (by decide)
  rw [e13] at e2
  have sC : SetC M M2 x2 (N 1 x1) (fun j => N 2 (600 * x1 + j)) := by
    subst e2
    refine ⟨fun k k2 k3 => by rw [gSt_ne _ _ _ _ _ k3, e1, gCp_ne _ _ _ _ _ _ _ k2], fun j hj => by rw [gSt_at, if_neg hj, e13], by rw [gSt_eq, a1], fun j hj => ?_, fun j h1 h2 => ?_⟩
    · rw [gSt_ne _ _ _ _ 2 (by decide), e1, gCp_at, if_neg (by omega)]
    · rw [gSt_ne _ _ _ _ 2 (by decide), e1, gCp_at, if_pos (by omega), show x1 * 600 + (600 * x2 + j - x2 * 600) = 600 * x1 + j by omega]
      exact (a4 j h1 h2).symm
  have key : ∀ (Q : Int → gMem → Prop) (K9 : gMem → Prop), (∀ N', (∀ k, k ≠ 2 → N' k = N k) → (∀ j, N' 2 j = if 600 * x2 ≤ j ∧ j < 600 * x2 + N 1 x1 then N 2 (600 * x1 + (j - 600 * x2)) else N 2 j) → K9 N') → ∀ (n : Nat) (x3 : Int) (N' : gMem), 0 ≤ x3 → x3 ≤ N 1 x1 → N 1 x1 - x3 < n → (∀ k, k ≠ 2 → N' k = N k) → (∀ j, N' 2 j = if 600 * x2 ≤ j ∧ j < 600 * x2 + x3 then N 2 (600 * x1 + (j - 600 * x2)) else N 2 j) → fX9_copy_L18 x1 x2 n x3 N' K9 Q := by
    intro Q K9 hK9 n
    induction n with
    | zero => intro x3 N' h1 h2 h3; omega
    | succ n ih =>
      intro x3 N' h1 h2 h3 h5 h6
      have e1 : N' 1 x1 = N 1 x1 := by rw [h5 1 (by decide)]
      rw [fX9_copy_L18, e1]
      refine ⟨⟨a, b⟩, ⟨by omega, by omega⟩, ⟨by omega, by omega⟩, fun hlt => ⟨by omega, by omega, fun N2 e2 => ?_⟩, fun hge => ?_⟩
      · subst e2
        refine ih _ _ (by omega) (by omega) (by omega) (fun k hk => by rw [gSt_ne _ _ _ _ _ hk, h5 k hk]) (fun j => ?_)
        rw [gSt_at]
        have e7 : N' 2 (600 * x1 + x3) = N 2 (600 * x1 + x3) := by
          rw [h6]
          split
          · rw [show 600 * x1 + (600 * x1 + x3 - 600 * x2) = 600 * x1 + x3 by omega]
          · rfl
        by_cases ej : j = 600 * x2 + x3
        · rw [if_pos ej, if_pos (by omega), e7, ej, show 600 * x1 + (600 * x2 + x3 - 600 * x2) = 600 * x1 + x3 by omega]
        · rw [if_neg ej, h6 j]
          by_cases hj : 600 * x2 ≤ j ∧ j < 600 * x2 + x3
          · rw [if_pos hj, if_pos (by omega)]
          · rw [if_neg hj, if_neg (by omega)]
      · have : x3 = N 1 x1 := by omega
        subst this
        exact hK9 N' h5 h6
  refine sp_isFile9 r1 (fun _ _ => q1 ?_) (fun _ => by omega)
  refine sp_isFile9 r2 (fun _ _ => q1 ?_) (fun _ => by omega)
  refine ⟨601, key _ _ (fun N' h5 h6 => ⟨⟨a, b⟩, ⟨c, d⟩, fun N2 e3 => ⟨⟨c, d⟩, ?_⟩⟩) 601 0 N (by omega) (by omega) (by omega) (fun _ _ => rfl) (fun j => by rw [if_neg (by omega)])⟩
  have e31 : N' 1 x1 = N 1 x1 := by rw [h5 1 (by decide)]
  rw [e31] at e3
  have sM : SetM N N2 x2 (N 1 x1) (fun j => N 2 (600 * x1 + j)) := by
    subst e3
    refine ⟨fun k k2 k3 => by rw [gSt_ne _ _ _ _ _ k2, h5 k k3], fun j hj => by rw [gSt_at, if_neg hj, h5 1 (by decide)], by rw [gSt_eq], fun j hj => ?_, fun j h1 h2 => ?_⟩
    · rw [gSt_ne _ _ _ _ 2 (by decide), h6, if_neg (by omega)]
    · rw [gSt_ne _ _ _ _ 2 (by decide), h6, if_pos (by omega), show 600 * x1 + (600 * x2 + j - 600 * x2) = 600 * x1 + j by omega]
  rw [sC.2.2.1, sM.2.2.1]
  exact ⟨⟨by omega, by omega⟩, rfl, hK _ _ (set_inv hI (Nat.le_succ t) ⟨c, d⟩ (by omega) sC sM)⟩
/-- the tape has n bytes g -/
def TapC (M M' : gMem) (n : Int) (g : Int → Int) : Prop := (∀ k, k ≠ 4 ∧ k ≠ 5 → M' k = M k) ∧ M' 4 1 = n ∧ ∀ j, 0 ≤ j → j < n → M' 5 j % 256 = g j
def TapM (N N' : gMem) (n : Int) (g : Int → Int) : Prop := (∀ k, k ≠ 0 ∧ k ≠ 3 → N' k = N k) ∧ (∀ i : Int, i ≠ 3 → N' 0 i = N 0 i) ∧ N' 0 3 = n ∧ ∀ j, 0 ≤ j → j < n → N' 3 j = g j
theorem tap_inv {t t' : Nat} {M N M' N' : gMem} {n : Int} {g : Int → Int} (hI : Inv t M N) (ht : t ≤ t') (hn : 0 ≤ n ∧ n ≤ 400) (hC : TapC M M' n g) (hM : TapM N N' n g) : Inv t' M' N' :=
  hI.upd_tape ht hC.1 hM.1 (fun i hi => hM.2.1 i hi.2.2) ⟨by rw [hC.2.1, hM.2.2.1], by rw [hM.2.2.1]; exact hn.1, by rw [hM.2.2.1]; exact hn.2, fun i h1 h2 => by rw [hM.2.2.1] at h2; rw [hM.2.2.2 i h1 h2, hC.2.2 i h1 h2]⟩
/-- byte i of a number, the highest first -/
def fby (x i : Int) : Int := if i = 0 then x / 16777216 % 256 else if i = 1 then x / 65536 % 256 else if i = 2 then x / 256 % 256 else x % 256
theorem fby_u (x : Int) {i : Int} (h : 0 ≤ i ∧ i < 4) : (Int.bmod (ushr x (24 - 8 * i)) 256) % 256 = fby x i := by
  rw [bmod_emod]
  unfold ushr fby
  rcases (by omega : i = 0 ∨ i = 1 ∨ i = 2 ∨ i = 3) with rfl | rfl | rfl | rfl
  · show x % 4294967296 / 16777216 % 256 = _
    rw [if_pos rfl]; omega
  · show x % 4294967296 / 65536 % 256 = _
    rw [if_neg (by decide), if_pos rfl]; omega
  · show x % 4294967296 / 256 % 256 = _
    rw [if_neg (by decide), if_neg (by decide), if_pos rfl]; omega
  · show x % 4294967296 / 1 % 256 = _
    rw [if_neg (by decide), if_neg (by decide), if_neg (by decide)]; omega
theorem fby_s (x : Int) {i : Int} (h : 0 ≤ i ∧ i < 4) : band (shr x (8 * (3 - i))) 255 = fby x i := by
  rw [band_255]
  unfold shr fby
  rcases (by omega : i = 0 ∨ i = 1 ∨ i = 2 ∨ i = 3) with rfl | rfl | rfl | rfl
  · show x / 16777216 % 256 = _
    rw [if_pos rfl]
  · show x / 65536 % 256 = _
    rw [if_neg (by decide), if_pos rfl]
  · show x / 256 % 256 = _
    rw [if_neg (by decide), if_neg (by decide), if_pos rfl]
  · show x / 1 % 256 = _
    rw [if_neg (by decide), if_neg (by decide), if_neg (by decide)]; omega
theorem sp_addNumber {M0 M : gMem} {x n : Int} {g : Int → Int} {Q : gMem → Prop} (hn : 0 ≤ n ∧ n + 4 ≤ 400) (h : TapC M0 M n g) (hg : ∀ i, 0 ≤ i → i < 4 → g (n + i) = fby x i) (hQ : ∀ M', TapC M0 M' (n + 4) g → Q M') : fX7_addNumber x M Q := by
  have key : ∀ (m : Nat) (s i : Int) (M' : gMem), 0 ≤ i → i ≤ 4 → 4 - i < m → s = 24 - 8 * i → TapC M0 M' (n + i) g → fX7_addNumber_L3 x m s M' Q := by
    intro m
    induction m with
    | zero => intro s i M' h1 h2 h3; omega
    | succ m ih =>
      intro s i M' h1 h2 h3 h4 hT
      obtain ⟨t1, t2, t3⟩ := hT
      refine ⟨⟨by omega, by omega⟩, fun hz => ?_, fun hz => ⟨⟨by omega, by omega⟩, ⟨by omega, by omega⟩, fun M1 e1 M2 e2 => ?_⟩⟩
      · have : i = 4 := by omega
        subst this
        exact hQ M' ⟨t1, t2, t3⟩
      · subst e1
        rw [gSt_ne _ _ _ _ 4 (by decide)] at e2
        subst e2
        refine ih _ (i + 1) _ (by omega) (by omega) (by omega) (by omega) ⟨fun k hk => by rw [gSt_ne _ _ _ _ _ hk.1, gSt_ne _ _ _ _ _ hk.2, t1 k hk], by rw [gSt_eq, t2]; omega, fun j h5 h6 => ?_⟩
        rw [gSt_ne _ _ _ _ 5 (by decide), gSt_at, t2]
        by_cases ej : j = n + i
        · rw [if_pos ej, h4, fby_u x ⟨h1, by omega⟩, ej, hg i h1 (by omega)]
        · rw [if_neg ej, t3 j h5 (by omega)]
  exact ⟨6, key 6 24 0 M (by omega) (by omega) (by omega) (by omega) (by rw [Int.add_zero]; exact h)⟩
def fsel (a b c d e k : Int) : Int := if k < 4 then a else if k < 8 then b else if k < 12 then c else if k < 16 then d else e
theorem sp_J71 {x1 x2 x3 x4 x5 x6 s0 n : Int} {N0 N : gMem} {g : Int → Int} {K : Int → gMem → Prop} {Q : Int → gMem → Prop} (r0 : rg s0) (hx : 0 ≤ x6 ∧ x6 < 20) (hn : 0 ≤ n ∧ n + x6 < 400) (hT : TapM N0 N (n + x6) g) (hg : g (n + x6) = fby s0 (x6 % 4)) (hK : ∀ N', TapM N0 N' (n + x6 + 1) g → K (x6 + 1) N') : fX9_feed_J71 x1 x2 x3 x4 x5 x6 s0 N K Q := by
  obtain ⟨t1, t2, t3, t4⟩ := hT
  unfold fX9_feed_J71
  rw [Int.tmod_eq_emod_of_nonneg hx.1]
  refine ⟨⟨by omega, by omega⟩, r0, ⟨by omega, by omega⟩, ⟨by omega, by omega⟩, fun N1 e1 N2 e2 => hK N2 ?_⟩
  subst e1
  rw [gSt_ne _ _ _ _ 0 (by decide)] at e2
  subst e2
  refine ⟨fun k hk => by rw [gSt_ne _ _ _ _ _ hk.1, gSt_ne _ _ _ _ _ hk.2, t1 k hk], fun i hi => by rw [gSt_at, if_neg hi, gSt_ne _ _ _ _ 0 (by decide), t2 i hi], by rw [gSt_eq, t3], fun j h5 h6 => ?_⟩
  rw [gSt_ne _ _ _ _ 3 (by decide), gSt_at, t3]
  by_cases ej : j = n + x6
  · rw [if_pos ej, fby_s s0 (by omega), ej, hg]
  · rw [if_neg ej, t4 j h5 (by omega)]
theorem sm_feed {t : Nat} {M N : gMem} {x1 x2 x3 x4 x5 : Int} (hI : Inv t M N) (ht : t ≤ 511) (r1 : rg x1) (r2 : rg x2) (r3 : rg x3) (r4 : rg x4) (r5 : rg x5) {K : gMem → gMem → Prop} (hK : ∀ M1 N1, Inv (t + 1) M1 N1 → K M1 N1) :
    fX8_feed x1 x2 x3 x4 x5 M (fun r1 M1 => fX9_feed x1 x2 x3 x4 x5 N (fun r2 N1 => rg r1 ∧ r1 = r2 ∧ K M1 N1)) := by
  have hKn := hK _ _ hI.next
  obtain ⟨b1, b2, b3, b4⟩ := hI.2.1
  refine ⟨⟨by omega, by omega⟩, fun h => ?_, fun h => ?_⟩
  · exact ⟨⟨by omega, by omega⟩, fun _ => ⟨rg_m1, rfl, hKn⟩, fun g => by omega⟩
  · generalize hn : N 0 3 = n at *
    generalize hg : appd n (fun j => N 3 j) (fun j => fby (fsel x1 x2 x3 x4 x5 j) (j % 4)) = g
    have gl : ∀ j, 0 ≤ j → j < n → g j = N 3 j := fun j h1 h2 => by rw [← hg]; unfold appd; rw [if_pos h2]
    have gh : ∀ j, 0 ≤ j → g (n + j) = fby (fsel x1 x2 x3 x4 x5 j) (j % 4) := fun j h1 => by rw [← hg]; unfold appd; rw [if_neg (by omega), show n + j - n = j by omega]
    have s0 : TapC M M n g := ⟨fun _ _ => rfl, b1, fun j h1 h2 => by rw [gl j h1 h2, b4 j h1 h2]⟩
    have gi : ∀ (q : Int) (x : Int), (∀ i, 0 ≤ i → i < 4 → fsel x1 x2 x3 x4 x5 (q + i) = x) → q % 4 = 0 → 0 ≤ q → ∀ i, 0 ≤ i → i < 4 → g (n + q + i) = fby x i := fun q x hx hq h0 i h1 h2 => by
      rw [show n + q + i = n + (q + i) by omega, gh _ (by omega), hx i h1 h2, show (q + i) % 4 = i by omega]
    refine sp_addNumber (n := n) (by omega) s0 (fun i a b => by have := gi 0 x1 (fun i a b => by unfold fsel; rw [if_pos (by omega)]) (by omega) (by omega) i a b; rwa [Int.add_zero] at this) (fun M1 s1 => ?_)
    refine sp_addNumber (by omega) s1 (gi 4 x2 (fun i a b => by unfold fsel; rw [if_neg (by omega), if_pos (by omega)]) (by omega) (by omega)) (fun M2 s2 => ?_)
    rw [show n + 4 + 4 = n + 8 by omega] at s2
    refine sp_addNumber (by omega) s2 (gi 8 x3 (fun i a b => by unfold fsel; rw [if_neg (by omega), if_neg (by omega), if_pos (by omega)]) (by omega) (by omega)) (fun M3 s3 => ?_)
    rw [show n + 8 + 4 = n + 12 by omega] at s3
    refine sp_addNumber (by omega) s3 (gi 12 x4 (fun i a b => by unfold fsel; rw [if_neg (by omega), if_neg (by omega), if_neg (by omega), if_pos (by omega)]) (by omega) (by omega)) (fun M4 s4 => ?_)
    rw [show n + 12 + 4 = n + 16 by omega] at s4
    refine sp_addNumber (by omega) s4 (gi 16 x5 (fun i a b => by unfold fsel; rw [if_neg (by omega), if_neg (by omega), if_neg (by omega), if_neg (by omega)]) (by omega) (by omega)) (fun M5 s5 => ?_)
    rw [show n + 16 + 4 = n + 20 by omega] at s5
    rw [s5.2.1]
    have key : ∀ (Q : Int → gMem → Prop), (∀ N', TapM N N' (n + 20) g → Q (n + 20) N') → ∀ (m : Nat) (x6 : Int) (N' : gMem), 0 ≤ x6 → x6 ≤ 20 → 20 - x6 < m → TapM N N' (n + x6) g → fX9_feed_L18 x1 x2 x3 x4 x5 m x6 N' Q := by
      intro Q hQ m
      induction m with
      | zero => intro x6 N' h1 h2 h3; omega
      | succ m ih =>
        intro x6 N' h1 h2 h3 hT
        have rx : rg x6 := ⟨by omega, by omega⟩
        refine ⟨rx, fun hlt => ?_, fun hge => ?_⟩
        · have nxt : ∀ N2, TapM N N2 (n + x6 + 1) g → fX9_feed_L18 x1 x2 x3 x4 x5 m (x6 + 1) N2 Q := fun N2 hT2 => ih _ _ (by omega) (by omega) (by omega) (by rw [show n + (x6 + 1) = n + x6 + 1 by omega]; exact hT2)
          have hsel := gh x6 h1
          unfold fsel at hsel
          refine ⟨rx, fun c1 => ?_, fun c1 => ⟨rx, fun c2 => ?_, fun c2 => ⟨rx, fun c3 => ?_, fun c3 => ⟨rx, fun c4 => ?_, fun c4 => ?_⟩⟩⟩⟩
          · rw [if_pos c1] at hsel
            exact sp_J71 r1 ⟨h1, hlt⟩ (by omega) hT hsel nxt
          · rw [if_neg c1, if_pos c2] at hsel
            exact sp_J71 r2 ⟨h1, hlt⟩ (by omega) hT hsel nxt
          · rw [if_neg c1, if_neg c2, if_pos c3] at hsel
            exact sp_J71 r3 ⟨h1, hlt⟩ (by omega) hT hsel nxt
          · rw [if_neg c1, if_neg c2, if_neg c3, if_pos c4] at hsel
            exact sp_J71 r4 ⟨h1, hlt⟩ (by omega) hT hsel nxt
          · rw [if_neg c1, if_neg c2, if_neg c3, if_neg c4] at hsel
            exact sp_J71 r5 ⟨h1, hlt⟩ (by omega) hT hsel nxt
        · have : x6 = 20 := by omega
          subst this
          rw [hT.2.2.1]
          exact hQ N' hT
    refine ⟨⟨by omega, by omega⟩, fun g => by omega, fun _ => ?_⟩
    refine ⟨21, key _ (fun N' hT => ⟨⟨by omega, by omega⟩, rfl, hK _ _ (tap_inv hI (Nat.le_succ t) (by omega) s5 hT)⟩) 21 0 N (by omega) (by omega) (by omega) ?_⟩
    rw [Int.add_zero]
    exact ⟨fun _ _ => rfl, fun _ _ => rfl, hn, fun j h1 h2 => (gl j h1 h2).symm⟩
