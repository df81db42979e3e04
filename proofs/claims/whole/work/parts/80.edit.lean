/-! edit -/
def edg (o tp : Int → Int) (pl tl gn : Int) (j : Int) : Int := if j < pl then o j else if j < pl + tl then tp (j - pl) else o (j - tl + gn)
def eSh (N N' : gMem) (bs lo hi by_ : Int) : Prop := (∀ k, k ≠ 2 → N' k = N k) ∧ ∀ j, N' 2 j = if bs + lo + by_ ≤ j ∧ j < bs + hi + by_ then N 2 (j - by_) else N 2 j
theorem sp_e95 {x1 x2 x3 by_ len : Int} {N : gMem} {Q : Int → gMem → Prop} {K : gMem → Prop} (hf : 0 ≤ x1 ∧ x1 < 8) (hl : len ≤ 600) (h0 : 0 ≤ x2 ∧ 0 ≤ x3 ∧ x2 + x3 ≤ len) (hb : 0 < by_) (hb2 : len + by_ ≤ 600) (hK : ∀ N', eSh N N' (600 * x1) (x2 + x3) len by_ → K N') :
    ∀ (n : Nat) (x7 : Int) (N' : gMem), x2 + x3 - 1 ≤ x7 → x7 < len → x7 - (x2 + x3) + 1 < n → eSh N N' (600 * x1) (x7 + 1) len by_ → fX9_edit_L95 x2 x3 by_ (600 * x1) n x7 N' K Q := by
  intro n
  induction n with
  | zero => intro x7 N' h1 h2 h3; omega
  | succ n ih =>
    intro x7 N' h1 h2 h3 hS
    obtain ⟨c1, c2⟩ := hS
    refine ⟨⟨by omega, by omega⟩, ⟨by omega, by omega⟩, fun hlt => ?_, fun hge => ⟨⟨by omega, by omega⟩, ⟨by omega, by omega⟩, fun N1 e1 => ?_⟩⟩
    · have : x7 + 1 = x2 + x3 := by omega
      refine hK N' ⟨c1, ?_⟩
      rw [← this]
      exact c2
    · subst e1
      refine ih _ _ (by omega) (by omega) (by omega) ⟨fun k hk => by rw [gSt_ne _ _ _ _ _ hk, c1 k hk], fun j => ?_⟩
      rw [gSt_at]
      have e : N' 2 (600 * x1 + x7) = N 2 (600 * x1 + x7) := by rw [c2, if_neg (by omega)]
      by_cases ej : j = 600 * x1 + x7 + by_
      · rw [if_pos ej, if_pos (by omega), e, ej, show 600 * x1 + x7 + by_ - by_ = 600 * x1 + x7 by omega]
      · rw [if_neg ej, c2]
        by_cases hj : 600 * x1 + (x7 + 1) + by_ ≤ j ∧ j < 600 * x1 + len + by_
        · rw [if_pos hj, if_pos (by omega)]
        · rw [if_neg hj, if_neg (by omega)]
theorem sp_e140 {x1 x2 x3 by_ len : Int} {N : gMem} {Q : Int → gMem → Prop} {K : gMem → Prop} (hf : 0 ≤ x1 ∧ x1 < 8) (hl : len ≤ 600) (hN : N 1 x1 = len) (h0 : 0 ≤ x2 ∧ 0 ≤ x3 ∧ x2 + x3 ≤ len) (hb : by_ ≤ 0) (hb2 : 0 ≤ x3 + by_) (hK : ∀ N', eSh N N' (600 * x1) (x2 + x3) len by_ → K N') :
    ∀ (n : Nat) (x7 : Int) (N' : gMem), x2 + x3 ≤ x7 → x7 ≤ len → len - x7 < n → eSh N N' (600 * x1) (x2 + x3) x7 by_ → fX9_edit_L140 x1 by_ (600 * x1) n x7 N' K Q := by
  intro n
  induction n with
  | zero => intro x7 N' h1 h2 h3; omega
  | succ n ih =>
    intro x7 N' h1 h2 h3 hS
    obtain ⟨c1, c2⟩ := hS
    have e1' : N' 1 x1 = len := by rw [c1 1 (by decide), hN]
    rw [fX9_edit_L140, e1']
    refine ⟨hf, ⟨by omega, by omega⟩, ⟨by omega, by omega⟩, fun hlt => ⟨⟨by omega, by omega⟩, ⟨by omega, by omega⟩, fun N1 e1 => ?_⟩, fun hge => ?_⟩
    · subst e1
      refine ih _ _ (by omega) (by omega) (by omega) ⟨fun k hk => by rw [gSt_ne _ _ _ _ _ hk, c1 k hk], fun j => ?_⟩
      rw [gSt_at]
      have e : N' 2 (600 * x1 + x7) = N 2 (600 * x1 + x7) := by rw [c2, if_neg (by omega)]
      by_cases ej : j = 600 * x1 + x7 + by_
      · rw [if_pos ej, if_pos (by omega), e, ej, show 600 * x1 + x7 + by_ - by_ = 600 * x1 + x7 by omega]
      · rw [if_neg ej, c2]
        by_cases hj : 600 * x1 + (x2 + x3) + by_ ≤ j ∧ j < 600 * x1 + x7 + by_
        · rw [if_pos hj, if_pos (by omega)]
        · rw [if_neg hj, if_neg (by omega)]
    · have : x7 = len := by omega
      subst this
      exact hK N' ⟨c1, c2⟩
theorem sp_e183 {x1 x2 tl : Int} {N : gMem} {Q : Int → gMem → Prop} {K : gMem → Prop} (hf : 0 ≤ x1 ∧ x1 < 8) (ht : N 0 3 = tl) (h0 : 0 ≤ x2 ∧ 0 ≤ tl ∧ tl ≤ 400 ∧ x2 + tl ≤ 600) (hK : ∀ N', (∀ k, k ≠ 2 → N' k = N k) → (∀ j, N' 2 j = if 600 * x1 + x2 ≤ j ∧ j < 600 * x1 + x2 + tl then N 3 (j - 600 * x1 - x2) else N 2 j) → K N') :
    ∀ (n : Nat) (x7 : Int) (N' : gMem), 0 ≤ x7 → x7 ≤ tl → tl - x7 < n → (∀ k, k ≠ 2 → N' k = N k) → (∀ j, N' 2 j = if 600 * x1 + x2 ≤ j ∧ j < 600 * x1 + x2 + x7 then N 3 (j - 600 * x1 - x2) else N 2 j) → fX9_edit_L183 x2 (600 * x1) n x7 N' K Q := by
  intro n
  induction n with
  | zero => intro x7 N' h1 h2 h3; omega
  | succ n ih =>
    intro x7 N' h1 h2 h3 c1 c2
    have e1' : N' 0 3 = tl := by rw [c1 0 (by decide), ht]
    rw [fX9_edit_L183, e1']
    refine ⟨⟨by omega, by omega⟩, ⟨by omega, by omega⟩, fun hlt => ⟨⟨by omega, by omega⟩, ⟨by omega, by omega⟩, fun N1 e1 => ?_⟩, fun hge => ?_⟩
    · subst e1
      refine ih _ _ (by omega) (by omega) (by omega) (fun k hk => by rw [gSt_ne _ _ _ _ _ hk, c1 k hk]) (fun j => ?_)
      rw [gSt_at, c1 3 (by decide)]
      by_cases ej : j = 600 * x1 + x2 + x7
      · rw [if_pos ej, if_pos (by omega), ej, show 600 * x1 + x2 + x7 - 600 * x1 - x2 = x7 by omega]
      · rw [if_neg ej, c2]
        by_cases hj : 600 * x1 + x2 ≤ j ∧ j < 600 * x1 + x2 + x7
        · rw [if_pos hj, if_pos (by omega)]
        · rw [if_neg hj, if_neg (by omega)]
    · have : x7 = tl := by omega
      subst this
      exact hK N' c1 c2
theorem sm_edit {t : Nat} {M N : gMem} {x1 x2 x3 : Int} (hI : Inv t M N) (ht : t ≤ 511) (r1 : rg x1) (r2 : rg x2) (r3 : rg x3) {K : gMem → gMem → Prop} (hK : ∀ M1 N1, Inv (t + 1) M1 N1 → K M1 N1) :
    fX8_edit x1 x2 x3 M (fun r1 M1 => fX9_edit x1 x2 x3 N (fun r2 N1 => rg r1 ∧ r1 = r2 ∧ K M1 N1)) := by
  have hKn := hK _ _ hI.next
  obtain ⟨b1, b2, b3, b4⟩ := hI.2.1
  have no : ¬ (0 ≤ x1 ∧ x1 < 8 ∧ 0 ≤ x2 ∧ x2 ≤ N 1 x1 ∧ 0 ≤ x3 ∧ x3 ≤ N 1 x1 - x2) → fX9_edit x1 x2 x3 N (fun r2 N1 => rg (-1) ∧ -1 = r2 ∧ K M N1) := fun h => by
    refine sp_isFile9 r1 (fun a b => q1 ?_) (fun a => q0 ⟨rg_m1, rfl, hKn⟩)
    obtain ⟨a1, a2, a3, a4⟩ := hI.1 x1 a b
    refine ⟨r2, fun _ => ⟨rg_m1, rfl, hKn⟩, fun _ => ⟨⟨a, b⟩, r2, ⟨by omega, by omega⟩, fun _ => ⟨rg_m1, rfl, hKn⟩, fun _ => ⟨r3, fun _ => ⟨rg_m1, rfl, hKn⟩, fun _ => ⟨⟨a, b⟩, r3, ⟨by omega, by omega⟩, fun _ => ⟨rg_m1, rfl, hKn⟩, fun _ => by omega⟩⟩⟩⟩
  refine sp_isFile r1 (fun a b => q1 ⟨⟨a, b⟩, ?_⟩) (fun a => q0 (no (by omega)))
  obtain ⟨a1, a2, a3, a4⟩ := hI.1 x1 a b
  rw [a1]
  refine sp_isWithin r2 rg_0 ⟨by omega, by omega⟩ (fun c1 c2 => q1 ⟨⟨a, b⟩, ?_⟩) (fun a => q0 (no (by omega)))
  refine sp_isWithin r3 rg_0 ⟨by omega, by omega⟩ (fun d1 d2 => q1 ⟨⟨a, b⟩, ?_⟩) (fun a => q0 (no (by omega)))
  rw [b1]
  refine ⟨⟨by omega, by omega⟩, fun hbig => ?_, fun hsm => ?_⟩
  · refine sp_isFile9 r1 (fun _ _ => q1 ?_) (fun _ => by omega)
    refine ⟨r2, fun _ => by omega, fun _ => ⟨⟨a, b⟩, r2, ⟨by omega, by omega⟩, fun _ => by omega, fun _ => ⟨r3, fun _ => by omega, fun _ => ⟨⟨a, b⟩, r3, ⟨by omega, by omega⟩, fun _ => by omega, fun _ => ⟨⟨a, b⟩, ⟨by omega, by omega⟩, fun _ => ⟨⟨by decide, by decide⟩, rfl, hKn⟩, fun g => by omega⟩⟩⟩⟩⟩
  · generalize htl : N 0 3 = tl at *
    generalize hln : N 1 x1 = len at *
    have e60 : x1 * 600 = 600 * x1 := by omega
    show (0 ≤ x1 ∧ x1 < 8) ∧ _
    refine ⟨⟨a, b⟩, ?_⟩
    rw [e60, a1, b1]
    refine ⟨by omega, by omega, by omega, by omega, by omega, fun M4 e4 => ?_⟩
    have f4 : M4 4 = M 4 := by rw [e4]; exact gCp_ne _ _ _ _ _ _ _ (by decide)
    have f5 : M4 5 = M 5 := by rw [e4]; exact gCp_ne _ _ _ _ _ _ _ (by decide)
    rw [f4, b1]
    refine ⟨by omega, by omega, by omega, by omega, by omega, fun M10 e10 => ⟨⟨a, b⟩, ⟨a, b⟩, fun M18 e18 => ?_⟩⟩
    have g3 : M10 3 = M 3 := by rw [e10, gCp_ne _ _ _ _ _ _ _ (by decide), e4, gCp_ne _ _ _ _ _ _ _ (by decide)]
    have g4 : M10 4 = M 4 := by rw [e10, gCp_ne _ _ _ _ _ _ _ (by decide), f4]
    rw [g3, g4, a1, b1] at e18
    intro M19 e19
    refine ⟨⟨a, b⟩, ?_⟩
    generalize hg : edg (fun j => N 2 (600 * x1 + j)) (fun j => N 3 j) x2 tl x3 = g
    have gA : ∀ j, j < x2 → g j = N 2 (600 * x1 + j) := fun j h => by rw [← hg]; unfold edg; rw [if_pos h]
    have gB : ∀ j, x2 ≤ j → j < x2 + tl → g j = N 3 (j - x2) := fun j h h' => by rw [← hg]; unfold edg; rw [if_neg (by omega), if_pos h']
    have gC : ∀ j, x2 + tl ≤ j → g j = N 2 (600 * x1 + (j - tl + x3)) := fun j h => by rw [← hg]; unfold edg; rw [if_neg (by omega), if_neg (by omega)]
    have sC : SetC M M18 x1 (len - x3 + tl) g := by
      subst e18
      refine ⟨fun k k2 k3 => by rw [gSt_ne _ _ _ _ _ k3, e10, gCp_ne _ _ _ _ _ _ _ k2, e4, gCp_ne _ _ _ _ _ _ _ k2], fun j hj => by rw [gSt_at, if_neg hj, g3], by rw [gSt_eq]; omega, fun j hj => ?_, fun j h1 h2 => ?_⟩
      · rw [gSt_ne _ _ _ _ 2 (by decide), e10, gCp_at, if_neg (by omega), e4, gCp_at, if_neg (by omega)]
      · rw [gSt_ne _ _ _ _ 2 (by decide), e10, gCp_at]
        by_cases q1' : j < x2
        · rw [if_neg (by omega), e4, gCp_at, if_neg (by omega), gA j q1', a4 j h1 (by omega)]
        · by_cases q2' : j < x2 + tl
          · rw [if_pos (by omega), f5, gB j (by omega) q2', show (0 : Int) + (600 * x1 + j - (600 * x1 + x2)) = j - x2 by omega, b4 (j - x2) (by omega) (by omega)]
          · rw [if_neg (by omega), e4, gCp_at, if_pos (by omega), gC j (by omega), show 600 * x1 + x2 + x3 + (600 * x1 + j - (600 * x1 + x2 + tl)) = 600 * x1 + (j - tl + x3) by omega, a4 (j - tl + x3) (by omega) (by omega)]
    have h19 : M19 3 x1 = len - x3 + tl := by rw [e19, gSt_ne _ _ _ _ 3 (by decide), sC.2.2.1]
    rw [h19]
    -- the reference, behind its shift
    have fin : ∀ (N' : gMem), eSh N N' (600 * x1) (x2 + x3) len (tl - x3) → ∃ n_40, fX9_edit_L183 x2 (600 * x1) n_40 0 N' (fun M_36 => (0 ≤ x1 ∧ x1 < 8) ∧ ∀ M_38, M_38 = gSt M_36 1 x1 (len - x3 + tl) → ∀ M_39, M_39 = gSt M_38 0 3 0 → rg (len - x3 + tl) ∧ len - x3 + tl = len - x3 + tl ∧ K M19 M_39) (fun r2 N1 => rg (len - x3 + tl) ∧ len - x3 + tl = r2 ∧ K M19 N1) := by
      intro N' hS
      obtain ⟨s1, s2⟩ := hS
      refine ⟨401, sp_e183 (N := N') ⟨a, b⟩ (by rw [s1 0 (by decide), htl]) (by omega) (fun N2 u1 u2 => ?_) 401 0 N' (by omega) (by omega) (by omega) (fun _ _ => rfl) (fun j => by rw [if_neg (by omega)])⟩
      refine ⟨⟨a, b⟩, fun N3 e3 N4 e4' => ⟨⟨by omega, by omega⟩, rfl, hK _ _ ?_⟩⟩
      have sM : SetM N N3 x1 (len - x3 + tl) g := by
        subst e3
        refine ⟨fun k k2 k3 => by rw [gSt_ne _ _ _ _ _ k2, u1 k k3, s1 k k3], fun j hj => by rw [gSt_at, if_neg hj, u1 1 (by decide), s1 1 (by decide)], by rw [gSt_eq], fun j hj => ?_, fun j h1 h2 => ?_⟩
        · rw [gSt_ne _ _ _ _ 2 (by decide), u2, if_neg (by omega), s2, if_neg (by omega)]
        · rw [gSt_ne _ _ _ _ 2 (by decide), u2]
          by_cases q1' : j < x2
          · rw [if_neg (by omega), s2, if_neg (by omega), gA j q1']
          · by_cases q2' : j < x2 + tl
            · rw [if_pos (by omega), s1 3 (by decide), gB j (by omega) q2', show 600 * x1 + j - 600 * x1 - x2 = j - x2 by omega]
            · rw [if_neg (by omega), s2, if_pos (by omega), gC j (by omega), show 600 * x1 + j - (tl - x3) = 600 * x1 + (j - tl + x3) by omega]
      have hI2 : Inv t M18 N3 := set_inv hI (Nat.le_refl t) ⟨a, b⟩ (by omega) sC sM
      refine tap_inv (n := 0) (g := fun _ => 0) hI2 (Nat.le_succ t) (by omega) ⟨fun k hk => ?_, ?_, fun j h1 h2 => by omega⟩ ⟨fun k hk => ?_, fun i hi => ?_, ?_, fun j h1 h2 => by omega⟩
      · rw [e19, gSt_ne _ _ _ _ _ hk.1]
      · rw [e19, gSt_eq]
      · rw [e4', gSt_ne _ _ _ _ _ hk.1]
      · rw [e4', gSt_at, if_neg hi]
      · rw [e4', gSt_eq]
    refine sp_isFile9 r1 (fun _ _ => q1 ?_) (fun _ => by omega)
    rw [hln, htl]
    refine ⟨r2, fun _ => by omega, fun _ => ⟨⟨a, b⟩, r2, ⟨by omega, by omega⟩, fun _ => by omega, fun _ => ⟨r3, fun _ => by omega, fun _ => ⟨⟨a, b⟩, r3, ⟨by omega, by omega⟩, fun _ => by omega, fun _ => ⟨⟨a, b⟩, ⟨by omega, by omega⟩, fun _ => by omega, fun _ => ⟨⟨by omega, by omega⟩, fun hp => ⟨⟨a, b⟩, ?_⟩, fun hp => ?_⟩⟩⟩⟩⟩⟩
    · refine ⟨602, sp_e95 (N := N) (len := len) ⟨a, b⟩ a3 (by omega) hp (by omega) fin 602 (len - 1) N (by omega) (by omega) (by omega) ⟨fun _ _ => rfl, fun j => by rw [if_neg (by omega)]⟩⟩
    · refine ⟨602, sp_e140 (N := N) (len := len) ⟨a, b⟩ a3 hln (by omega) (by omega) (by omega) fin 602 (x2 + x3) N (by omega) (by omega) (by omega) ⟨fun _ _ => rfl, fun j => by rw [if_neg (by omega)]⟩⟩
