/-! the FILES: what a call that writes one FILE leaves -/
def SetC (M M' : gMem) (f n : Int) (g : Int → Int) : Prop := (∀ k, k ≠ 2 → k ≠ 3 → M' k = M k) ∧ (∀ j, j ≠ f → M' 3 j = M 3 j) ∧ M' 3 f = n ∧ (∀ j, (j < 600 * f ∨ 600 * f + 600 ≤ j) → M' 2 j = M 2 j) ∧ (∀ j, 0 ≤ j → j < n → M' 2 (600 * f + j) % 256 = g j)
def SetM (N N' : gMem) (f n : Int) (g : Int → Int) : Prop := (∀ k, k ≠ 1 → k ≠ 2 → N' k = N k) ∧ (∀ j, j ≠ f → N' 1 j = N 1 j) ∧ N' 1 f = n ∧ (∀ j, (j < 600 * f ∨ 600 * f + 600 ≤ j) → N' 2 j = N 2 j) ∧ (∀ j, 0 ≤ j → j < n → N' 2 (600 * f + j) = g j)
theorem set_inv {t t' : Nat} {M N M' N' : gMem} {f n : Int} {g : Int → Int} (hI : Inv t M N) (ht : t ≤ t') (hf : 0 ≤ f ∧ f < 8) (hn : 0 ≤ n ∧ n ≤ 600) (hC : SetC M M' f n g) (hM : SetM N N' f n g) : Inv t' M' N' := by
  obtain ⟨c1, c2, c3, c4, c5⟩ := hC
  obtain ⟨m1, m2, m3, m4, m5⟩ := hM
  refine hI.upd_files ht (fun k hk => c1 k hk.1 hk.2) (fun k hk => m1 k hk.2.1 hk.2.2) (fun i _ => by rw [m1 0 (by decide) (by decide)]) ?_
  intro f' h1 h2
  obtain ⟨a1, a2, a3, a4⟩ := hI.1 f' h1 h2
  by_cases e : f' = f
  · subst e
    exact ⟨by rw [c3, m3], by omega, by omega, fun i h3 h4 => by rw [m5 i h3 (by omega), c5 i h3 (by omega)]⟩
  · rw [c2 f' e, m2 f' e]
    refine ⟨a1, a2, a3, fun i h3 h4 => ?_⟩
    rw [c4 _ (by omega), m4 _ (by omega)]
    exact a4 i h3 h4
/-- the bytes that sow makes -/
def lcg (s : Int) : Nat → Int
  | 0 => s
  | n + 1 => 1103515245 * lcg s n + 12345
def sowb (s sp : Int) (j : Int) : Int := Int.tmod (ushr (lcg s (j.toNat + 1)) 8) sp
theorem ushr_bd (a : Int) : 0 ≤ ushr a 8 ∧ ushr a 8 < 2147483648 := by
  unfold ushr
  have : (2 : Int) ^ (8 : Int).toNat = 256 := rfl
  rw [this]
  omega
theorem sowb_bd (s : Int) {sp : Int} (h : 1 ≤ sp ∧ sp ≤ 256) (j : Int) : 0 ≤ sowb s sp j ∧ sowb s sp j < 256 := by
  unfold sowb
  have h1 := (ushr_bd (lcg s (j.toNat + 1))).1
  rw [Int.tmod_eq_emod_of_nonneg h1]
  have h2 := Int.emod_nonneg (ushr (lcg s (j.toNat + 1)) 8) (show sp ≠ 0 by omega)
  have h3 := Int.emod_lt_of_pos (ushr (lcg s (j.toNat + 1)) 8) (show 0 < sp by omega)
  omega
/-- what the first l bytes were, and from there on h -/
def appd (l : Int) (g h : Int → Int) (j : Int) : Int := if j < l then g j else h (j - l)
theorem sp_addByte {f v : Int} {M : gMem} {Q : gMem → Prop} (hf : 0 ≤ f ∧ f < 8) (hl : 0 ≤ M 3 f ∧ M 3 f < 600) (hQ : Q (gSt (gSt M 2 (600 * f + M 3 f) (v.bmod 256)) 3 f (M 3 f + 1))) : fX2_addByte f v M Q := by
  have e : f * 600 + M 3 f = 600 * f + M 3 f := by omega
  show (0 ≤ f ∧ f < 8) ∧ (0 ≤ f * 600 + M 3 f ∧ f * 600 + M 3 f < 4800) ∧ _
  rw [e]
  refine ⟨hf, ⟨by omega, by omega⟩, fun M1 e1 => ⟨hf, hf, fun M2 e2 => ?_⟩⟩
  subst e1
  rw [gSt_ne _ _ _ _ 3 (by decide)] at e2
  subst e2
  exact hQ
/-- one byte more at a FILE's end -/
theorem SetC_push {M M' : gMem} {f n v : Int} {g : Int → Int} (hf : 0 ≤ f ∧ f < 8) (hn : 0 ≤ n ∧ n < 600) (h : SetC M M' f n g) {g' : Int → Int} (h1 : ∀ j, 0 ≤ j → j < n → g' j = g j) (h2 : g' n = v % 256) : SetC M (gSt (gSt M' 2 (600 * f + n) v) 3 f (n + 1)) f (n + 1) g' := by
  obtain ⟨c1, c2, c3, c4, c5⟩ := h
  refine ⟨fun k k2 k3 => by rw [gSt_ne _ _ _ _ _ k3, gSt_ne _ _ _ _ _ k2, c1 k k2 k3], fun j hj => by rw [gSt_at, if_neg hj, gSt_ne _ _ _ _ 3 (by decide), c2 j hj], gSt_eq _ _ _ _, fun j hj => by rw [gSt_ne _ _ _ _ 2 (by decide), gSt_at, if_neg (by omega), c4 j hj], fun j a b => ?_⟩
  rw [gSt_ne _ _ _ _ 2 (by decide), gSt_at]
  by_cases e : j = n
  · subst e
    rw [if_pos rfl, h2]
  · rw [if_neg (by omega), c5 j a (by omega), h1 j a (by omega)]
theorem SetM_push {N N' : gMem} {f n v : Int} {g : Int → Int} (hf : 0 ≤ f ∧ f < 8) (hn : 0 ≤ n ∧ n < 600) (h : SetM N N' f n g) {g' : Int → Int} (h1 : ∀ j, 0 ≤ j → j < n → g' j = g j) (h2 : g' n = v) : SetM N (gSt (gSt N' 2 (600 * f + n) v) 1 f (n + 1)) f (n + 1) g' := by
  obtain ⟨c1, c2, c3, c4, c5⟩ := h
  refine ⟨fun k k2 k3 => by rw [gSt_ne _ _ _ _ _ k2, gSt_ne _ _ _ _ _ k3, c1 k k2 k3], fun j hj => by rw [gSt_at, if_neg hj, gSt_ne _ _ _ _ 1 (by decide), c2 j hj], gSt_eq _ _ _ _, fun j hj => by rw [gSt_ne _ _ _ _ 2 (by decide), gSt_at, if_neg (by omega), c4 j hj], fun j a b => ?_⟩
  rw [gSt_ne _ _ _ _ 2 (by decide), gSt_at]
  by_cases e : j = n
  · subst e
    rw [if_pos rfl, h2]
  · rw [if_neg (by omega), c5 j a (by omega), h1 j a (by omega)]
theorem sm_sow {t : Nat} {M N : gMem} {x1 x2 x3 x4 : Int} (hI : Inv t M N) (ht : t ≤ 511) (r1 : rg x1) (r2 : rg x2) (r3 : rg x3) (r4 : rg x4) {K : gMem → gMem → Prop} (hK : ∀ M1 N1, Inv (t + 1) M1 N1 → K M1 N1) :
    fX8_sow x1 x2 x3 x4 M (fun r1 M1 => fX9_sow x1 x2 x3 x4 N (fun r2 N1 => rg r1 ∧ r1 = r2 ∧ K M1 N1)) := by
  have hKn := hK _ _ hI.next
  have no : ¬ (0 ≤ x1 ∧ x1 < 8 ∧ 1 ≤ x2 ∧ x2 ≤ 200 ∧ 1 ≤ x4 ∧ x4 ≤ 256 ∧ N 1 x1 + x2 ≤ 600) → fX9_sow x1 x2 x3 x4 N (fun r2 N1 => rg (-1) ∧ -1 = r2 ∧ K M N1) := fun h => by
    refine sp_isFile9 r1 (fun a b => q1 ?_) (fun a => q0 ⟨rg_m1, rfl, hKn⟩)
    refine sp_isIn r2 ⟨by decide, by decide⟩ ⟨by decide, by decide⟩ (fun c1 c2 => q1 ?_) (fun a => q0 ⟨rg_m1, rfl, hKn⟩)
    refine sp_isIn r4 ⟨by decide, by decide⟩ ⟨by decide, by decide⟩ (fun d1 d2 => q1 ?_) (fun a => q0 ⟨rg_m1, rfl, hKn⟩)
    obtain ⟨a1, a2, a3, a4⟩ := hI.1 x1 a b
    exact ⟨⟨a, b⟩, ⟨by omega, by omega⟩, fun _ => ⟨rg_m1, rfl, hKn⟩, fun g => by omega⟩
  refine sp_isFile r1 (fun a b => q1 ?_) (fun a => q0 (no (by omega)))
  refine sp_isWithin r2 ⟨by decide, by decide⟩ ⟨by decide, by decide⟩ (fun c1 c2 => q1 ?_) (fun a => q0 (no (by omega)))
  refine sp_isWithin r4 ⟨by decide, by decide⟩ ⟨by decide, by decide⟩ (fun d1 d2 => q1 ?_) (fun a => q0 (no (by omega)))
  obtain ⟨a1, a2, a3, a4⟩ := hI.1 x1 a b
  refine ⟨⟨a, b⟩, ⟨by omega, by omega⟩, fun _ => no (by omega), fun hle => ?_⟩
  generalize hg : appd (N 1 x1) (fun j => N 2 (600 * x1 + j)) (sowb x3 x4) = g
  have stp : ∀ (x5 x6 : Int), 0 ≤ x6 → x5 = lcg x3 x6.toNat → Int.tmod (ushr (1103515245 * x5 + 12345) 8) x4 = g (N 1 x1 + x6) ∧ 1103515245 * x5 + 12345 = lcg x3 (x6 + 1).toNat := by
    intro x5 x6 h6 e5
    have e : lcg x3 (x6 + 1).toNat = 1103515245 * x5 + 12345 := by rw [show (x6 + 1).toNat = x6.toNat + 1 by omega, lcg, e5]
    refine ⟨?_, e.symm⟩
    rw [← hg]
    unfold appd sowb
    rw [if_neg (by omega), show N 1 x1 + x6 - N 1 x1 = x6 by omega, show x6.toNat + 1 = (x6 + 1).toNat by omega, e]
  have gb : ∀ x6, 0 ≤ x6 → 0 ≤ g (N 1 x1 + x6) ∧ g (N 1 x1 + x6) < 256 := fun x6 h6 => by
    rw [← hg]
    unfold appd
    rw [if_neg (by omega)]
    exact sowb_bd x3 ⟨d1, d2⟩ _
  have key8 : ∀ (Q : Int → gMem → Prop) (K8 : gMem → Prop), (∀ M', SetC M M' x1 (N 1 x1 + x2) g → K8 M') → ∀ (n : Nat) (x5 x6 : Int) (M' : gMem), 0 ≤ x6 → x6 ≤ x2 → x2 - x6 < n → x5 = lcg x3 x6.toNat → SetC M M' x1 (N 1 x1 + x6) g → fX8_sow_L55 x1 x2 x4 n x5 x6 M' K8 Q := by
    intro Q K8 hK8 n
    induction n with
    | zero => intro x5 x6 M' h1 h2 h3; omega
    | succ n ih =>
      intro x5 x6 M' h1 h2 h3 h5 hS
      refine ⟨⟨by omega, by omega⟩, r2, fun hlt => ?_, fun hge => ?_⟩
      · have hu := ushr_bd (1103515245 * x5 + 12345)
        obtain ⟨e1, e2⟩ := stp x5 x6 h1 h5
        refine ⟨⟨by omega, hu.2⟩, r4, by omega, ?_⟩
        have e3 : M' 3 x1 = N 1 x1 + x6 := hS.2.2.1
        refine sp_addByte ⟨a, b⟩ (by omega) ?_
        rw [e1, e3]
        refine ih _ _ _ (by omega) (by omega) (by omega) e2 ?_
        rw [show N 1 x1 + (x6 + 1) = N 1 x1 + x6 + 1 by omega]
        refine SetC_push ⟨a, b⟩ (by omega) hS (fun _ _ _ => rfl) ?_
        have := gb x6 h1
        rw [bmod_emod]
        omega
      · have : x6 = x2 := by omega
        subst this
        exact hK8 M' hS
  have key9 : ∀ (Q : Int → gMem → Prop) (K9 : gMem → Prop), (∀ N', SetM N N' x1 (N 1 x1 + x2) g → K9 N') → ∀ (n : Nat) (x5 x6 : Int) (N' : gMem), 0 ≤ x6 → x6 ≤ x2 → x2 - x6 < n → x5 = lcg x3 x6.toNat → SetM N N' x1 (N 1 x1 + x6) g → fX9_sow_L52 x1 x2 x4 n x5 x6 N' K9 Q := by
    intro Q K9 hK9 n
    induction n with
    | zero => intro x5 x6 N' h1 h2 h3; omega
    | succ n ih =>
      intro x5 x6 N' h1 h2 h3 h5 hS
      refine ⟨⟨by omega, by omega⟩, r2, fun hlt => ?_, fun hge => ?_⟩
      · have hu := ushr_bd (1103515245 * x5 + 12345)
        obtain ⟨e1, e2⟩ := stp x5 x6 h1 h5
        have e3 : N' 1 x1 = N 1 x1 + x6 := hS.2.2.1
        refine ⟨⟨a, b⟩, ⟨by omega, hu.2⟩, r4, by omega, ⟨by omega, by omega⟩, fun N1 e4 => ⟨⟨a, b⟩, ⟨a, b⟩, fun N2 e5 => ?_⟩⟩
        subst e4
        rw [gSt_ne _ _ _ _ 1 (by decide)] at e5
        subst e5
        rw [e1, e3]
        refine ih _ _ _ (by omega) (by omega) (by omega) e2 ?_
        rw [show N 1 x1 + (x6 + 1) = N 1 x1 + x6 + 1 by omega]
        exact SetM_push ⟨a, b⟩ (by omega) hS (fun _ _ _ => rfl) rfl
      · have : x6 = x2 := by omega
        subst this
        exact hK9 N' hS
  have g0 : ∀ j, 0 ≤ j → j < N 1 x1 → g j = N 2 (600 * x1 + j) := fun j h1 h2 => by rw [← hg]; unfold appd; rw [if_pos h2]
  have sC : SetC M M x1 (N 1 x1 + 0) g := ⟨fun _ _ _ => rfl, fun _ _ => rfl, by omega, fun _ _ => rfl, fun j h1 h2 => by rw [g0 j h1 (by omega), a4 j h1 (by omega)]⟩
  have sM : SetM N N x1 (N 1 x1 + 0) g := ⟨fun _ _ _ => rfl, fun _ _ => rfl, by omega, fun _ _ => rfl, fun j h1 h2 => (g0 j h1 (by omega)).symm⟩
  refine ⟨201, key8 _ _ (fun M' hS => ⟨⟨a, b⟩, ?_⟩) 201 x3 0 M (by omega) (by omega) (by omega) rfl sC⟩
  refine sp_isFile9 r1 (fun _ _ => q1 ?_) (fun _ => by omega)
  refine sp_isIn r2 ⟨by decide, by decide⟩ ⟨by decide, by decide⟩ (fun _ _ => q1 ?_) (fun _ => by omega)
  refine sp_isIn r4 ⟨by decide, by decide⟩ ⟨by decide, by decide⟩ (fun _ _ => q1 ?_) (fun _ => by omega)
  refine ⟨⟨a, b⟩, ⟨by omega, by omega⟩, fun _ => by omega, fun _ => ?_⟩
  refine ⟨201, key9 _ _ (fun N' hS' => ⟨⟨a, b⟩, ?_⟩) 201 x3 0 N (by omega) (by omega) (by omega) rfl sM⟩
  rw [hS.2.2.1, hS'.2.2.1]
  exact ⟨⟨by omega, by omega⟩, rfl, hK _ _ (set_inv hI (Nat.le_succ t) ⟨a, b⟩ (by omega) hS hS')⟩
