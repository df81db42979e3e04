/-! drop -/
theorem sI_updr {g h : Int → Int} {a : Int} : ∀ {n : Nat}, 0 ≤ a → a < n → (∀ j : Int, 0 ≤ j → j < n → j ≠ a → h j = g j) → sI h n = sI g n + (h a - g a)
  | 0, _, h2, _ => by omega
  | n + 1, h1, h2, e => by
    rw [sI, sI]
    by_cases c : a = n
    · rw [c, sI_congr (g := h) (h := g) (fun i i1 i2 => e i i1 (by omega) (by omega))]
      omega
    · rw [sI_updr h1 (by omega) (fun j j1 j2 j3 => e j j1 (by omega) j3), e n (by omega) (by omega) (by omega)]
      omega
theorem sI_ge {g : Int → Int} {a : Int} {n : Nat} (h1 : 0 ≤ a) (h2 : a < n) (h : ∀ j : Int, 0 ≤ j → j < n → 0 ≤ g j) : g a ≤ sI g n := by
  have e := sI_updr (g := g) (h := fun j => if j = a then 0 else g j) h1 h2 (fun j _ _ hj => by rw [if_neg hj])
  have p := sI_nonneg (g := fun j => if j = a then 0 else g j) (n := n) (fun j j1 j2 => by
    split
    · exact Int.le_refl _
    · exact h j j1 j2)
  simp only [if_pos] at e
  omega
/-- how often p stands in what is KEPT of f -/
def kt (kf km kn : Int → Int) (p f : Int) : Int := if kf f % 2 = 1 then cn (fun k => kn (600 * f + k)) (km f).toNat p else 0
theorem kc_kt (kf km kn : Int → Int) (p : Int) : kc kf km kn p = sI (kt kf km kn p) 8 := rfl
theorem kt_nn (kf km kn : Int → Int) (p f : Int) : 0 ≤ kt kf km kn p f := by
  unfold kt
  split
  · exact (cn_bd _ _ _).1
  · exact Int.le_refl _
theorem kt_le (kf km kn : Int → Int) (p : Int) {f : Int} (h : 0 ≤ f ∧ f < 8) : kt kf km kn p f ≤ kc kf km kn p := by
  rw [kc_kt]
  exact sI_ge h.1 (by omega) (fun j _ _ => kt_nn _ _ _ _ _)
theorem kc_new {kf km kn kf' km' kn' : Int → Int} {p x : Int} (hx : 0 ≤ x ∧ x < 8) (h : ∀ g, 0 ≤ g → g < 8 → g ≠ x → kf' g = kf g ∧ km' g = km g ∧ (kf g % 2 = 1 → ∀ k, 0 ≤ k → k < km g → kn' (600 * g + k) = kn (600 * g + k))) : kc kf' km' kn' p = kc kf km kn p - kt kf km kn p x + kt kf' km' kn' p x := by
  rw [kc_kt, kc_kt, sI_updr (g := kt kf km kn p) (h := kt kf' km' kn' p) hx.1 (by omega) (fun g g1 g2 g3 => ?_)]
  · omega
  · obtain ⟨e1, e2, e3⟩ := h g g1 (by omega) g3
    unfold kt
    rw [e1, e2]
    by_cases c : kf g % 2 = 1
    · rw [if_pos c, if_pos c]
      exact cn_congr (fun k k1 k2 => e3 c k k1 (by omega))
    · rw [if_neg c, if_neg c]
theorem fin_IS {M N M1 N1 : gMem} {x : Int} (h : IS M N) (hx : 0 ≤ x ∧ x < 8) (hS : SR M1 (N1 16) (N1 17) (N1 18) (N1 19))
    (hO : ∀ g, 0 ≤ g → g < 8 → g ≠ x → M1 38 g = M 38 g ∧ M1 (29 + g.toNat) = M (29 + g.toNat) ∧ N1 20 g = N 20 g ∧ N1 21 g = N 21 g ∧ ∀ k, 0 ≤ k → k < 600 → N1 22 (600 * g + k) = N 22 (600 * g + k))
    (hX : (N1 20 x % 2 = 0 ∧ M1 38 x = -1) ∨ (N1 20 x % 2 = 1 ∧ M1 38 x = N1 21 x ∧ 0 ≤ N1 21 x ∧ N1 21 x ≤ 600 ∧ (∀ k, 0 ≤ k → k < N1 21 x → M1 (29 + x.toNat) k = N1 22 (600 * x + k) ∧ 1 ≤ N1 22 (600 * x + k) ∧ N1 22 (600 * x + k) ≤ 300 ∧ 0 < N1 16 (N1 22 (600 * x + k))) ∧ sI (fun k => N1 16 (N1 22 (600 * x + k))) (N1 21 x).toNat ≤ 600))
    (hH : ∀ p, 1 ≤ p → p ≤ 300 → (0 < N1 16 p → N1 19 p = kc (N1 20) (N1 21) (N1 22) p) ∧ (N1 16 p = 0 → kc (N1 20) (N1 21) (N1 22) p = 0)) (hs : ∀ p, 1 ≤ p → p ≤ 300 → 0 < N 16 p → 0 < N1 16 p → N1 16 p = N 16 p) : IS M1 N1 := by
  refine ⟨hS.1, hS.2.1, hS.2.2, fun g g1 g2 => ?_, fun p a b => ?_⟩
  · by_cases c : g = x
    · subst c; exact hX
    · obtain ⟨o1, o2, o3, o4, o5⟩ := hO g g1 g2 c
      simp only [o2]
      rw [o1, o3, o4]
      rcases h.2.2.2.1 g g1 g2 with k | ⟨k1, k2, k3, k4, k5, k6⟩
      · exact Or.inl k
      · have sm : ∀ k, 0 ≤ k → k < N 21 g → N1 16 (N 22 (600 * g + k)) = N 16 (N 22 (600 * g + k)) ∧ 0 < N1 16 (N 22 (600 * g + k)) := fun k h1 h2 => by
          obtain ⟨-, m2, m3, m4⟩ := k5 k h1 h2
          have pos : 0 < N1 16 (N 22 (600 * g + k)) := by
            have nn := (hS.1 _ m2 m3).1
            by_cases e : N1 16 (N 22 (600 * g + k)) = 0
            · have z := (hH _ m2 m3).2 e
              have l := kt_le (N1 20) (N1 21) (N1 22) (N 22 (600 * g + k)) ⟨g1, g2⟩
              unfold kt at l
              rw [o3, if_pos k1, o4] at l
              have := cn_pos (row := fun k => N1 22 (600 * g + k)) (m := (N 21 g).toNat) (k := k.toNat) (by omega)
              simp only [show ((k.toNat : Nat) : Int) = k by omega] at this
              rw [o5 k h1 (by omega)] at this
              omega
            · omega
          exact ⟨hs _ m2 m3 m4 pos, pos⟩
        refine Or.inr ⟨k1, k2, k3, k4, fun k h1 h2 => ?_, ?_⟩
        · rw [o5 k h1 (by omega)]
          obtain ⟨m1, m2, m3, m4⟩ := k5 k h1 h2
          exact ⟨m1, m2, m3, (sm k h1 h2).2⟩
        · rw [sI_congr (g := fun k => N1 16 (N1 22 (600 * g + k))) (h := fun k => N 16 (N 22 (600 * g + k))) (fun k h1 h2 => by rw [o5 k h1 (by omega), (sm k h1 (by omega)).1])]
          exact k6
  · obtain ⟨q1, q2, q3, q4⟩ := hS.1 p a b
    by_cases e : N1 16 p = 0
    · rw [q3 e, (hH p a b).2 e]
    · rw [(q4 (by omega)).2.2.1, (hH p a b).1 (by omega)]
theorem ndS_eq {s s' : Int → Int} (h : ∀ p, 1 ≤ p → p ≤ 300 → s p = s' p) : ndS s = ndS s' := by
  unfold ndS
  exact sI_congr (fun i h1 h2 => by rw [h (i + 1) (by omega) (by omega)])
theorem ndS_bd (s : Int → Int) : 0 ≤ ndS s ∧ ndS s ≤ 300 := by
  unfold ndS
  have h1 := sI_nonneg (g := fun p => if 0 < s (p + 1) then 1 else 0) (n := 300) (fun i _ _ => by split <;> omega)
  have h2 := sI_le (g := fun p => if 0 < s (p + 1) then 1 else 0) (h := fun _ => 1) (n := 300) (fun i _ _ => by split <;> omega)
  rw [sI_const] at h2
  omega
theorem sm_drop {t : Nat} {M N : gMem} {x1 : Int} (hI : Inv t M N) (ht : t ≤ 511) (r1 : rg x1) {K : gMem → gMem → Prop} (hK : ∀ M1 N1, Inv (t + 1) M1 N1 → K M1 N1) :
    fX8_drop x1 M (fun r1 M1 => fX9_drop x1 N (fun r2 N1 => rg r1 ∧ r1 = r2 ∧ K M1 N1)) := by
  have hIS := hI.2.2.2.2.1
  obtain ⟨s1, s2, s3, s4, s5⟩ := id hIS
  have hU := used_le hIS
  have hG := hI.2.2.2.2.2.1
  refine sp_isKept r1 s4 (fun a b c => q1 ?_) (fun g => q0 ?_)
  · have hx : 0 ≤ x1 ∧ x1 < 8 := ⟨a, b⟩
    obtain ⟨k1, k2, k3, k4, k5⟩ := kept_of s4 a b c
    have hm : ((N 21 x1).toNat : Int) = N 21 x1 := by omega
    have row : ∀ k : Nat, k < (N 21 x1).toNat → M (29 + x1.toNat) k = N 22 (600 * x1 + k) ∧ 1 ≤ N 22 (600 * x1 + k) ∧ N 22 (600 * x1 + k) ≤ 300 ∧ 0 < N 16 (N 22 (600 * x1 + k)) := fun k hk => k4 k (by omega) (by omega)
    have ecn : ∀ p, cn (M (29 + x1.toNat)) (N 21 x1).toNat p = cn (fun k => N 22 (600 * x1 + k)) (N 21 x1).toNat p := fun p => cn_congr (fun k h1 h2 => (k4 k h1 (by omega)).1)
    have ekt : ∀ p, kt (N 20) (N 21) (N 22) p x1 = cn (fun k => N 22 (600 * x1 + k)) (N 21 x1).toNat p := fun p => by unfold kt; rw [if_pos c]
    have hc : ∀ p, 1 ≤ p → p ≤ 300 → (0 < N 16 p → cn (fun k => N 22 (600 * x1 + k)) (N 21 x1).toNat p ≤ N 19 p ∧ N 19 p ≤ 100000 ∧ 0 < N 19 p ∧ N 19 p = kc (N 20) (N 21) (N 22) p) ∧ (N 16 p = 0 → cn (fun k => N 22 (600 * x1 + k)) (N 21 x1).toNat p = 0 ∧ kc (N 20) (N 21) (N 22) p = 0) := fun p p1 p2 => by
      have l := kt_le (N 20) (N 21) (N 22) p hx
      rw [ekt] at l
      have hb := kc_bd s4 p
      have h5 := s5 p p1 p2
      obtain ⟨i1, i2, i3, i4⟩ := s1 p p1 p2
      have nn := cn_bd (fun k => N 22 (600 * x1 + k)) p (N 21 x1).toNat
      refine ⟨fun e => ?_, fun e => ?_⟩
      · obtain ⟨-, -, j3, j4, -⟩ := i4 e
        omega
      · have := i3 e
        omega
    unfold fX5_letGo
    rw [k1, ← hm]
    refine ⟨hx, hx, sp_release (S := N 16) (pb := N 17) (pr := N 18) (H := N 19) ⟨s1, s2, s3⟩ (by omega) (by omega) (by omega) (fun k hk => by rw [(row k hk).1]; have := row k hk; omega) (fun p p1 p2 => by rw [ecn]; have := hc p p1 p2; exact ⟨fun e => by have := this.1 e; omega, fun e => (this.2 e).1⟩) (fun M2 a1 a2 a3 => ⟨hx, fun M3 e3 => ?_⟩)⟩
    simp only [ecn] at a3
    have o22 : M3 22 = M2 22 := by rw [e3, gSt_ne _ _ _ _ _ (by decide)]
    -- the reference
    have rz : rg (N 20 x1 % 2) := by rw [c]; exact rg_1
    refine sp_isFile9 r1 (fun _ _ => q1 ⟨hx, rz, fun g => by omega, fun _ => ⟨hx, fun N1 n1 => ⟨hx, ?_⟩⟩⟩) (fun g => by omega)
    have c21 : N1 21 = N 21 := by rw [n1, gSt_ne _ _ _ _ _ (by decide)]
    have c22 : N1 22 = N 22 := by rw [n1, gSt_ne _ _ _ _ _ (by decide)]
    have c16 : N1 16 = N 16 := by rw [n1, gSt_ne _ _ _ _ _ (by decide)]
    have c19 : N1 19 = N 19 := by rw [n1, gSt_ne _ _ _ _ _ (by decide)]
    rw [c21, ← hm]
    refine sp_goes (by decide) (by omega) (by omega) (fun k hk => by rw [c22]; have := row k hk; omega) (fun p p1 p2 => by rw [c16, c19, c22]; have := hc p p1 p2; exact ⟨(s1 p p1 p2).1, fun e => by have := this.1 e; omega, fun e => (this.2 e).1⟩) (fun N2 b1 b2 b3 => ?_)
    rw [c16, c19, c22] at *
    have d16 : ∀ p, 1 ≤ p → p ≤ 300 → N2 16 p = if 0 < N 19 p - cn (fun k => N 22 (600 * x1 + k)) (N 21 x1).toNat p then N 16 p else 0 := b3
    have hSR : SR M3 (N2 16) (N2 17) (N2 18) (N2 19) := by
      have : SR M3 (fun p => if 0 < N 19 p - cn (fun k => N 22 (600 * x1 + k)) (N 21 x1).toNat p then N 16 p else 0) (N 17) (N 18) (fun p => N 19 p - cn (fun k => N 22 (600 * x1 + k)) (N 21 x1).toNat p) := by
        unfold SR
        rw [o22, e3, gSt_ne _ _ _ _ 23 (by decide), gSt_ne _ _ _ _ 24 (by decide), gSt_ne _ _ _ _ 25 (by decide), gSt_ne _ _ _ _ 26 (by decide), gSt_ne _ _ _ _ 27 (by decide)]
        exact a3
      refine SR_congr this d16 (fun p p1 p2 e => ⟨?_, b2 p, fun i _ _ => ?_⟩)
      · rw [b1 18 (by decide) (by decide), n1, gSt_ne _ _ _ _ _ (by decide)]
      · rw [b1 17 (by decide) (by decide), n1, gSt_ne _ _ _ _ _ (by decide)]
    have e20 : ∀ g, N2 20 g = if g = x1 then 0 else N 20 g := fun g => by rw [b1 20 (by decide) (by decide), n1, gSt_at]
    have e21 : N2 21 = N 21 := by rw [b1 21 (by decide) (by decide), c21]
    have e22 : N2 22 = N 22 := by rw [b1 22 (by decide) (by decide), n1, gSt_ne _ _ _ _ _ (by decide)]
    have ekc : ∀ p, kc (N2 20) (N2 21) (N2 22) p = kc (N 20) (N 21) (N 22) p - cn (fun k => N 22 (600 * x1 + k)) (N 21 x1).toNat p := fun p => by
      rw [kc_new (kf := N 20) (km := N 21) (kn := N 22) hx (fun g g1 g2 g3 => ⟨by rw [e20, if_neg g3], by rw [e21], fun _ k _ _ => by rw [e22]⟩), ekt]
      unfold kt
      rw [e20, if_pos rfl, if_neg (by decide)]
      omega
    have hIS1 : IS M3 N2 := by
      refine fin_IS hIS hx hSR (fun g g1 g2 g3 => ⟨?_, ?_, by rw [e20, if_neg g3], by rw [e21], fun k _ _ => by rw [e22]⟩) (Or.inl ⟨by rw [e20, if_pos rfl]; rfl, by rw [e3, gSt_eq]⟩) (fun p p1 p2 => ?_) (fun p p1 p2 e1 e2 => ?_)
      · rw [e3, gSt_at, if_neg g3, a1 38 (by decide) (by decide) (by decide) (by decide)]
      · rw [e3, gSt_ne _ _ _ _ _ (by omega), a1 _ (by omega) (by omega) (by omega) (by omega)]
      · have h := hc p p1 p2
        have nn := (s1 p p1 p2).1
        rw [ekc, b2 p, d16 p p1 p2]
        constructor
        · intro e
          split at e
          · have := h.1 e; omega
          · omega
        · intro e
          by_cases z : N 16 p = 0
          · have := h.2 z; omega
          · have h' := h.1 (by omega)
            split at e <;> omega
      · rw [d16 p p1 p2] at e2 ⊢
        split at e2
        · rename_i c'; rw [if_pos c']
        · omega
    have hcnt : M 22 9 - M3 22 9 = ndS (N 16) - ndS (N2 16) := by
      have h1 := s3.1
      have h2 := hIS1.2.2.1.1
      rw [h1, h2]
      rfl
    rw [hcnt]
    have nb1 := ndS_bd (N 16)
    have nb2 := ndS_bd (N2 16)
    refine ⟨⟨by omega, by omega⟩, rfl, hK _ _ (hI.upd_store (Nat.le_succ t) (fun k hk hk' => ?_) (fun k hk h0 hk' => ?_) (fun i i1 i2 i3 => ?_) ?_ hIS1 ?_)⟩
    · rw [e3, gSt_ne _ _ _ _ _ (by omega), a1 k (by omega) (by omega) (by omega) (by omega)]
    · rw [b1 k (by omega) (by omega), n1, gSt_ne _ _ _ _ _ (by omega)]
    · rw [b1 0 (by decide) (by decide), n1, gSt_ne _ _ _ _ _ (by decide)]
    · rw [e3, gSt_ne _ _ _ _ _ (by decide), gSt_ne _ _ _ _ _ (by decide), a1 15 (by decide) (by decide) (by decide) (by decide), a1 18 (by decide) (by decide) (by decide) (by decide)]
      exact hI.2.2.2.2.2.2.2.2
    · rw [o22, a2 11 (by decide) (by decide), b1 0 (by decide) (by decide), n1, gSt_ne _ _ _ _ _ (by decide)]
      exact ⟨hG.1, hG.2.1, by have := hG.2.2; omega⟩
  · have e : rg (-1) ∧ (-1 : Int) = -1 ∧ K M N := ⟨rg_m1, rfl, hK _ _ hI.next⟩
    refine sp_isFile9 r1 (fun a b => q1 ⟨⟨a, b⟩, ?_, fun _ => e, fun h => absurd (g a b) h⟩) (fun _ => q0 e)
    rw [g a b]
    exact rg_0
