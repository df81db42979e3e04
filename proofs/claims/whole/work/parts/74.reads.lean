/-! pair, number, jumps, piece, count -/
theorem rg_m1 : rg (-1) := ⟨by decide, by decide⟩
theorem rg_0 : rg 0 := ⟨by decide, by decide⟩
theorem rg_1 : rg 1 := ⟨by decide, by decide⟩
theorem sm_pair {t : Nat} {M N : gMem} {x1 x2 : Int} (hI : Inv t M N) (ht : t ≤ 511) (r1 : rg x1) (r2 : rg x2) {K : gMem → gMem → Prop} (hK : ∀ M1 N1, Inv (t + 1) M1 N1 → K M1 N1) :
    fX8_pair x1 x2 M (fun r1 => fX9_pair x1 x2 N (fun r2 => rg r1 ∧ r1 = r2 ∧ K M N)) := by
  obtain ⟨h1, h2, h3, h4⟩ := hI.2.2.2.2.2.2.1
  have hKn := hK _ _ hI.next
  have rN : rg (N 0 33) := ⟨by omega, by omega⟩
  refine sp_isWithin r1 rg_0 ⟨by omega, by omega⟩ (fun a1 a2 => q1 ?_) (fun a => q0 ?_)
  · obtain ⟨e1, e2, e3, b1, b2, b3, b4, b5, b6⟩ := h4 x1 a1 (by omega)
    have hx : 0 ≤ x1 ∧ x1 < 200 := by omega
    refine ⟨r2, fun hz => ⟨hx, ?_⟩, fun hz => ⟨hx, ?_⟩, fun hz => ⟨hx, ?_⟩, fun hz => ?_⟩
    · exact ⟨r1, fun g => by omega, fun _ => ⟨r1, rN, fun _ => ⟨r2, fun _ => ⟨hx, ⟨by omega, by omega⟩, e1, hKn⟩, fun g => absurd hz g⟩, fun g => by omega⟩⟩
    · exact ⟨r1, fun g => by omega, fun _ => ⟨r1, rN, fun _ => ⟨r2, fun g => by omega, fun _ => ⟨r2, fun _ => ⟨hx, ⟨by omega, by omega⟩, e2, hKn⟩, fun g => absurd hz g⟩⟩, fun g => by omega⟩⟩
    · exact ⟨r1, fun g => by omega, fun _ => ⟨r1, rN, fun _ => ⟨r2, fun g => by omega, fun _ => ⟨r2, fun g => by omega, fun _ => ⟨r2, fun _ => ⟨hx, ⟨by omega, by omega⟩, e3, hKn⟩, fun g => absurd hz g⟩⟩⟩, fun g => by omega⟩⟩
    · exact ⟨r1, fun g => by omega, fun _ => ⟨r1, rN, fun _ => ⟨r2, fun g => by omega, fun _ => ⟨r2, fun g => by omega, fun _ => ⟨r2, fun g => by omega, fun _ => ⟨rg_m1, rfl, hKn⟩⟩⟩⟩, fun g => by omega⟩⟩
  · exact ⟨r1, fun _ => ⟨rg_m1, rfl, hKn⟩, fun g => ⟨r1, rN, fun g' => by omega, fun _ => ⟨rg_m1, rfl, hKn⟩⟩⟩
theorem sp_isKept {x1 : Int} {M N : gMem} {Q : Int → Prop} (r1 : rg x1) (h4 : I4 (M 38) (fun f => M (29 + f.toNat)) (N 20) (N 21) (N 22) (N 16)) (h1 : 0 ≤ x1 → x1 < 8 → N 20 x1 % 2 = 1 → Q 1) (h0 : (0 ≤ x1 → x1 < 8 → N 20 x1 % 2 = 0) → Q 0) : fX8_isKept x1 M Q := by
  refine sp_isFile r1 (fun a b => q1 ?_) (fun a => q0 (h0 (fun c d => by omega)))
  rcases h4 x1 a b with ⟨k1, k2⟩ | ⟨k1, k2, k3, k4, -⟩
  · exact ⟨⟨a, b⟩, ⟨by omega, by omega⟩, fun _ => h0 (fun _ _ => k1), fun g => absurd k2 g⟩
  · exact ⟨⟨a, b⟩, ⟨by omega, by omega⟩, fun g => by omega, fun _ => h1 a b k1⟩
theorem kept_of {M N : gMem} (h4 : I4 (M 38) (fun f => M (29 + f.toNat)) (N 20) (N 21) (N 22) (N 16)) {x : Int} (a : 0 ≤ x) (b : x < 8) (k : N 20 x % 2 = 1) : M 38 x = N 21 x ∧ 0 ≤ N 21 x ∧ N 21 x ≤ 600 ∧ (∀ k, 0 ≤ k → k < N 21 x → M (29 + x.toNat) k = N 22 (600 * x + k) ∧ 1 ≤ N 22 (600 * x + k) ∧ N 22 (600 * x + k) ≤ 300 ∧ 0 < N 16 (N 22 (600 * x + k))) ∧ sI (fun k => N 16 (N 22 (600 * x + k))) (N 21 x).toNat ≤ 600 := by
  rcases h4 x a b with ⟨k1, -⟩ | ⟨-, h⟩
  · omega
  · exact h
theorem sm_number {t : Nat} {M N : gMem} {x1 x2 : Int} (hI : Inv t M N) (ht : t ≤ 511) (r1 : rg x1) (r2 : rg x2) {K : gMem → gMem → Prop} (hK : ∀ M1 N1, Inv (t + 1) M1 N1 → K M1 N1) :
    fX8_number x1 x2 M (fun r1 => fX9_number x1 x2 N (fun r2 => rg r1 ∧ r1 = r2 ∧ K M N)) := by
  have h4 := hI.2.2.2.2.1.2.2.2.1
  have hKn := hK _ _ hI.next
  refine sp_isKept r1 h4 (fun a b k => q1 ?_) (fun g => q0 ?_)
  · obtain ⟨e1, e2, e3, e4, -⟩ := kept_of h4 a b k
    refine ⟨⟨a, b⟩, sp_isWithin r2 rg_0 ⟨by omega, by omega⟩ (fun c1 c2 => q1 ⟨⟨a, b⟩, ⟨by omega, by omega⟩, ?_⟩) (fun c => q0 ?_)⟩
    · obtain ⟨f1, f2, f3, -⟩ := e4 x2 c1 (by omega)
      refine sp_isFile9 r1 (fun _ _ => q1 ⟨⟨a, b⟩, ⟨by omega, by omega⟩, fun g => by omega, fun _ => ?_⟩) (fun _ => by omega)
      refine ⟨r2, fun g => by omega, fun _ => ⟨⟨a, b⟩, r2, ⟨by omega, by omega⟩, fun _ => ⟨by omega, ⟨by omega, by omega⟩, f1, hKn⟩, fun g => by omega⟩⟩
    · refine sp_isFile9 r1 (fun _ _ => q1 ⟨⟨a, b⟩, ⟨by omega, by omega⟩, fun g => by omega, fun _ => ?_⟩) (fun _ => by omega)
      exact ⟨r2, fun _ => ⟨rg_m1, rfl, hKn⟩, fun _ => ⟨⟨a, b⟩, r2, ⟨by omega, by omega⟩, fun g => by omega, fun _ => ⟨rg_m1, rfl, hKn⟩⟩⟩
  · refine sp_isFile9 r1 (fun a b => q1 ⟨⟨a, b⟩, ⟨by omega, by omega⟩, fun _ => ⟨rg_m1, rfl, hKn⟩, fun g' => absurd (g a b) g'⟩) (fun _ => q0 ⟨rg_m1, rfl, hKn⟩)
/-- how many of the first n numbers don't follow the one ahead of them -/
def jm (r : Int → Int) : Nat → Int
  | 0 => 0
  | n + 1 => jm r n + if (n : Int) = 0 then 1 else if r n = r (n - 1) + 1 then 0 else 1
theorem jm_bd (r : Int → Int) : ∀ n, 0 ≤ jm r n ∧ jm r n ≤ n
  | 0 => ⟨Int.le_refl _, Int.le_refl _⟩
  | n + 1 => by
    have := jm_bd r n
    rw [jm]
    split
    · omega
    · split <;> omega
theorem jm_step (r : Int → Int) {x : Int} (hx : 0 ≤ x) : jm r (x + 1).toNat = jm r x.toNat + if x = 0 then 1 else if r x = r (x - 1) + 1 then 0 else 1 := by
  obtain ⟨n, rfl⟩ := Int.eq_ofNat_of_zero_le hx
  rw [show ((n : Int) + 1).toNat = n + 1 by omega, show ((n : Int)).toNat = n by omega, jm]
theorem sp_jumps8 {x1 : Int} {M : gMem} {km : Int} {Q : Int → Prop} (a : 0 ≤ x1) (b : x1 < 8) (e1 : M 38 x1 = km) (e2 : 0 ≤ km) (e3 : km ≤ 600) (e4 : ∀ k, 0 ≤ k → k < km → 1 ≤ M (29 + x1.toNat) k ∧ M (29 + x1.toNat) k ≤ 300) (hQ : Q (jm (M (29 + x1.toNat)) km.toNat)) :
    ∀ (n : Nat) (x2 x3 : Int), 0 ≤ x3 → x3 ≤ km → km - x3 < n → x2 = jm (M (29 + x1.toNat)) x3.toNat → fX5_countJumps_L4 x1 M n x2 x3 Q := by
  intro n
  induction n with
  | zero => intro x2 x3 h1 h2 h3; omega
  | succ n ih =>
    intro x2 x3 h1 h2 h3 h5
    refine ⟨⟨a, b⟩, ⟨by omega, by omega⟩, ⟨by omega, by omega⟩, fun hlt => ⟨⟨by omega, by omega⟩, fun hz => ?_, fun hz => ?_⟩, fun hge => ?_⟩
    · exact ih _ _ (by omega) (by omega) (by omega) (by rw [jm_step _ h1, if_pos hz, h5])
    · have f1 := e4 x3 h1 (by omega)
      have f2 := e4 (x3 - 1) (by omega) (by omega)
      refine ⟨⟨a, b⟩, ⟨by omega, by omega⟩, ⟨a, b⟩, ⟨by omega, by omega⟩, ⟨by omega, by omega⟩, ⟨by omega, by omega⟩, fun g => ?_, fun g => ?_⟩
      · exact ih _ _ (by omega) (by omega) (by omega) (by rw [jm_step _ h1, if_neg hz, if_pos g, h5]; omega)
      · exact ih _ _ (by omega) (by omega) (by omega) (by rw [jm_step _ h1, if_neg hz, if_neg g, h5])
    · have : x3 = km := by omega
      subst this
      rw [h5]
      exact hQ
theorem sp_jumps9 {x1 : Int} {N : gMem} {km : Int} {Q : Int → Prop} (a : 0 ≤ x1) (b : x1 < 8) (e1 : N 21 x1 = km) (e2 : 0 ≤ km) (e3 : km ≤ 600) (e4 : ∀ k, 0 ≤ k → k < km → 1 ≤ N 22 (600 * x1 + k) ∧ N 22 (600 * x1 + k) ≤ 300) (hQ : Q (jm (fun k => N 22 (600 * x1 + k)) km.toNat)) :
    ∀ (n : Nat) (x2 x3 : Int), 0 ≤ x3 → x3 ≤ km → km - x3 < n → x2 = jm (fun k => N 22 (600 * x1 + k)) x3.toNat → fX9_jumps_L22 x1 N n x2 x3 Q := by
  intro n
  induction n with
  | zero => intro x2 x3 h1 h2 h3; omega
  | succ n ih =>
    intro x2 x3 h1 h2 h3 h5
    have e : 600 * x1 + x3 - 1 = 600 * x1 + (x3 - 1) := by omega
    refine ⟨⟨a, b⟩, ⟨by omega, by omega⟩, ⟨by omega, by omega⟩, fun hlt => ⟨⟨by omega, by omega⟩, fun hz => ?_, fun hz => ?_⟩, fun hge => ?_⟩
    · exact ih _ _ (by omega) (by omega) (by omega) (by rw [jm_step _ h1, if_pos hz, h5])
    · have f1 := e4 x3 h1 (by omega)
      have f2 := e4 (x3 - 1) (by omega) (by omega)
      rw [e]
      refine ⟨⟨by omega, by omega⟩, ⟨by omega, by omega⟩, ⟨by omega, by omega⟩, ⟨by omega, by omega⟩, fun g => ?_, fun g => ?_⟩
      · exact ih _ _ (by omega) (by omega) (by omega) (by rw [jm_step _ h1, if_neg hz, if_pos g, h5]; omega)
      · exact ih _ _ (by omega) (by omega) (by omega) (by rw [jm_step _ h1, if_neg hz, if_neg g, h5])
    · have : x3 = km := by omega
      subst this
      rw [h5]
      exact hQ
theorem jm_congr {r r' : Int → Int} : ∀ {n : Nat}, (∀ k : Int, 0 ≤ k → k < n → r k = r' k) → jm r n = jm r' n
  | 0, _ => rfl
  | n + 1, h => by
    rw [jm, jm, jm_congr (fun k a b => h k a (by omega))]
    by_cases hz : (n : Int) = 0
    · rw [if_pos hz, if_pos hz]
    · rw [if_neg hz, if_neg hz, h n (by omega) (by omega), h (n - 1) (by omega) (by omega)]
theorem sm_jumps {t : Nat} {M N : gMem} {x1 : Int} (hI : Inv t M N) (ht : t ≤ 511) (r1 : rg x1) {K : gMem → gMem → Prop} (hK : ∀ M1 N1, Inv (t + 1) M1 N1 → K M1 N1) :
    fX8_jumps x1 M (fun r1 => fX9_jumps x1 N (fun r2 => rg r1 ∧ r1 = r2 ∧ K M N)) := by
  have h4 := hI.2.2.2.2.1.2.2.2.1
  have hKn := hK _ _ hI.next
  refine sp_isKept r1 h4 (fun a b k => q1 ?_) (fun g => q0 ?_)
  · obtain ⟨e1, e2, e3, e4, -⟩ := kept_of h4 a b k
    refine ⟨601, sp_jumps8 a b e1 e2 e3 (fun k h1 h2 => by have := e4 k h1 h2; omega) ?_ 601 0 0 (by omega) (by omega) (by omega) rfl⟩
    refine sp_isFile9 r1 (fun _ _ => q1 ⟨⟨a, b⟩, ⟨by omega, by omega⟩, fun g => by omega, fun _ => ?_⟩) (fun _ => by omega)
    refine ⟨601, sp_jumps9 a b rfl e2 e3 (fun k h1 h2 => by have := e4 k h1 h2; omega) ?_ 601 0 0 (by omega) (by omega) (by omega) rfl⟩
    have hb := jm_bd (M (29 + x1.toNat)) (N 21 x1).toNat
    exact ⟨⟨by omega, by omega⟩, jm_congr (fun k h1 h2 => (e4 k h1 (by omega)).1), hKn⟩
  · refine sp_isFile9 r1 (fun a b => q1 ⟨⟨a, b⟩, ⟨by omega, by omega⟩, fun _ => ⟨rg_m1, rfl, hKn⟩, fun g' => absurd (g a b) g'⟩) (fun _ => q0 ⟨rg_m1, rfl, hKn⟩)
theorem kc_bd {mkl : Int → Int} {mrow : Int → Int → Int} {kf km kn sz : Int → Int} (h : I4 mkl mrow kf km kn sz) (p : Int) : 0 ≤ kc kf km kn p ∧ kc kf km kn p ≤ 4800 := by
  have hin : ∀ f : Int, 0 ≤ f → f < 8 → 0 ≤ (if kf f % 2 = 1 then sI (fun k => if kn (600 * f + k) = p then 1 else 0) (km f).toNat else 0) ∧ (if kf f % 2 = 1 then sI (fun k => if kn (600 * f + k) = p then 1 else 0) (km f).toNat else 0) ≤ 600 := by
    intro f h1 h2
    rcases h f h1 h2 with ⟨k1, -⟩ | ⟨k1, k2, k3, k4, -⟩
    · rw [if_neg (by omega)]; omega
    · rw [if_pos k1]
      refine ⟨sI_nonneg (fun i _ _ => by split <;> omega), ?_⟩
      have := sI_le (g := fun k => if kn (600 * f + k) = p then 1 else 0) (h := fun _ => 1) (n := (km f).toNat) (fun i _ _ => by split <;> omega)
      rw [sI_const] at this
      omega
  refine ⟨sI_nonneg (fun f h1 h2 => (hin f h1 (by omega)).1), ?_⟩
  have := sI_le (h := fun _ => 600) (n := 8) (fun f h1 h2 => (hin f h1 (by omega)).2)
  rw [sI_const] at this
  exact this
theorem sp_isPiece {x1 : Int} {N : gMem} {Q : Int → Prop} (r1 : rg x1) (hs : 1 ≤ x1 → x1 ≤ 300 → 0 ≤ N 16 x1 ∧ N 16 x1 ≤ 200) (h1 : 1 ≤ x1 → x1 ≤ 300 → 0 < N 16 x1 → Q 1) (h0 : (1 ≤ x1 → x1 ≤ 300 → N 16 x1 = 0) → Q 0) : fX9_isPiece x1 N Q := by
  refine ⟨r1, fun a => ⟨r1, fun b => h0 (fun _ _ => by omega), fun b => ?_⟩, fun a => h0 (fun _ _ => by omega)⟩
  have := hs (by omega) (by omega)
  exact ⟨⟨by omega, by omega⟩, ⟨by omega, by omega⟩, fun c => h1 (by omega) (by omega) c, fun c => h0 (fun _ _ => by omega)⟩
theorem sm_piece {t : Nat} {M N : gMem} {x1 x2 : Int} (hI : Inv t M N) (ht : t ≤ 511) (r1 : rg x1) (r2 : rg x2) {K : gMem → gMem → Prop} (hK : ∀ M1 N1, Inv (t + 1) M1 N1 → K M1 N1) :
    fX8_piece x1 x2 M (fun r1 => fX9_piece x1 x2 N (fun r2 => rg r1 ∧ r1 = r2 ∧ K M N)) := by
  obtain ⟨s1, -, -, s4, s5⟩ := hI.2.2.2.2.1
  have hKn := hK _ _ hI.next
  have hs : 1 ≤ x1 → x1 ≤ 300 → 0 ≤ N 16 x1 ∧ N 16 x1 ≤ 200 := fun a b => ⟨(s1 x1 a b).1, (s1 x1 a b).2.1⟩
  refine sp_isWithin r1 ⟨by decide, by decide⟩ ⟨by decide, by decide⟩ (fun a b => q1 ?_) (fun a => q0 ?_)
  · obtain ⟨b1, b2, b3, b4⟩ := s1 x1 a b
    have hb := kc_bd s4 x1
    have hh := s5 x1 a b
    have hx : 0 ≤ x1 ∧ x1 < 301 := by omega
    refine ⟨hx, ⟨by omega, by omega⟩, fun hz => ?_, fun hz => ?_⟩
    · refine sp_isPiece r1 hs (fun _ _ c => ?_) (fun c => q0 ⟨rg_m1, rfl, hKn⟩)
      have := (b4 c).2.2
      omega
    · have c : 0 < N 16 x1 := by
        rcases Int.lt_or_eq_of_le b1 with c | c
        · exact c
        · exact absurd (b3 c.symm) hz
      obtain ⟨e1, e2, e3, e4, e5, -⟩ := b4 c
      have e6 : 0 ≤ N 18 x1 ∧ N 18 x1 < 256 := by rw [e5, PR]; omega
      refine ⟨r2, fun g => ⟨hx, ?_⟩, fun g => ⟨hx, ?_⟩, fun g => ⟨hx, ?_⟩, fun g => ?_⟩
      · exact sp_isPiece r1 hs (fun _ _ _ => q1 ⟨r2, fun _ => ⟨hx, ⟨by omega, by omega⟩, e1, hKn⟩, fun g' => absurd g g'⟩) (fun c' => by have := c' a b; omega)
      · exact sp_isPiece r1 hs (fun _ _ _ => q1 ⟨r2, fun g' => by omega, fun _ => ⟨r2, fun _ => ⟨hx, ⟨by omega, by omega⟩, e3, hKn⟩, fun g' => absurd g g'⟩⟩) (fun c' => by have := c' a b; omega)
      · exact sp_isPiece r1 hs (fun _ _ _ => q1 ⟨r2, fun g' => by omega, fun _ => ⟨r2, fun g' => by omega, fun _ => ⟨r2, fun _ => ⟨hx, ⟨by omega, by omega⟩, e2, hKn⟩, fun g' => absurd g g'⟩⟩⟩) (fun c' => by have := c' a b; omega)
      · exact sp_isPiece r1 hs (fun _ _ _ => q1 ⟨r2, fun g' => by omega, fun _ => ⟨r2, fun g' => by omega, fun _ => ⟨r2, fun g' => by omega, fun _ => ⟨rg_m1, rfl, hKn⟩⟩⟩⟩) (fun c' => by have := c' a b; omega)
  · exact sp_isPiece r1 hs (fun _ _ _ => by omega) (fun _ => q0 ⟨rg_m1, rfl, hKn⟩)
