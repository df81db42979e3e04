/-! sums; what THE STORE holds is never more than what is KEPT -/
theorem sI_add (g h : Int → Int) : ∀ n : Nat, sI (fun i => g i + h i) n = sI g n + sI h n
  | 0 => rfl
  | n + 1 => by rw [sI, sI, sI, sI_add g h n]; omega
theorem sI_mulr (g : Int → Int) (c : Int) : ∀ n : Nat, sI g n * c = sI (fun i => g i * c) n
  | 0 => by rw [sI, sI, Int.zero_mul]
  | n + 1 => by rw [sI, sI, Int.add_mul, sI_mulr g c n]
theorem sI_comm (G : Int → Int → Int) (m : Nat) : ∀ n : Nat, sI (fun p => sI (fun f => G f p) m) n = sI (fun f => sI (fun p => G f p) n) m
  | 0 => by rw [sI]; exact (sI_zero (g := fun f => sI (fun p => G f p) 0) (fun i _ _ => rfl)).symm
  | n + 1 => by
    rw [sI, sI_comm G m n]
    have : (fun f => sI (fun p => G f p) (n + 1)) = (fun f => sI (fun p => G f p) n + G f n) := rfl
    rw [this, sI_add]
theorem sI_one (s : Int → Int) (c : Int) : ∀ n : Nat, sI (fun p => if c = p + 1 then s (p + 1) else 0) n = if 1 ≤ c ∧ c ≤ n then s c else 0
  | 0 => by rw [sI, if_neg (by omega)]
  | n + 1 => by
    rw [sI, sI_one s c n]
    by_cases h : c = (n : Int) + 1
    · rw [if_neg (by omega), if_pos h, if_pos (by omega), ← h, Int.zero_add]
    · rw [if_neg h, Int.add_zero]
      by_cases h2 : 1 ≤ c ∧ c ≤ n
      · rw [if_pos h2, if_pos (by omega)]
      · rw [if_neg h2, if_neg (by omega)]
theorem kc_sum {mkl : Int → Int} {mrow : Int → Int → Int} {kf km kn sz : Int → Int} (h : I4 mkl mrow kf km kn sz) : sI (fun p => kc kf km kn (p + 1) * sz (p + 1)) 300 ≤ 4800 := by
  have e : (fun p => kc kf km kn (p + 1) * sz (p + 1)) = (fun p => sI (fun f => (if kf f % 2 = 1 then sI (fun k => if kn (600 * f + k) = p + 1 then 1 else 0) (km f).toNat else 0) * sz (p + 1)) 8) := by
    funext p
    unfold kc
    rw [sI_mulr]
  rw [e, sI_comm (fun f p => (if kf f % 2 = 1 then sI (fun k => if kn (600 * f + k) = p + 1 then 1 else 0) (km f).toNat else 0) * sz (p + 1))]
  have := sI_le (g := fun f => sI (fun p => (if kf f % 2 = 1 then sI (fun k => if kn (600 * f + k) = p + 1 then 1 else 0) (km f).toNat else 0) * sz (p + 1)) 300) (h := fun _ => 600) (n := 8) (fun f h1 h2 => ?_)
  · rw [sI_const] at this
    exact this
  · rcases h f h1 (by omega) with ⟨k1, -⟩ | ⟨k1, k2, k3, k4, k5, k6⟩
    · rw [sI_zero (fun p _ _ => by rw [if_neg (by omega), Int.zero_mul])]
      decide
    · have e2 : (fun p => (if kf f % 2 = 1 then sI (fun k => if kn (600 * f + k) = p + 1 then 1 else 0) (km f).toNat else 0) * sz (p + 1)) = (fun p => sI (fun k => if kn (600 * f + k) = p + 1 then sz (p + 1) else 0) (km f).toNat) := by
        funext p
        rw [if_pos k1, sI_mulr]
        refine sI_congr (fun i _ _ => ?_)
        split
        · rw [Int.one_mul]
        · rw [Int.zero_mul]
      rw [e2, sI_comm (fun k p => if kn (600 * f + k) = p + 1 then sz (p + 1) else 0)]
      refine Int.le_trans (Int.le_of_eq ?_) k6
      refine sI_congr (fun i h3 h4 => ?_)
      have := k5 i h3 (by omega)
      rw [sI_one sz, if_pos (by omega)]
theorem used_le {M N : gMem} (h : IS M N) : 0 ≤ M 22 10 ∧ M 22 10 ≤ 4800 := by
  obtain ⟨s1, s2, ⟨s3, s3'⟩, s4, s5⟩ := h
  rw [s3']
  refine ⟨sI_nonneg (fun p h1 h2 => (s1 (p + 1) (by omega) (by omega)).1), Int.le_trans (sI_le (fun p h1 h2 => ?_)) (kc_sum s4)⟩
  obtain ⟨p1, p2, p3, p4⟩ := s1 (p + 1) (by omega) (by omega)
  have h5 := s5 (p + 1) (by omega) (by omega)
  rcases Int.lt_or_eq_of_le p1 with c | c
  · obtain ⟨-, -, g3, g4, -⟩ := p4 c
    have : 1 ≤ kc (N 20) (N 21) (N 22) (p + 1) := by omega
    have := Int.mul_le_mul_of_nonneg_right this p1
    omega
  · rw [← c, Int.mul_zero]
    exact Int.le_refl _
