/-! count -/
theorem sI_step (g : Int → Int) {x : Int} (hx : 0 ≤ x) : sI g (x + 1).toNat = sI g x.toNat + g x := by
  obtain ⟨n, rfl⟩ := Int.eq_ofNat_of_zero_le hx
  rw [show ((n : Int) + 1).toNat = n + 1 by omega, show ((n : Int)).toNat = n by omega, sI]
def nums (N : gMem) : Int := sI (fun f => if N 20 f % 2 = 1 then N 21 f else 0) 8
def kfls (N : gMem) : Int := sI (fun f => if N 20 f % 2 = 1 then 1 else 0) 8
theorem sp_countNumbers {M N : gMem} {Q : Int → Prop} (h4 : I4 (M 38) (fun f => M (29 + f.toNat)) (N 20) (N 21) (N 22) (N 16)) (hQ : Q (nums N)) : fX5_countNumbers M Q := by
  have key : ∀ (n : Nat) (x1 x2 : Int), 0 ≤ x2 → x2 ≤ 8 → 8 - x2 < n → x1 = sI (fun f => if N 20 f % 2 = 1 then N 21 f else 0) x2.toNat → fX5_countNumbers_L4 M n x1 x2 Q := by
    intro n
    induction n with
    | zero => intro x1 x2 h1 h2 h3; omega
    | succ n ih =>
      intro x1 x2 h1 h2 h3 h5
      refine ⟨⟨by omega, by omega⟩, fun hlt => ?_, fun hge => ?_⟩
      · have hm : rg (M 38 x2) ∧ max (M 38 x2) 0 = if N 20 x2 % 2 = 1 then N 21 x2 else 0 := by
          rcases h4 x2 h1 hlt with ⟨k1, k2⟩ | ⟨k1, k2, k3, k4, -⟩
          · rw [if_neg (by omega), k2]; exact ⟨⟨by decide, by decide⟩, by decide⟩
          · rw [if_pos k1, k2]; exact ⟨⟨by omega, by omega⟩, by omega⟩
        refine ⟨⟨h1, hlt⟩, hm.1, ?_⟩
        rw [hm.2]
        exact ih _ _ (by omega) (by omega) (by omega) (by rw [sI_step _ h1, h5])
      · have : x2 = 8 := by omega
        subst this
        rw [h5]
        exact hQ
  exact ⟨9, key 9 0 0 (by omega) (by omega) (by omega) rfl⟩
theorem sp_countKeptFiles {M N : gMem} {Q : Int → Prop} (h4 : I4 (M 38) (fun f => M (29 + f.toNat)) (N 20) (N 21) (N 22) (N 16)) (hQ : Q (kfls N)) : fX5_countKeptFiles M Q := by
  have key : ∀ (n : Nat) (x1 x2 : Int), 0 ≤ x2 → x2 ≤ 8 → 8 - x2 < n → x1 = sI (fun f => if N 20 f % 2 = 1 then 1 else 0) x2.toNat → fX5_countKeptFiles_L4 M n x1 x2 Q := by
    intro n
    induction n with
    | zero => intro x1 x2 h1 h2 h3; omega
    | succ n ih =>
      intro x1 x2 h1 h2 h3 h5
      refine ⟨⟨by omega, by omega⟩, fun hlt => ?_, fun hge => ?_⟩
      · rcases h4 x2 h1 hlt with ⟨k1, k2⟩ | ⟨k1, k2, k3, k4, -⟩
        · refine ⟨⟨h1, hlt⟩, ⟨by omega, by omega⟩, fun _ => ?_, fun g => absurd k2 g⟩
          exact ih _ _ (by omega) (by omega) (by omega) (by rw [sI_step _ h1, h5, if_neg (by omega)])
        · refine ⟨⟨h1, hlt⟩, ⟨by omega, by omega⟩, fun g => by omega, fun _ => ?_⟩
          exact ih _ _ (by omega) (by omega) (by omega) (by rw [sI_step _ h1, h5, if_pos k1])
      · have : x2 = 8 := by omega
        subst this
        rw [h5]
        exact hQ
  exact ⟨9, key 9 0 0 (by omega) (by omega) (by omega) rfl⟩
def pcs (N : gMem) : Int := sI (fun p => if 0 < N 16 (p + 1) then 1 else 0) 300
def byt (N : gMem) : Int := sI (fun p => N 16 (p + 1)) 300
theorem sp_there {N : gMem} {Q : Int → Prop} (hs : ∀ p, 1 ≤ p → p ≤ 300 → 0 ≤ N 16 p ∧ N 16 p ≤ 200) (hQ : Q (pcs N)) : fX9_there N Q := by
  have key : ∀ (n : Nat) (x1 x2 : Int), 1 ≤ x2 → x2 ≤ 301 → 301 - x2 < n → x1 = sI (fun p => if 0 < N 16 (p + 1) then 1 else 0) (x2 - 1).toNat → fX9_there_L4 N n x1 x2 Q := by
    intro n
    induction n with
    | zero => intro x1 x2 h1 h2 h3; omega
    | succ n ih =>
      intro x1 x2 h1 h2 h3 h5
      refine ⟨⟨by omega, by omega⟩, fun hge => ?_, fun hlt => ?_⟩
      · have : x2 = 301 := by omega
        subst this
        rw [h5]
        exact hQ
      · have e : sI (fun p => if 0 < N 16 (p + 1) then 1 else 0) (x2 + 1 - 1).toNat = sI (fun p => if 0 < N 16 (p + 1) then 1 else 0) (x2 - 1).toNat + if 0 < N 16 x2 then 1 else 0 := by
          rw [show x2 + 1 - 1 = (x2 - 1) + 1 by omega, sI_step _ (by omega), show x2 - 1 + 1 = x2 by omega]
        refine sp_isPiece ⟨by omega, by omega⟩ (hs x2) (fun a b c => q1 ?_) (fun c => q0 ?_)
        · exact ih _ _ (by omega) (by omega) (by omega) (by rw [e, if_pos c, h5])
        · exact ih _ _ (by omega) (by omega) (by omega) (by rw [e, if_neg (by have := c h1 (by omega); omega), h5]; omega)
  exact ⟨301, key 301 0 1 (by omega) (by omega) (by omega) rfl⟩
theorem nums_bd {M N : gMem} (h4 : I4 (M 38) (fun f => M (29 + f.toNat)) (N 20) (N 21) (N 22) (N 16)) : 0 ≤ nums N ∧ nums N ≤ 4800 := by
  have hin : ∀ f : Int, 0 ≤ f → f < 8 → 0 ≤ (if N 20 f % 2 = 1 then N 21 f else 0) ∧ (if N 20 f % 2 = 1 then N 21 f else 0) ≤ 600 := by
    intro f h1 h2
    rcases h4 f h1 h2 with ⟨k1, -⟩ | ⟨k1, k2, k3, k4, -⟩
    · rw [if_neg (by omega)]; omega
    · rw [if_pos k1]; omega
  refine ⟨sI_nonneg (fun f h1 h2 => (hin f h1 (by omega)).1), ?_⟩
  have := sI_le (h := fun _ => 600) (n := 8) (fun f h1 h2 => (hin f h1 (by omega)).2)
  rw [sI_const] at this
  exact this
theorem kfls_bd (N : gMem) : 0 ≤ kfls N ∧ kfls N ≤ 8 := by
  refine ⟨sI_nonneg (fun f _ _ => by split <;> omega), ?_⟩
  have := sI_le (g := fun f => if N 20 f % 2 = 1 then 1 else 0) (h := fun _ => 1) (n := 8) (fun f _ _ => by split <;> omega)
  rw [sI_const] at this
  exact this
theorem pcs_bd (N : gMem) : 0 ≤ pcs N ∧ pcs N ≤ 300 := by
  refine ⟨sI_nonneg (fun f _ _ => by split <;> omega), ?_⟩
  have := sI_le (g := fun p => if 0 < N 16 (p + 1) then 1 else 0) (h := fun _ => 1) (n := 300) (fun f _ _ => by split <;> omega)
  rw [sI_const] at this
  exact this
theorem byt_bd {N : gMem} (hs : ∀ p, 1 ≤ p → p ≤ 300 → 0 ≤ N 16 p ∧ N 16 p ≤ 200) : 0 ≤ byt N ∧ byt N ≤ 60000 := by
  refine ⟨sI_nonneg (fun f h1 h2 => (hs (f + 1) (by omega) (by omega)).1), ?_⟩
  have := sI_le (g := fun p => N 16 (p + 1)) (h := fun _ => 200) (n := 300) (fun f h1 h2 => (hs (f + 1) (by omega) (by omega)).2)
  rw [sI_const] at this
  exact this
theorem sp_count9 {x1 : Int} {M N : gMem} {Q : Int → Prop} (r1 : rg x1) (hs : ∀ p, 1 ≤ p → p ≤ 300 → 0 ≤ N 16 p ∧ N 16 p ≤ 200) (h4 : I4 (M 38) (fun f => M (29 + f.toNat)) (N 20) (N 21) (N 22) (N 16))
    (h0 : x1 = 0 → Q (pcs N)) (h1 : x1 = 1 → Q (byt N)) (h2 : x1 = 2 → Q (nums N)) (h3 : x1 = 3 → Q (byt N + N 0 14 * pcs N + N 0 15 * nums N)) (h4' : x1 = 4 → Q (N 0 27)) (h5 : x1 = 5 → Q (kfls N)) (h6 : (x1 < 0 ∨ 5 < x1) → Q (-1)) : fX9_count x1 N Q := by
  have key2 : ∀ (K : Int → Int → Prop), K (nums N) (kfls N) → ∀ (n : Nat) (x3 x4 x5 : Int), 0 ≤ x5 → x5 ≤ 8 → 8 - x5 < n → x3 = sI (fun f => if N 20 f % 2 = 1 then N 21 f else 0) x5.toNat → x4 = sI (fun f => if N 20 f % 2 = 1 then 1 else 0) x5.toNat → fX9_count_L34 N n x3 x4 x5 K Q := by
    intro K hK n
    induction n with
    | zero => intro x3 x4 x5 h1 h2 h3; omega
    | succ n ih =>
      intro x3 x4 x5 g1 g2 g3 g4 g5
      refine ⟨⟨by omega, by omega⟩, fun hlt => ?_, fun hge => ?_⟩
      · refine ⟨⟨g1, hlt⟩, ⟨by omega, by omega⟩, fun k => ?_, fun k => ⟨⟨g1, hlt⟩, ?_⟩⟩
        · exact ih _ _ _ (by omega) (by omega) (by omega) (by rw [sI_step _ g1, g4, if_neg (by omega)]; omega) (by rw [sI_step _ g1, g5, if_neg (by omega)]; omega)
        · exact ih _ _ _ (by omega) (by omega) (by omega) (by rw [sI_step _ g1, g4, if_pos (by omega)]) (by rw [sI_step _ g1, g5, if_pos (by omega)])
      · have : x5 = 8 := by omega
        subst this
        rw [g4, g5]
        exact hK
  have key1 : ∀ (K : Int → Prop), K (byt N) → ∀ (n : Nat) (x2 x3 : Int), 1 ≤ x3 → x3 ≤ 301 → 301 - x3 < n → x2 = sI (fun p => N 16 (p + 1)) (x3 - 1).toNat → fX9_count_L4 N n x2 x3 K Q := by
    intro K hK n
    induction n with
    | zero => intro x2 x3 h1 h2 h3; omega
    | succ n ih =>
      intro x2 x3 g1 g2 g3 g4
      refine ⟨⟨by omega, by omega⟩, fun hge => ?_, fun hlt => ⟨⟨by omega, by omega⟩, ?_⟩⟩
      · have : x3 = 301 := by omega
        subst this
        rw [g4]
        exact hK
      · exact ih _ _ (by omega) (by omega) (by omega) (by rw [show x3 + 1 - 1 = (x3 - 1) + 1 by omega, sI_step _ (by omega), show x3 - 1 + 1 = x3 by omega, g4])
  refine ⟨301, key1 _ ⟨9, key2 _ ?_ 9 0 0 0 (by omega) (by omega) (by omega) rfl rfl⟩ 301 0 1 (by omega) (by omega) (by omega) rfl⟩
  exact ⟨r1, fun g => sp_there hs (h0 g), h1, h2, fun g => sp_there hs (h3 g), h4', h5, h6⟩
theorem sm_count {t : Nat} {M N : gMem} {x1 : Int} (hI : Inv t M N) (ht : t ≤ 511) (r1 : rg x1) {K : gMem → gMem → Prop} (hK : ∀ M1 N1, Inv (t + 1) M1 N1 → K M1 N1) :
    fX8_count x1 M (fun r1 => fX9_count x1 N (fun r2 => rg r1 ∧ r1 = r2 ∧ K M N)) := by
  have hKn := hK _ _ hI.next
  obtain ⟨-, -, -, ⟨d1, d2, d3, d4, d5, d6⟩, ⟨s1, -, ⟨s3, s3'⟩, s4, -⟩, ⟨g1, g2, g3⟩, -, -⟩ := hI
  have hs : ∀ p, 1 ≤ p → p ≤ 300 → 0 ≤ N 16 p ∧ N 16 p ≤ 200 := fun p a b => ⟨(s1 p a b).1, (s1 p a b).2.1⟩
  have b1 := nums_bd s4
  have b2 := kfls_bd N
  have b3 := pcs_bd N
  have b4 := byt_bd hs
  have e3 : M 22 9 = pcs N := s3
  have e4 : M 22 10 = byt N := s3'
  have m1 : N 0 14 * pcs N ≤ 100 * 300 := Int.mul_le_mul d4 b3.2 b3.1 (by decide)
  have m2 : N 0 15 * nums N ≤ 100 * 4800 := Int.mul_le_mul d6 b1.2 b1.1 (by decide)
  have m3 : 0 ≤ N 0 14 * pcs N := Int.mul_nonneg d3 b3.1
  have m4 : 0 ≤ N 0 15 * nums N := Int.mul_nonneg d5 b1.1
  have no : ∀ {P : Prop}, x1 = 0 → x1 ≠ 0 → P := fun a b => absurd a b
  refine ⟨r1, fun z => ?_, fun z => ?_, fun z => ?_, fun z => ?_, fun z => ?_, fun z => ?_, fun z => ?_⟩
  · exact sp_count9 r1 hs s4 (fun _ => ⟨⟨by omega, by omega⟩, e3, hKn⟩) (fun g => by omega) (fun g => by omega) (fun g => by omega) (fun g => by omega) (fun g => by omega) (fun g => by omega)
  · exact sp_count9 r1 hs s4 (fun g => by omega) (fun _ => ⟨⟨by omega, by omega⟩, e4, hKn⟩) (fun g => by omega) (fun g => by omega) (fun g => by omega) (fun g => by omega) (fun g => by omega)
  · refine sp_countNumbers s4 ?_
    exact sp_count9 r1 hs s4 (fun g => by omega) (fun g => by omega) (fun _ => ⟨⟨by omega, by omega⟩, rfl, hKn⟩) (fun g => by omega) (fun g => by omega) (fun g => by omega) (fun g => by omega)
  · refine sp_countNumbers s4 ?_
    show fX9_count x1 N _
    rw [e4, e3, d1, d2]
    exact sp_count9 r1 hs s4 (fun g => by omega) (fun g => by omega) (fun g => by omega) (fun _ => ⟨⟨by omega, by omega⟩, rfl, hKn⟩) (fun g => by omega) (fun g => by omega) (fun g => by omega)
  · exact sp_count9 r1 hs s4 (fun g => by omega) (fun g => by omega) (fun g => by omega) (fun g => by omega) (fun _ => ⟨⟨by omega, by omega⟩, g1, hKn⟩) (fun g => by omega) (fun g => by omega)
  · refine sp_countKeptFiles s4 ?_
    exact sp_count9 r1 hs s4 (fun g => by omega) (fun g => by omega) (fun g => by omega) (fun g => by omega) (fun g => by omega) (fun _ => ⟨⟨by omega, by omega⟩, rfl, hKn⟩) (fun g => by omega)
  · exact sp_count9 r1 hs s4 (fun g => by omega) (fun g => by omega) (fun g => by omega) (fun g => by omega) (fun g => by omega) (fun g => by omega) (fun _ => ⟨rg_m1, rfl, hKn⟩)
