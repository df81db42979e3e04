/-! the table of pairs -/
/-- where the search for a pair begins -/
def hm (c : Int) : Int := ushr (kk c * (-1640531535)) 19
def TP (M : gMem) (E : List Int) : Prop :=
  (0 ≤ M 41 3 ∧ M 41 3 ≤ 200000 ∧ ∀ j, 0 ≤ j → j < 8192 → 0 ≤ M 44 j ∧ M 44 j ≤ M 41 3) ∧
  (∀ j, 0 ≤ j → j < 8192 → M 44 j = M 41 3 → ∃ c, c ∈ E ∧ M 42 j = kk c ∧ M 43 j = cnt c E) ∧
  (∀ c, c ∈ E → ∃ d, 0 ≤ d ∧ d < 8192 ∧ M 44 ((hm c + d) % 8192) = M 41 3 ∧ M 42 ((hm c + d) % 8192) = kk c ∧ ∀ e, 0 ≤ e → e < d → M 44 ((hm c + e) % 8192) = M 41 3) ∧
  (sI (fun j => if M 44 j = M 41 3 then 1 else 0) 8192 ≤ E.length) ∧
  (∀ i j, 0 ≤ i → i < 8192 → 0 ≤ j → j < 8192 → M 44 i = M 41 3 → M 44 j = M 41 3 → M 42 i = M 42 j → i = j)
theorem TP_congr {M M2 : gMem} {E : List Int} (h : TP M E) (h1 : M2 41 3 = M 41 3) (h2 : M2 42 = M 42) (h3 : M2 43 = M 43) (h4 : M2 44 = M 44) : TP M2 E := by
  unfold TP
  rw [h1, h2, h3, h4]
  exact h
theorem TP_old {M : gMem} {E : List Int} {c j : Int} (hT : TP M E) (hc : cd c) (hE : ∀ d ∈ E, cd d) (j1 : 0 ≤ j) (j2 : j < 8192) (ho : M 44 j = M 41 3) (hk : M 42 j = kk c) : cnt c E = M 43 j ∧ TP (gSt M 43 j (M 43 j + 1)) (E ++ [c]) := by
  obtain ⟨t1, t2, t3, t4, t5⟩ := hT
  obtain ⟨c0, m0, e0, n0⟩ := t2 j j1 j2 ho
  have ec : c0 = c := kk_inj (hE c0 m0) hc (by rw [← e0, hk])
  subst ec
  refine ⟨n0.symm, ?_⟩
  have c41 : gSt M 43 j (M 43 j + 1) 41 = M 41 := gSt_ne _ _ _ _ _ (by decide)
  have c42 : gSt M 43 j (M 43 j + 1) 42 = M 42 := gSt_ne _ _ _ _ _ (by decide)
  have c44 : gSt M 43 j (M 43 j + 1) 44 = M 44 := gSt_ne _ _ _ _ _ (by decide)
  unfold TP
  rw [c41, c42, c44]
  refine ⟨t1, fun i i1 i2 i3 => ?_, fun d hd => ?_, ?_, t5⟩
  · obtain ⟨c', m', e', n'⟩ := t2 i i1 i2 i3
    refine ⟨c', List.mem_append_left _ m', e', ?_⟩
    rw [gSt_at, cnt_snoc]
    by_cases g : i = j
    · rw [if_pos g, n0]
      have : c0 = c' := kk_inj hc (hE c' m') (by rw [← e', g, e0])
      rw [if_pos this, this]
    · rw [if_neg g, n']
      have : ¬ c0 = c' := fun h => g (t5 i j i1 i2 j1 j2 i3 ho (by rw [e', e0, h]))
      rw [if_neg this]
      omega
  · rcases List.mem_append.mp hd with g | g
    · exact t3 d g
    · rw [List.mem_singleton.mp g]
      exact t3 c0 m0
  · rw [List.length_append, List.length_singleton]
    omega
theorem TP_new {M M2 : gMem} {E : List Int} {c x j : Int} (hT : TP M E) (hc : cd c) (hE : ∀ d ∈ E, cd d) (x1 : 0 ≤ x) (x2 : x < 8192) (hj : (hm c + x) % 8192 = j) (hb : ∀ e, 0 ≤ e → e < x → M 44 ((hm c + e) % 8192) = M 41 3 ∧ M 42 ((hm c + e) % 8192) ≠ kk c) (ho : ¬ M 44 j = M 41 3)
    (h41 : M2 41 = M 41) (h42 : ∀ i, M2 42 i = if i = j then kk c else M 42 i) (h43 : ∀ i, M2 43 i = if i = j then 1 else M 43 i) (h44 : ∀ i, M2 44 i = if i = j then M 41 3 else M 44 i) : cnt c E = 0 ∧ TP M2 (E ++ [c]) := by
  obtain ⟨t1, t2, t3, t4, t5⟩ := hT
  have jb : 0 ≤ j ∧ j < 8192 := by omega
  have fresh : ¬ c ∈ E := by
    intro h
    obtain ⟨d, d1, d2, d3, d4, d5⟩ := t3 c h
    rcases Int.lt_trichotomy d x with g | g | g
    · exact (hb d d1 g).2 d4
    · rw [g, hj] at d3; exact ho d3
    · have := d5 x x1 g
      rw [hj] at this
      exact ho this
  have hz := cnt_none fresh
  refine ⟨hz, ?_⟩
  unfold TP
  rw [h41]
  refine ⟨⟨t1.1, t1.2.1, fun i i1 i2 => ?_⟩, fun i i1 i2 i3 => ?_, fun d hd => ?_, ?_, fun i i' a1 a2 b1 b2 a3 b3 e => ?_⟩
  · rw [h44]
    split
    · omega
    · exact t1.2.2 i i1 i2
  · rw [h44] at i3
    by_cases g : i = j
    · refine ⟨c, List.mem_append_right _ List.mem_cons_self, ?_, ?_⟩
      · rw [h42, if_pos g]
      · rw [h43, if_pos g, cnt_snoc, hz, if_pos rfl]; rfl
    · rw [if_neg g] at i3
      obtain ⟨c', m', e', n'⟩ := t2 i i1 i2 i3
      refine ⟨c', List.mem_append_left _ m', ?_, ?_⟩
      · rw [h42, if_neg g]; exact e'
      · rw [h43, if_neg g, cnt_snoc, if_neg (fun h => fresh (by rw [h]; exact m')), n']; omega
  · rcases List.mem_append.mp hd with g | g
    · obtain ⟨e, d1, d2, d3, d4, d5⟩ := t3 d g
      have nj : ∀ i, M 44 i = M 41 3 → ¬ i = j := fun i h h' => ho (by rw [← h']; exact h)
      refine ⟨e, d1, d2, ?_, ?_, fun i i1 i2 => ?_⟩
      · rw [h44, if_neg (nj _ d3)]; exact d3
      · rw [h42, if_neg (nj _ d3)]; exact d4
      · rw [h44, if_neg (nj _ (d5 i i1 i2))]; exact d5 i i1 i2
    · rw [List.mem_singleton.mp g]
      refine ⟨x, x1, x2, ?_, ?_, fun i i1 i2 => ?_⟩
      · rw [h44, if_pos hj]
      · rw [h42, if_pos hj]
      · rw [h44]
        split
        · rfl
        · exact (hb i i1 i2).1
  · rw [List.length_append, List.length_singleton]
    rw [sI_upd (g := fun i => if M 44 i = M 41 3 then 1 else 0) (h := fun i => if M2 44 i = M 41 3 then 1 else 0) (a := j) jb.1 (by omega) (fun i hi => by rw [h44, if_neg hi])]
    rw [if_neg ho, h44, if_pos rfl, if_pos rfl]
    omega
  · rw [h44] at a3 b3
    rw [h42, h42] at e
    by_cases g : i = j
    · by_cases g' : i' = j
      · rw [g, g']
      · rw [if_neg g'] at b3 e
        rw [if_pos g] at e
        obtain ⟨c', m', e', -⟩ := t2 i' b1 b2 b3
        exact absurd (by rw [kk_inj hc (hE c' m') (by rw [e, e'])]; exact m') fresh
    · by_cases g' : i' = j
      · rw [if_neg g] at a3 e
        rw [if_pos g'] at e
        obtain ⟨c', m', e', -⟩ := t2 i a1 a2 a3
        exact absurd (by rw [kk_inj hc (hE c' m') (by rw [← e, e'])]; exact m') fresh
      · rw [if_neg g] at a3 e
        rw [if_neg g'] at b3 e
        exact t5 i i' a1 a2 b1 b2 a3 b3 e
theorem sp_once {M : gMem} {E : List Int} {c : Int} {Q : Int → gMem → Prop} (hT : TP M E) (hc : cd c) (hE : ∀ d ∈ E, cd d) (hl : E.length < 8192)
    (hQ : ∀ M2 : gMem, (∀ k, k ≠ 42 → k ≠ 43 → k ≠ 44 → M2 k = M k) → TP M2 (E ++ [c]) → Q (cnt c (E ++ [c])) M2) : fX3_countOnceMore (kk c) M Q := by
  obtain ⟨t1, t2, t3, t4, t5⟩ := id hT
  have hh : 0 ≤ hm c ∧ hm c < 8192 := ushr_19 _
  have rk : rg (kk c) := by have := kk_bd hc; exact ⟨by omega, by omega⟩
  have rr : rg (M 41 3) := ⟨by omega, by omega⟩
  show ∃ n_29, fX3_countOnceMore_L7 (kk c) (hm c) n_29 0 M (fun x4_23 M_24 =>
  ((0 ≤ x4_23 ∧ x4_23 < 8192) ∧ ((0 ≤ x4_23 ∧ x4_23 < 8192) ∧ ∀ M_27, M_27 = gSt M_24 43 x4_23 ((M_24 43 x4_23) + 1) → ((0 ≤ x4_23 ∧ x4_23 < 8192) ∧ Q (M_27 43 x4_23) M_27)))) Q
  refine ⟨8193, ?_⟩
  have key : ∀ (n : Nat) (x : Int), 0 ≤ x → x ≤ 8192 → 8192 - x < n → (∀ e, 0 ≤ e → e < x → M 44 ((hm c + e) % 8192) = M 41 3 ∧ M 42 ((hm c + e) % 8192) ≠ kk c) → fX3_countOnceMore_L7 (kk c) (hm c) n x M (fun x4_23 M_24 =>
  ((0 ≤ x4_23 ∧ x4_23 < 8192) ∧ ((0 ≤ x4_23 ∧ x4_23 < 8192) ∧ ∀ M_27, M_27 = gSt M_24 43 x4_23 ((M_24 43 x4_23) + 1) → ((0 ≤ x4_23 ∧ x4_23 < 8192) ∧ Q (M_27 43 x4_23) M_27)))) Q := by
    intro n
    induction n with
    | zero => intro x g1 g2 g3; omega
    | succ n ih =>
      intro x g1 g2 g3 g4
      rw [fX3_countOnceMore_L7, band_8191]
      generalize hj : (hm c + x) % 8192 = j
      have hjb : 0 ≤ j ∧ j < 8192 := by omega
      have hrj := t1.2.2 j hjb.1 hjb.2
      refine ⟨⟨by omega, by omega⟩, fun hlt => ⟨hjb, ⟨by omega, by omega⟩, rr, fun ho => ⟨hjb, ?_, rk, fun he => ?_, fun hne => ?_⟩, fun ho => ⟨hjb, fun M1 m1 => ⟨hjb, fun M2 m2 => ⟨hjb, fun M3 m3 => ?_⟩⟩⟩⟩, fun hge => ?_⟩
      · obtain ⟨c0, m0, e0, n0⟩ := t2 j hjb.1 hjb.2 ho
        rw [e0]
        have := kk_bd (hE c0 m0)
        exact ⟨by omega, by omega⟩
      · refine ⟨hjb, hjb, fun M4 m4 => ⟨hjb, ?_⟩⟩
        obtain ⟨o1, o2⟩ := TP_old hT hc hE hjb.1 hjb.2 ho he
        rw [← m4] at o2
        have e : M4 43 j = cnt c (E ++ [c]) := by rw [m4, gSt_eq, cnt_snoc, if_pos rfl, o1]
        rw [e]
        exact hQ M4 (fun k h1 h2 h3 => by rw [m4, gSt_ne _ _ _ _ _ h2]) o2
      · refine ih (x + 1) (by omega) (by omega) (by omega) (fun e e1 e2 => ?_)
        by_cases q : e = x
        · rw [q, hj]; exact ⟨ho, hne⟩
        · exact g4 e e1 (by omega)
      · have e42 : M3 42 j = kk c := by rw [m3, gSt_ne _ _ _ _ _ (by decide), m2, gSt_eq]
        rw [e42]
        refine ⟨hjb, rk, rk, fun _ => ?_, fun g => absurd rfl g⟩
        refine ⟨hjb, hjb, fun M4 m4 => ⟨hjb, ?_⟩⟩
        have e43 : M3 43 j = 0 := by rw [m3, gSt_eq]
        rw [e43] at m4
        obtain ⟨o1, o2⟩ := TP_new (M2 := M4) hT hc hE g1 hlt hj g4 ho (by rw [m4, gSt_ne _ _ _ _ _ (by decide), m3, gSt_ne _ _ _ _ _ (by decide), m2, gSt_ne _ _ _ _ _ (by decide), m1, gSt_ne _ _ _ _ _ (by decide)])
          (fun i => by rw [m4, gSt_ne _ _ _ _ _ (by decide), m3, gSt_ne _ _ _ _ _ (by decide), m2, gSt_at, m1, gSt_ne _ _ _ _ 42 (by decide)])
          (fun i => by
            rw [m4, gSt_at]
            by_cases q : i = j
            · rw [if_pos q, if_pos q]; rfl
            · rw [if_neg q, if_neg q, m3, gSt_at, if_neg q, m2, gSt_ne _ _ _ _ _ (by decide), m1, gSt_ne _ _ _ _ _ (by decide)])
          (fun i => by rw [m4, gSt_ne _ _ _ _ _ (by decide), m3, gSt_ne _ _ _ _ _ (by decide), m2, gSt_ne _ _ _ _ _ (by decide), m1, gSt_at])
        have e : M4 43 j = cnt c (E ++ [c]) := by rw [m4, gSt_eq, cnt_snoc, if_pos rfl, o1]
        rw [e]
        exact hQ M4 (fun k h1 h2 h3 => by rw [m4, gSt_ne _ _ _ _ _ h2, m3, gSt_ne _ _ _ _ _ h2, m2, gSt_ne _ _ _ _ _ h1, m1, gSt_ne _ _ _ _ _ h3]) o2
      · exfalso
        have : sI (fun j => if M 44 j = M 41 3 then 1 else 0) 8192 = sI (fun _ => 1) 8192 := sI_congr (fun i i1 i2 => by
          have := (g4 ((i - hm c) % 8192) (by omega) (by omega)).1
          rw [show (hm c + (i - hm c) % 8192) % 8192 = i by omega] at this
          rw [if_pos this])
        rw [sI_const] at this
        omega
  exact key 8193 0 (by omega) (by omega) (by omega) (fun e e1 e2 => by omega)
/-- the pair that came most often so far -/
def BT (M : gMem) (E : List Int) : Prop := (E = [] ∧ M 41 5 = 0) ∨ (∃ c, c ∈ E ∧ M 41 5 = cnt c E ∧ M 41 4 = kk c ∧ M 41 6 = tld (c / 512) ∧ M 41 7 = tld (c % 512) ∧ ∀ d ∈ E, cnt d E < cnt c E ∨ (cnt d E = cnt c E ∧ c ≤ d))
theorem shl_11 (a : Int) : shl a 11 = 2048 * a := by
  show a * 2048 = 2048 * a
  omega
theorem sp_addPair {M : gMem} {E : List Int} {x y : Int} {Q : gMem → Prop} (hT : TP M E) (hB : BT M E) (hx : 1 ≤ x ∧ x ≤ 500) (hy : 1 ≤ y ∧ y ≤ 500) (hE : ∀ d ∈ E, cd d) (hl : E.length < 8192)
    (hQ : ∀ M2 : gMem, (∀ k, k ≠ 41 → k ≠ 42 → k ≠ 43 → k ≠ 44 → M2 k = M k) → M2 41 3 = M 41 3 → TP M2 (E ++ [512 * x + y]) → BT M2 (E ++ [512 * x + y]) → Q M2) : fX3_addPair (tld x) (tld y) M Q := by
  have hc : cd (512 * x + y) := cd_of hx.1 hx.2 hy.1 hy.2
  have ek : shl (tld x) 11 + tld y = kk (512 * x + y) := by rw [shl_11, kk_pair (by omega) (by omega)]
  have q1' : (512 * x + y) / 512 = x := by omega
  have q2' : (512 * x + y) % 512 = y := by omega
  unfold fX3_addPair
  rw [ek]
  generalize hcc : 512 * x + y = c at *
  refine sp_once hT hc hE hl (fun M2 f1 o1 => ?_)
  have c41 : M2 41 = M 41 := f1 41 (by decide) (by decide) (by decide)
  have rk : rg (kk c) := by have := kk_bd hc; exact ⟨by omega, by omega⟩
  have hn := cnt_bd c (E ++ [c])
  have hn1 : 0 < cnt c (E ++ [c]) := cnt_pos (List.mem_append_right _ List.mem_cons_self)
  rw [List.length_append, List.length_singleton] at hn
  have rn : rg (cnt c (E ++ [c])) := ⟨by omega, by omega⟩
  have snc : ∀ d, ¬ d = c → cnt d (E ++ [c]) = cnt d E := fun d hd => by rw [cnt_snoc, if_neg (fun h => hd h.symm)]; omega
  have sme : cnt c (E ++ [c]) = cnt c E + 1 := by rw [cnt_snoc, if_pos rfl]
  have smem : ∀ d, d ∈ E ++ [c] → d = c ∨ d ∈ E := fun d hd => by
    rcases List.mem_append.mp hd with g | g
    · exact Or.inr g
    · exact Or.inl (List.mem_singleton.mp g)
  have rm : rg (M2 41 5) := by
    rw [c41]
    rcases hB with ⟨-, e⟩ | ⟨c0, m0, e, -⟩
    · rw [e]; exact rg_0
    · have := cnt_bd c0 E
      exact ⟨by omega, by omega⟩
  -- the new pair is the first one now
  have upd : (∀ d, d ∈ E → ¬ d = c → cnt d E < cnt c (E ++ [c]) ∨ (cnt d E = cnt c (E ++ [c]) ∧ c ≤ d)) → ∀ M_6, M_6 = gSt M2 41 5 (cnt c (E ++ [c])) → (∀ M_7, M_7 = gSt M_6 41 4 (kk c) → (∀ M_8, M_8 = gSt M_7 41 6 (tld x) → (∀ M_9, M_9 = gSt M_8 41 7 (tld y) → Q M_9))) := by
    intro hd M6 e6 M7 e7 M8 e8 M9 e9
    have e41 : ∀ i, M9 41 i = if i = 7 then tld y else if i = 6 then tld x else if i = 4 then kk c else if i = 5 then cnt c (E ++ [c]) else M 41 i := fun i => by
      rw [e9, gSt_at, e8, gSt_at, e7, gSt_at, e6, gSt_at, c41]
    have eo : ∀ k, k ≠ 41 → M9 k = M2 k := fun k hk => by rw [e9, gSt_ne _ _ _ _ _ hk, e8, gSt_ne _ _ _ _ _ hk, e7, gSt_ne _ _ _ _ _ hk, e6, gSt_ne _ _ _ _ _ hk]
    have e3 : M9 41 3 = M 41 3 := by rw [e41, if_neg (by decide), if_neg (by decide), if_neg (by decide), if_neg (by decide)]
    refine hQ M9 (fun k h1 h2 h3 h4 => by rw [eo k h1, f1 k h2 h3 h4]) e3 (TP_congr o1 (by rw [e3, c41]) (eo _ (by decide)) (eo _ (by decide)) (eo _ (by decide))) (Or.inr ⟨c, List.mem_append_right _ List.mem_cons_self, ?_, ?_, ?_, ?_, fun d hd' => ?_⟩)
    · rw [e41, if_neg (by decide), if_neg (by decide), if_neg (by decide), if_pos rfl]
    · rw [e41, if_neg (by decide), if_neg (by decide), if_pos rfl]
    · rw [e41, if_neg (by decide), if_pos rfl, q1']
    · rw [e41, if_pos rfl, q2']
    · by_cases g : d = c
      · rw [g]; exact Or.inr ⟨rfl, Int.le_refl _⟩
      · rw [snc d g]
        rcases smem d hd' with h | h
        · exact absurd h g
        · exact hd d h g
  -- it isn't
  have kp : ∀ c0, c0 ∈ E → M 41 5 = cnt c0 E → M 41 4 = kk c0 → M 41 6 = tld (c0 / 512) → M 41 7 = tld (c0 % 512) → (∀ d ∈ E, cnt d E < cnt c0 E ∨ (cnt d E = cnt c0 E ∧ c0 ≤ d)) → (cnt c (E ++ [c]) < cnt c0 E ∨ (cnt c (E ++ [c]) = cnt c0 E ∧ c0 ≤ c)) → Q M2 := by
    intro c0 m0 b1 b2 b3 b4 b5 b6
    have ne : ¬ c0 = c := fun h => by rw [h] at b6; omega
    refine hQ M2 (fun k h1 h2 h3 h4 => f1 k h2 h3 h4) (by rw [c41]) o1 (Or.inr ⟨c0, List.mem_append_left _ m0, ?_, ?_, ?_, ?_, fun d hd' => ?_⟩)
    · rw [c41, b1, snc c0 ne]
    · rw [c41, b2]
    · rw [c41, b3]
    · rw [c41, b4]
    · rw [snc c0 ne]
      by_cases g : d = c
      · rw [g]; exact b6
      · rw [snc d g]
        rcases smem d hd' with h | h
        · exact absurd h g
        · exact b5 d h
  refine ⟨rn, rm, fun hlt => upd (fun d hd hne => ?_), fun hge => ⟨rn, rm, fun heq => ?_, fun hne => ?_⟩⟩
  · rw [c41] at hlt
    rcases hB with ⟨e, -⟩ | ⟨c0, m0, b1, b2, b3, b4, b5⟩
    · rw [e] at hd; exact absurd hd List.not_mem_nil
    · have := b5 d hd; omega
  · rw [c41] at heq ⊢
    rcases hB with ⟨-, e⟩ | ⟨c0, m0, b1, b2, b3, b4, b5⟩
    · omega
    · rw [b2]
      have hc0 := hE c0 m0
      have rk0 : rg (kk c0) := by have := kk_bd hc0; exact ⟨by omega, by omega⟩
      refine ⟨rk, rk0, fun hlt => ?_, fun hnl => kp c0 m0 b1 b2 b3 b4 b5 (Or.inr ⟨by omega, ?_⟩)⟩
      · refine upd (fun d hd hne => ?_)
        have : c < c0 := by
          rcases Int.lt_trichotomy c c0 with g | g | g
          · exact g
          · rw [g] at hlt; omega
          · have := kk_lt hc0 hc g; omega
        have := b5 d hd
        omega
      · rcases Int.lt_trichotomy c c0 with g | g | g
        · have := kk_lt hc hc0 g; omega
        · omega
        · omega
  · rw [c41] at hne hge
    rcases hB with ⟨-, e⟩ | ⟨c0, m0, b1, b2, b3, b4, b5⟩
    · omega
    · exact kp c0 m0 b1 b2 b3 b4 b5 (Or.inl (by omega))
