/-! countPairs -/
theorem sp_countL {Q : gMem → Prop} : ∀ (n : Nat) (l : List Int) (x1 x2 p : Int) (M : gMem) (E : List Int), l.length < n → hld (M 40) x2 (l.map tld) → (∀ v ∈ l, 0 ≤ v ∧ v ≤ 500) → 0 ≤ x2 → M 39 1 = x2 + l.length → M 39 1 ≤ 4808 → TP M E → BT M E → (∀ d ∈ E, cd d) → (E.length : Int) ≤ x2 →
    ((x1 = 1 ∧ p = -1) ∨ (x1 = 0 ∧ x2 = 0 ∧ p = -1) ∨ (x1 = 0 ∧ 0 < x2 ∧ ∃ u, 0 ≤ u ∧ u ≤ 500 ∧ M 40 (x2 - 1) = tld u ∧ ∀ x r, l = x :: r → p = 512 * u + x)) →
    (∀ M2 : gMem, (∀ k, k ≠ 41 → k ≠ 42 → k ≠ 43 → k ≠ 44 → M2 k = M k) → M2 41 3 = M 41 3 → TP M2 (E ++ evz p l) → BT M2 (E ++ evz p l) → Q M2) → fX6_countPairs_L11 n x1 x2 M Q := by
  intro n
  induction n with
  | zero => intro l x1 x2 p M E h; omega
  | succ n ih =>
    intro l x1 x2 p M E hn hh hv h0 hlen hmx hT hB hE hEl hp hQ
    have r1 : rg x1 := by rcases hp with h | h | h <;> exact ⟨by omega, by omega⟩
    rcases l with - | ⟨x, - | ⟨y, r⟩⟩
    · rw [List.length_nil] at hlen
      refine ⟨⟨by omega, by omega⟩, ⟨by omega, by omega⟩, fun g => by omega, fun _ => ?_⟩
      refine hQ M (fun k _ _ _ _ => rfl) rfl ?_ ?_
      · rw [evz, List.append_nil]; exact hT
      · rw [evz, List.append_nil]; exact hB
    · rw [List.length_singleton] at hlen
      refine ⟨⟨by omega, by omega⟩, ⟨by omega, by omega⟩, fun g => by omega, fun _ => ?_⟩
      refine hQ M (fun k _ _ _ _ => rfl) rfl ?_ ?_
      · rw [evz, List.append_nil]; exact hT
      · rw [evz, List.append_nil]; exact hB
    · obtain ⟨a1, a2, a3⟩ := hh
      have hx := hv x List.mem_cons_self
      have hy := hv y (List.mem_cons_of_mem _ List.mem_cons_self)
      have hv' : ∀ v ∈ y :: r, 0 ≤ v ∧ v ≤ 500 := fun v h => hv v (List.mem_cons_of_mem _ h)
      have bx := tld_bd hx.1 hx.2
      have byy := tld_bd hy.1 hy.2
      rw [List.length_cons, List.length_cons] at hlen
      rw [List.length_cons, List.length_cons] at hn
      have rx : rg (tld x) := ⟨by omega, by omega⟩
      have ry : rg (tld y) := ⟨by omega, by omega⟩
      have nov : ¬ 512 * x + y = p → fX6_countPairs_J69 x2 (tld x) (tld y) 0 M (fun x1_25 x2_26 M_27 => fX6_countPairs_L11 n x1_25 x2_26 M_27 Q) Q := by
        intro hne
        have skip : (x = 0 ∨ y = 0) → fX6_countPairs_L11 n 0 (x2 + 1) M Q := by
          intro hz
          refine ih (y :: r) 0 (x2 + 1) (512 * x + y) M E (by rw [List.length_cons]; omega) ⟨a2, a3⟩ hv' (by omega) (by rw [List.length_cons]; omega) hmx hT hB hE (by omega) (Or.inr (Or.inr ⟨rfl, by omega, x, hx.1, hx.2, ?_, fun x' r' e => ?_⟩)) (fun M2 f1 f2 f3 f4 => hQ M2 f1 f2 ?_ ?_)
          · rw [show x2 + 1 - 1 = x2 by omega]; exact a1
          · rw [(List.cons.inj e).1]
          · rw [evz, if_neg hne, if_pos hz]; exact f3
          · rw [evz, if_neg hne, if_pos hz]; exact f4
        refine ⟨rg_0, fun _ => ⟨rx, fun hz => skip (Or.inl ((tld_z hx.1).mp hz)), fun hnx => ⟨ry, fun hz => skip (Or.inr ((tld_z hy.1).mp hz)), fun hny => ?_⟩⟩, fun g => absurd rfl g⟩
        have nx : ¬ x = 0 := fun h => hnx ((tld_z hx.1).mpr h)
        have ny : ¬ y = 0 := fun h => hny ((tld_z hy.1).mpr h)
        refine sp_addPair hT hB (by omega) (by omega) hE (by omega) (fun M1 f1 f2 f3 f4 => ?_)
        have c40 : M1 40 = M 40 := f1 40 (by decide) (by decide) (by decide) (by decide)
        have c39 : M1 39 = M 39 := f1 39 (by decide) (by decide) (by decide) (by decide)
        refine ih (y :: r) 0 (x2 + 1) (512 * x + y) M1 (E ++ [512 * x + y]) (by rw [List.length_cons]; omega) (by rw [c40]; exact ⟨a2, a3⟩) hv' (by omega) (by rw [c39, List.length_cons]; omega) (by rw [c39]; exact hmx) f3 f4 (fun d hd => ?_) (by rw [List.length_append, List.length_singleton]; omega) (Or.inr (Or.inr ⟨rfl, by omega, x, hx.1, hx.2, ?_, fun x' r' e => ?_⟩)) (fun M2 g1 g2 g3 g4 => hQ M2 (fun k h1 h2 h3 h4 => by rw [g1 k h1 h2 h3 h4, f1 k h1 h2 h3 h4]) (by rw [g2, f2]) ?_ ?_)
        · rcases List.mem_append.mp hd with h | h
          · exact hE d h
          · rw [List.mem_singleton.mp h]; exact cd_of (by omega) (by omega) (by omega) (by omega)
        · rw [c40, show x2 + 1 - 1 = x2 by omega]; exact a1
        · rw [(List.cons.inj e).1]
        · rw [evz, if_neg hne, if_neg (by omega)]
          rw [List.append_assoc] at g3
          exact g3
        · rw [evz, if_neg hne, if_neg (by omega)]
          rw [List.append_assoc] at g4
          exact g4
      rw [fX6_countPairs_L11, show M 40 x2 = tld x from a1, show M 40 (x2 + 1) = tld y from a2]
      refine ⟨⟨by omega, by omega⟩, ⟨by omega, by omega⟩, fun _ => ⟨by omega, by omega, r1, fun z1 => ⟨⟨by omega, by omega⟩, fun hpos => ⟨by omega, ?_⟩, fun hz => nov ?_⟩, fun z1 => nov ?_⟩, fun g => by omega⟩
      · rcases hp with h | h | ⟨-, -, u, u1, u2, u3, u4⟩
        · omega
        · omega
        · have bu := tld_bd u1 u2
          have u5 := u4 x (y :: r) rfl
          rw [u3]
          refine ⟨⟨by omega, by omega⟩, rx, fun e1 => ⟨rx, ry, fun e2 => ?_, fun ne => nov ?_⟩, fun ne => nov ?_⟩
          · have eu := tld_inj e1
            have ey := tld_inj e2
            have epp : 512 * x + y = p := by omega
            refine ⟨rg_1, fun g => absurd g (by decide), fun _ => ?_⟩
            refine ih (y :: r) 1 (x2 + 1) (-1) M E (by rw [List.length_cons]; omega) ⟨a2, a3⟩ hv' (by omega) (by rw [List.length_cons]; omega) hmx hT hB hE (by omega) (Or.inl ⟨rfl, rfl⟩) (fun M2 f1 f2 f3 f4 => hQ M2 f1 f2 ?_ ?_)
            · rw [evz, if_pos epp]; exact f3
            · rw [evz, if_pos epp]; exact f4
          · intro h
            apply ne
            rw [show x = y by omega]
          · intro h
            apply ne
            rw [show u = x by omega]
      · rcases hp with h | h | h
        · omega
        · omega
        · omega
      · rcases hp with h | h | h
        · omega
        · omega
        · omega
theorem sp_countPairs {M : gMem} {l : List Int} {Q : gMem → Prop} (hh : hld (M 40) 0 (l.map tld)) (hv : ∀ v ∈ l, 0 ≤ v ∧ v ≤ 500) (hlen : M 39 1 = l.length) (hmx : M 39 1 ≤ 4808) (h1 : 0 ≤ M 41 3) (h2 : M 41 3 < 200000) (h3 : ∀ j, 0 ≤ j → j < 8192 → 0 ≤ M 44 j ∧ M 44 j ≤ M 41 3)
    (hQ : ∀ M2 : gMem, (∀ k, k ≠ 41 → k ≠ 42 → k ≠ 43 → k ≠ 44 → M2 k = M k) → M2 41 3 = M 41 3 + 1 → TP M2 (evz (-1) l) → BT M2 (evz (-1) l) → Q M2) : fX6_countPairs M Q := by
  intro M1 e1 M2 e2
  have e41 : ∀ i, M2 41 i = if i = 5 then 0 else if i = 3 then M 41 3 + 1 else M 41 i := fun i => by rw [e2, gSt_at, e1, gSt_at]
  have eo : ∀ k, k ≠ 41 → M2 k = M k := fun k hk => by rw [e2, gSt_ne _ _ _ _ _ hk, e1, gSt_ne _ _ _ _ _ hk]
  have e3 : M2 41 3 = M 41 3 + 1 := by rw [e41, if_neg (by decide), if_pos rfl]
  have nr : ∀ j, 0 ≤ j → j < 8192 → ¬ M2 44 j = M2 41 3 := fun j a b => by
    have := h3 j a b
    rw [e3, eo 44 (by decide)]
    omega
  have hT : TP M2 [] := by
    refine ⟨⟨by omega, by omega, fun j a b => ?_⟩, fun j a b c => absurd c (nr j a b), fun c hc => absurd hc List.not_mem_nil, ?_, fun i j a b c d e => absurd e (nr i a b)⟩
    · have := h3 j a b
      rw [e3, eo 44 (by decide)]
      omega
    · rw [sI_zero (fun i a b => by rw [if_neg (nr i a (by omega))])]
      exact Int.le_refl _
  have hB : BT M2 [] := Or.inl ⟨rfl, by rw [e41, if_pos rfl]⟩
  have c39 : M2 39 = M 39 := eo 39 (by decide)
  refine ⟨l.length + 1, sp_countL (l.length + 1) l 0 0 (-1) M2 [] (by omega) (by rw [eo 40 (by decide)]; exact hh) hv (by omega) (by rw [c39]; omega) (by rw [c39]; exact hmx) hT hB (fun d hd => absurd hd List.not_mem_nil) (by simp) (Or.inr (Or.inl ⟨rfl, rfl, rfl⟩)) (fun M3 f1 f2 f3 f4 => ?_)⟩
  rw [List.nil_append] at f3 f4
  exact hQ M3 (fun k a b c d => by rw [f1 k a b c d, eo k a]) (by rw [f2, e3]) f3 f4
/-- what the table says at the end is the most frequent pair -/
theorem BT_BS {M : gMem} {E : List Int} (h : BT M E) : rg (M 41 5) → (M 41 5 < 2 ∧ BS E (-1)) ∨ (2 ≤ M 41 5 ∧ ∃ c, BS E c ∧ c ∈ E ∧ M 41 6 = tld (c / 512) ∧ M 41 7 = tld (c % 512)) := by
  intro _
  rcases h with ⟨e, h⟩ | ⟨c, m, b1, b2, b3, b4, b5⟩
  · refine Or.inl ⟨by omega, Or.inl ⟨rfl, fun d hd => ?_⟩⟩
    rw [e] at hd
    exact absurd hd List.not_mem_nil
  · by_cases g : M 41 5 < 2
    · refine Or.inl ⟨g, Or.inl ⟨rfl, fun d hd => ?_⟩⟩
      have := b5 d hd
      omega
    · exact Or.inr ⟨by omega, c, Or.inr ⟨m, by omega, b5⟩, m, b3, b4⟩
theorem BT_rg {M : gMem} {E : List Int} (h : BT M E) (hl : E.length < 8192) : rg (M 41 5) := by
  rcases h with ⟨-, e⟩ | ⟨c, m, b1, -⟩
  · rw [e]; exact rg_0
  · have := cnt_bd c E
    exact ⟨by omega, by omega⟩
