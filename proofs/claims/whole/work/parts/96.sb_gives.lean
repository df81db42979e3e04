/-! the reference: the new number takes the pair's place -/
def rpo (c nw : Int) : Option (List Int) → Option (List Int)
  | none => none
  | some l => some (rp c nw l)
theorem rpR_c (c nw : Int) (o : Option (List Int)) (r : List (Option (List Int))) : rpR c nw (o :: r) = rpo c nw o :: rpR c nw r := by cases o <;> rfl
theorem rowl_rpo (c nw : Int) (o : Option (List Int)) : rowl (rpo c nw o) = rp c nw (rowl o) := by cases o <;> rfl
theorem tmR_c (c : Int) (o : Option (List Int)) (r : List (Option (List Int))) : tmR c (o :: r) = tms c (rowl o) + tmR c r := by
  cases o
  · rw [tmR, rowl, tms]; omega
  · rfl
theorem hld_add {g g' : Int → Int} {o : List Int} {x v : Int} (h : hld g 0 o) (hx : x = o.length) (h1 : g' x = v) (h2 : ∀ j, j ≠ x → g' j = g j) : hld g' 0 (o ++ [v]) := by
  rw [hld_app]
  refine ⟨hld_congr _ _ (fun j a b => h2 j (by omega)) h, ?_⟩
  rw [show (0 : Int) + (o.length : Int) = x by omega]
  exact ⟨h1, trivial⟩
theorem sp_givL {c nw x6 x7 : Int} {K : Int → Int → gMem → Prop} {Q : Int → gMem → Prop} (hc : cd c) (h7 : x7 ≤ 4800) : ∀ (n : Nat) (l o : List Int) (x3 x4 x8 : Int) (M : gMem), l.length < n → hld (M 24) 0 o → hld (M 24) x8 l → (∀ v ∈ l, 1 ≤ v ∧ v ≤ 500) → x4 = o.length → x4 ≤ x8 → x7 = x8 + l.length →
    (∀ M2 : gMem, (∀ k, k ≠ 24 → M2 k = M k) → (∀ j, x7 ≤ j → M2 24 j = M 24 j) → hld (M2 24) 0 (o ++ rp c nw l) → K (x3 + tms c l) (x4 + (rp c nw l).length) M2) → fX9_gives_L31 c nw x6 x7 n x3 x4 x8 M K Q := by
  intro n
  have hcb := cd_bd hc
  induction n with
  | zero => intro l o x3 x4 x8 M h; omega
  | succ n ih =>
    intro l o x3 x4 x8 M hn ho hh hv h4 h48 hlen hK
    rcases l with - | ⟨x, l⟩
    · rw [List.length_nil] at hlen
      refine ⟨⟨by omega, by omega⟩, ⟨by omega, by omega⟩, fun g => by omega, fun _ => ?_⟩
      have := hK M (fun k _ => rfl) (fun j _ => rfl) (by rw [rp, List.append_nil]; exact ho)
      rw [rp, tms, List.length_nil] at this
      rw [show x4 = x4 + ((0 : Nat) : Int) by omega, show x3 = x3 + 0 by omega]
      exact this
    · obtain ⟨a1, a2⟩ := hh
      have hx := hv x List.mem_cons_self
      have hv' : ∀ v ∈ l, 1 ≤ v ∧ v ≤ 500 := fun v h => hv v (List.mem_cons_of_mem _ h)
      rw [List.length_cons] at hlen hn
      have stay : rp c nw (x :: l) = x :: rp c nw l → tms c (x :: l) = tms c l → fX9_gives_J75 c nw x6 x7 x3 x4 x8 0 M (fun x3_36 x4_37 x8_38 M_39 => fX9_gives_L31 c nw x6 x7 n x3_36 x4_37 x8_38 M_39 K Q) Q := by
        intro er et
        refine ⟨rg_0, fun _ => ⟨by omega, ⟨by omega, fun M1 m1 => ⟨rg_0, fun _ => ⟨rg_0, fun _ => ?_, fun g => absurd rfl g⟩, fun g => absurd rfl g⟩⟩⟩, fun g => absurd rfl g⟩
        have eo : ∀ k, k ≠ 24 → M1 k = M k := fun k hk => by rw [m1, gSt_ne _ _ _ _ _ hk]
        have e24 : ∀ j, j ≠ x4 → M1 24 j = M 24 j := fun j hj => by rw [m1, gSt_at, if_neg hj]
        refine ih l (o ++ [x]) x3 (x4 + 1) (x8 + 1) M1 (by omega) (hld_add ho h4 (by rw [m1, gSt_eq]; exact a1) e24) (hld_congr _ _ (fun j b1 b2 => e24 j (by omega)) a2) hv' (by rw [List.length_append, List.length_singleton]; omega) (by omega) (by omega) (fun M2 f1 f2 f3 => ?_)
        have := hK M2 (fun k hk => by rw [f1 k hk, eo k hk]) (fun j hj => by rw [f2 j hj, e24 j (by omega)]) (by rw [er]; rw [List.append_assoc] at f3; exact f3)
        rw [er, et, List.length_cons] at this
        rw [show x4 + 1 + ((rp c nw l).length : Int) = x4 + (((rp c nw l).length + 1 : Nat) : Int) by omega]
        exact this
      rw [fX9_gives_L31]
      refine ⟨⟨by omega, by omega⟩, ⟨by omega, by omega⟩, fun _ => ⟨⟨by omega, by omega⟩, ⟨by omega, by omega⟩, fun hlt => ⟨by omega, by omega, ?_⟩, fun hge => ?_⟩, fun g => by omega⟩
      · rcases l with - | ⟨y, r⟩
        · rw [List.length_nil] at hlen; omega
        · obtain ⟨b1, b2⟩ := a2
          have hy := hv' y List.mem_cons_self
          rw [List.length_cons] at hlen hn
          rw [show M 24 x8 = x from a1, show M 24 (x8 + 1) = y from b1]
          refine ⟨⟨by omega, by omega⟩, ⟨by omega, by omega⟩, fun ec => ?_, fun ec => stay (by rw [rp, if_neg ec]) (by rw [tms, if_neg ec])⟩
          refine ⟨rg_1, fun g => absurd g (by decide), fun _ => ⟨by omega, fun M1 m1 => ⟨rg_1, fun g => absurd g (by decide), fun _ => ⟨rg_1, fun g => absurd g (by decide), fun _ => ?_⟩⟩⟩⟩
          have eo : ∀ k, k ≠ 24 → M1 k = M k := fun k hk => by rw [m1, gSt_ne _ _ _ _ _ hk]
          have e24 : ∀ j, j ≠ x4 → M1 24 j = M 24 j := fun j hj => by rw [m1, gSt_at, if_neg hj]
          have er : rp c nw (x :: y :: r) = nw :: rp c nw r := by rw [rp, if_pos ec]
          have et : tms c (x :: y :: r) = tms c r + 1 := by rw [tms, if_pos ec]
          refine ih r (o ++ [nw]) (x3 + 1) (x4 + 1) (x8 + 2) M1 (by omega) (hld_add ho h4 (by rw [m1, gSt_eq]) e24) (hld_congr _ _ (fun j c1 c2 => e24 j (by omega)) (by rw [show x8 + 2 = x8 + 1 + 1 by omega]; exact b2)) (fun v h => hv' v (List.mem_cons_of_mem _ h)) (by rw [List.length_append, List.length_singleton]; omega) (by omega) (by omega) (fun M2 f1 f2 f3 => ?_)
          have := hK M2 (fun k hk => by rw [f1 k hk, eo k hk]) (fun j hj => by rw [f2 j hj, e24 j (by omega)]) (by rw [er]; rw [List.append_assoc] at f3; exact f3)
          rw [er, et, List.length_cons] at this
          rw [show x4 + 1 + ((rp c nw r).length : Int) = x4 + (((rp c nw r).length + 1 : Nat) : Int) by omega, show x3 + 1 + tms c r = x3 + (tms c r + 1) by omega]
          exact this
      · rcases l with - | ⟨y, r⟩
        · exact stay rfl rfl
        · rw [List.length_cons] at hlen; omega
theorem sp_givR {c nw : Int} {Q : Int → gMem → Prop} (hc : cd c) : ∀ (n : Nat) (R D : List (Option (List Int))) (x3 x4 s f : Int) (M : gMem), R.length < n → f = D.length → f + R.length = 8 → hld (M 24) 0 (flt D) → hnd (M 25) 0 0 D → x4 = (flt D).length → x4 ≤ s → hld (M 24) s (flt R) → hnd (M 25) f s R → okR 500 R → s + tot R ≤ 4800 →
    (∀ M2 : gMem, (∀ k, k ≠ 24 → k ≠ 25 → M2 k = M k) → hld (M2 24) 0 (flt (D ++ rpR c nw R)) → hnd (M2 25) 0 0 (D ++ rpR c nw R) → Q (x3 + tmR c R) M2) → fX9_gives_L11 c nw n x3 x4 s f M Q := by
  intro n
  induction n with
  | zero => intro R D x3 x4 s f M h; omega
  | succ n ih =>
    intro R D x3 x4 s f M hn hD hf ho hdo h4 h4s hh he hok hm hQ
    rcases R with - | ⟨o, r⟩
    · rw [List.length_nil] at hf
      refine ⟨⟨by omega, by omega⟩, fun g => by omega, fun _ => ?_⟩
      have := hQ M (fun k _ _ => rfl) (by rw [rpR, List.append_nil]; exact ho) (by rw [rpR, List.append_nil]; exact hdo)
      rw [tmR, Int.add_zero] at this
      exact this
    · obtain ⟨e1, e2⟩ := he
      obtain ⟨o1, o2⟩ := okR_c hok
      rw [flt, hld_app] at hh
      rw [tot_c] at hm
      rw [List.length_cons] at hf hn
      have ht := (lin_len r).2.1
      refine ⟨⟨by omega, by omega⟩, fun _ => ⟨by omega, (rowl o).length + 1, ?_⟩, fun g => by omega⟩
      refine sp_givL hc (by omega) _ (rowl o) (flt D) x3 x4 s M (by omega) ho hh.1 o1 h4 h4s e1 (fun M2 f1 f2 f3 => ⟨by omega, fun M3 m3 => ?_⟩)
      have e3 : ∀ k, k ≠ 25 → M3 k = M2 k := fun k hk => by rw [m3, gSt_ne _ _ _ _ _ hk]
      have e25 : ∀ j, M3 25 j = if j = f then x4 + ((rp c nw (rowl o)).length : Int) else M 25 j := fun j => by rw [m3, gSt_at, f1 25 (by decide)]
      have e24 : M3 24 = M2 24 := e3 24 (by decide)
      have hrl := rp_len (c := c) (nw := nw) (rowl o)
      have fD : flt (D ++ [rpo c nw o]) = flt D ++ rp c nw (rowl o) := by rw [flt_app, flt, flt, rowl_rpo, List.append_nil]
      have hDD : D ++ [rpo c nw o] ++ rpR c nw r = D ++ rpR c nw (o :: r) := by rw [rpR_c, List.append_assoc]; rfl
      refine ih r (D ++ [rpo c nw o]) _ _ (M 25 f) (f + 1) M3 (by omega) (by rw [List.length_append, List.length_singleton]; omega) (by omega) ?_ ?_ ?_ (by omega) ?_ ?_ o2 (by omega) (fun M4 g1 g2 g3 => ?_)
      · rw [fD, e24]; exact f3
      · rw [hnd_app]
        refine ⟨hnd_congr _ _ _ (fun j j1 j2 => by rw [e25, if_neg (by omega)]) hdo, ?_, trivial⟩
        rw [e25, if_pos (by omega), rowl_rpo]
        omega
      · rw [fD, List.length_append]; omega
      · rw [e24]
        refine hld_congr _ _ (fun j j1 j2 => f2 j j1) ?_
        rw [e1]
        exact hh.2
      · rw [e1]
        exact hnd_congr _ _ _ (fun j j1 j2 => by rw [e25, if_neg (by omega)]) e2
      · rw [hDD] at g2 g3
        have := hQ M4 (fun k a b => by rw [g1 k a b, e3 k b, f1 k a]) g2 g3
        rw [tmR_c] at this
        rw [show x3 + tms c (rowl o) + tmR c r = x3 + (tms c (rowl o) + tmR c r) by omega]
        exact this
theorem sp_gives {R : List (Option (List Int))} {c nw : Int} {M : gMem} {Q : Int → gMem → Prop} (hc : cd c) (hl : R.length = 8) (hok : okR 500 R) (ht : tot R ≤ 4800) (hh : hld (M 24) 0 (flt R)) (he : hnd (M 25) 0 0 R)
    (hQ : ∀ M2 : gMem, (∀ k, k ≠ 24 → k ≠ 25 → M2 k = M k) → hld (M2 24) 0 (flt (rpR c nw R)) → hnd (M2 25) 0 0 (rpR c nw R) → Q (tmR c R) M2) : fX9_gives c nw M Q := by
  refine ⟨9, sp_givR hc 9 R [] 0 0 0 0 M (by omega) rfl (by omega) trivial trivial rfl (by omega) hh he hok (by omega) (fun M2 f1 f2 f3 => ?_)⟩
  rw [Int.zero_add]
  exact hQ M2 f1 f2 f3
