/-! putInPlace -/
theorem hld_put {g g' : Int → Int} {o : List Int} {x v : Int} (h : hld g 0 (o.map tld)) (hx : x = o.length) (h1 : g' x = tld v) (h2 : ∀ j, j ≠ x → g' j = g j) : hld g' 0 ((o ++ [v]).map tld) := by
  rw [List.map_append, hld_app]
  refine ⟨hld_congr _ _ (fun j a b => h2 j ?_) h, ?_⟩
  · rw [List.length_map] at b; omega
  · rw [List.length_map, show (0 : Int) + (o.length : Int) = x by omega]
    exact ⟨h1, trivial⟩
theorem sp_putL {c nw : Int} {K : Int → Int → gMem → Prop} {Q : Int → gMem → Prop} (hc : cd c) : ∀ (n : Nat) (l o : List Int) (x4 x5 x6 : Int) (M : gMem), l.length < n → hld (M 40) 0 (o.map tld) → hld (M 40) x6 (l.map tld) → (∀ v ∈ l, 0 ≤ v ∧ v ≤ 500) → x4 = o.length → x4 ≤ x6 → M 39 1 = x6 + l.length → M 39 1 ≤ 4808 →
    (∀ M2 : gMem, (∀ k, k ≠ 40 → M2 k = M k) → hld (M2 40) 0 ((o ++ rp c nw l).map tld) → K (x4 + (rp c nw l).length) (x5 + tms c l) M2) → fX6_putInPlace_L9 (tld (c / 512)) (tld (c % 512)) (tld nw) n x4 x5 x6 M K Q := by
  intro n
  have rb : rg (tld (c / 512)) ∧ rg (tld (c % 512)) := by
    have b1 := tld_bd (x := c / 512) (by have := hc.1; omega) hc.2.1
    have b2 := tld_bd (x := c % 512) (by have := hc.2.2.1; omega) hc.2.2.2
    exact ⟨⟨by omega, by omega⟩, ⟨by omega, by omega⟩⟩
  obtain ⟨ra, rbb⟩ := rb
  induction n with
  | zero => intro l o x4 x5 x6 M h; omega
  | succ n ih =>
    intro l o x4 x5 x6 M hn ho hh hv h4 h46 hlen hmx hK
    rcases l with - | ⟨x, l⟩
    · rw [List.length_nil] at hlen
      refine ⟨⟨by omega, by omega⟩, ⟨by omega, by omega⟩, fun g => by omega, fun _ => ?_⟩
      have := hK M (fun k _ => rfl) (by rw [rp, List.append_nil]; exact ho)
      rw [rp, tms, List.length_nil] at this
      rw [show x4 = x4 + ((0 : Nat) : Int) by omega, show x5 = x5 + 0 by omega]
      exact this
    · obtain ⟨a1, a2⟩ := hh
      have hx := hv x List.mem_cons_self
      have hv' : ∀ v ∈ l, 0 ≤ v ∧ v ≤ 500 := fun v h => hv v (List.mem_cons_of_mem _ h)
      have bx := tld_bd hx.1 hx.2
      rw [List.length_cons] at hlen hn
      have rx : rg (tld x) := ⟨by omega, by omega⟩
      -- the number stays
      have stay : rp c nw (x :: l) = x :: rp c nw l → tms c (x :: l) = tms c l → ((0 ≤ x6 ∧ x6 < 4808) ∧ ((0 ≤ x4 ∧ x4 < 4808) ∧ ∀ M_19, M_19 = gSt M 40 x4 (tld x) → fX6_putInPlace_L9 (tld (c / 512)) (tld (c % 512)) (tld nw) n (x4 + 1) x5 (x6 + 1) M_19 K Q)) := by
        intro er et
        refine ⟨by omega, by omega, fun M1 e1 => ?_⟩
        have eo : ∀ k, k ≠ 40 → M1 k = M k := fun k hk => by rw [e1, gSt_ne _ _ _ _ _ hk]
        have e40 : ∀ j, j ≠ x4 → M1 40 j = M 40 j := fun j hj => by rw [e1, gSt_at, if_neg hj]
        refine ih l (o ++ [x]) (x4 + 1) x5 (x6 + 1) M1 (by omega) (hld_put ho h4 (by rw [e1, gSt_eq]) e40) (hld_congr _ _ (fun j b1 b2 => e40 j (by omega)) a2) hv' (by rw [List.length_append, List.length_singleton]; omega) (by omega) (by rw [eo 39 (by decide)]; omega) (by rw [eo 39 (by decide)]; exact hmx) (fun M2 f1 f2 => ?_)
        have := hK M2 (fun k hk => by rw [f1 k hk, eo k hk]) (by rw [er]; rw [List.append_assoc] at f2; exact f2)
        rw [er, et, List.length_cons] at this
        rw [show x4 + 1 + ((rp c nw l).length : Int) = x4 + (((rp c nw l).length + 1 : Nat) : Int) by omega]
        exact this
      rw [fX6_putInPlace_L9, show M 40 x6 = tld x from a1]
      refine ⟨⟨by omega, by omega⟩, ⟨by omega, by omega⟩, fun _ => ⟨by omega, rx, ra, fun e1 => ⟨⟨by omega, by omega⟩, ⟨by omega, by omega⟩, fun hlt => ⟨by omega, ?_⟩, fun hge => ?_⟩, fun ne1 => ?_⟩, fun g => by omega⟩
      · rcases l with - | ⟨y, r⟩
        · rw [List.length_nil] at hlen; omega
        · obtain ⟨b1, b2⟩ := a2
          have hy := hv' y List.mem_cons_self
          have byy := tld_bd hy.1 hy.2
          rw [List.length_cons] at hlen hn
          rw [show M 40 (x6 + 1) = tld y from b1]
          refine ⟨⟨by omega, by omega⟩, rbb, fun e2 => ⟨by omega, fun M1 m1 => ?_⟩, fun ne2 => ?_⟩
          · have ec : 512 * x + y = c := by
              have := tld_inj e1
              have := tld_inj e2
              omega
            have eo : ∀ k, k ≠ 40 → M1 k = M k := fun k hk => by rw [m1, gSt_ne _ _ _ _ _ hk]
            have e40 : ∀ j, j ≠ x4 → M1 40 j = M 40 j := fun j hj => by rw [m1, gSt_at, if_neg hj]
            have er : rp c nw (x :: y :: r) = nw :: rp c nw r := by rw [rp, if_pos ec]
            have et : tms c (x :: y :: r) = tms c r + 1 := by rw [tms, if_pos ec]
            refine ih r (o ++ [nw]) (x4 + 1) (x5 + 1) (x6 + 1 + 1) M1 (by omega) (hld_put ho h4 (by rw [m1, gSt_eq]) e40) (hld_congr _ _ (fun j c1 c2 => e40 j (by omega)) b2) (fun v h => hv' v (List.mem_cons_of_mem _ h)) (by rw [List.length_append, List.length_singleton]; omega) (by omega) (by rw [eo 39 (by decide)]; omega) (by rw [eo 39 (by decide)]; exact hmx) (fun M2 f1 f2 => ?_)
            have := hK M2 (fun k hk => by rw [f1 k hk, eo k hk]) (by rw [er]; rw [List.append_assoc] at f2; exact f2)
            rw [er, et, List.length_cons] at this
            rw [show x4 + 1 + ((rp c nw r).length : Int) = x4 + (((rp c nw r).length + 1 : Nat) : Int) by omega, show x5 + 1 + tms c r = x5 + (tms c r + 1) by omega]
            exact this
          · have ec : ¬ 512 * x + y = c := fun h => ne2 (by rw [show y = c % 512 by omega])
            exact stay (by rw [rp, if_neg ec]) (by rw [tms, if_neg ec])
      · rcases l with - | ⟨y, r⟩
        · exact stay rfl rfl
        · rw [List.length_cons] at hlen; omega
      · rcases l with - | ⟨y, r⟩
        · exact stay rfl rfl
        · have hy := hv' y List.mem_cons_self
          have ec : ¬ 512 * x + y = c := fun h => ne1 (by rw [show x = c / 512 by omega])
          exact stay (by rw [rp, if_neg ec]) (by rw [tms, if_neg ec])
theorem sp_put {M : gMem} {c nw : Int} {l : List Int} {Q : Int → gMem → Prop} (hc : cd c) (hh : hld (M 40) 0 (l.map tld)) (hv : ∀ v ∈ l, 0 ≤ v ∧ v ≤ 500) (hlen : M 39 1 = l.length) (hmx : M 39 1 ≤ 4808)
    (hQ : ∀ M2 : gMem, (∀ k, k ≠ 39 → k ≠ 40 → M2 k = M k) → (∀ i, i ≠ 1 → M2 39 i = M 39 i) → M2 39 1 = (rp c nw l).length → hld (M2 40) 0 ((rp c nw l).map tld) → Q (tms c l) M2) : fX6_putInPlace (tld (c / 512)) (tld (c % 512)) (tld nw) M Q := by
  refine ⟨l.length + 1, sp_putL hc (l.length + 1) l [] 0 0 0 M (by omega) trivial hh hv rfl (by omega) (by omega) hmx (fun M2 f1 f2 M3 e3 => ?_)⟩
  rw [Int.zero_add] at e3
  rw [Int.zero_add]
  rw [List.nil_append] at f2
  have := hQ M3 (fun k a b => by rw [e3, gSt_ne _ _ _ _ _ a, f1 k b]) (fun i hi => by rw [e3, gSt_at, if_neg hi, f1 39 (by decide)]) (by rw [e3, gSt_eq]) (by rw [e3, gSt_ne _ _ _ _ _ (by decide)]; exact f2)
  exact this
