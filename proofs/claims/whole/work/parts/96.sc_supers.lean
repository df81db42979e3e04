/-! the reference: supers -/
theorem sp_told {x : Int} {M : gMem} {Q : Int → Prop} (h0 : 0 ≤ x) (h1 : x ≤ 500) (hQ : Q (tld x)) : fX9_told_ x M Q := by
  unfold tld at hQ
  refine ⟨⟨by omega, by omega⟩, fun h => ?_, fun h => ?_⟩
  · rw [if_pos h] at hQ
    rw [show x + 1000 - 300 = x + 700 by omega]
    exact hQ
  · rw [if_neg h] at hQ
    exact hQ
theorem sp_rowL9 {f : Int} {km : Nat} {g : Int → Int} {K : Int → gMem → Prop} {Q : Int → gMem → Prop} (hf : 0 ≤ f ∧ f < 8) : ∀ (n : Nat) (x1 x3 : Int) (M : gMem), 0 ≤ x3 → x3 ≤ km → (km : Int) - x3 < n → M 20 f % 2 = 1 → M 21 f = km → km ≤ 600 → (∀ j, M 22 j = g j) → 0 ≤ x1 → x1 + (km - x3) ≤ 4800 →
    (∀ M2 : gMem, (∀ k, k ≠ 24 → M2 k = M k) → (∀ j, j < x1 ∨ x1 + (km - x3) ≤ j → M2 24 j = M 24 j) → (∀ j, x3 ≤ j → j < km → M2 24 (x1 + (j - x3)) = g (600 * f + j)) → K (x1 + (km - x3)) M2) → fX9_supers_L12 f n x1 x3 M K Q := by
  intro n
  induction n with
  | zero => intro x1 x3 M h1 h2 h3; omega
  | succ n ih =>
    intro x1 x3 M h1 h2 h3 k20 k21 k6 k22 hx1 hb hK
    refine ⟨hf, ⟨by omega, by omega⟩, fun g' => by omega, fun _ => ⟨hf, ⟨by omega, by omega⟩, ⟨by omega, by omega⟩, fun hlt => ⟨by omega, by omega, fun M1 m1 => ?_⟩, fun hge => ?_⟩⟩
    · have eo : ∀ k, k ≠ 24 → M1 k = M k := fun k hk => by rw [m1, gSt_ne _ _ _ _ _ hk]
      have e24 : ∀ j, M1 24 j = if j = x1 then g (600 * f + x3) else M 24 j := fun j => by rw [m1, gSt_at, k22]
      refine ih (x1 + 1) (x3 + 1) M1 (by omega) (by omega) (by omega) (by rw [eo 20 (by decide)]; exact k20) (by rw [eo 21 (by decide)]; exact k21) k6 (fun j => by rw [eo 22 (by decide)]; exact k22 j) (by omega) (by omega) (fun M2 f1 f2 f3 => ?_)
      have := hK M2 (fun k hk => by rw [f1 k hk, eo k hk]) (fun j hj => by rw [f2 j (by omega), e24, if_neg (by omega)]) (fun j j1 j2 => ?_)
      · rw [show x1 + 1 + ((km : Int) - (x3 + 1)) = x1 + (km - x3) by omega]
        exact this
      · by_cases q : j = x3
        · rw [f2 _ (by omega), e24, if_pos (by omega), q]
        · rw [show x1 + (j - x3) = x1 + 1 + (j - (x3 + 1)) by omega]
          exact f3 j (by omega) j2
    · have e : x3 = km := by omega
      subst e
      have := hK M (fun k _ => rfl) (fun j _ => rfl) (fun j j1 j2 => by omega)
      rw [show x1 + ((km : Int) - km) = x1 by omega] at this
      exact this
theorem sp_rows9 {t : Nat} {M N : gMem} (hI : Inv t M N) {K : gMem → Prop} {Q : Int → gMem → Prop} : ∀ (n f : Nat) (x1 : Int) (N' : gMem), f ≤ 8 → 8 - f < n → (∀ k, k ≠ 24 → k ≠ 25 → N' k = N k) → hld (N' 24) 0 (flt (rws N f)) → hnd (N' 25) 0 0 (rws N f) → x1 = (flt (rws N f)).length →
    (∀ N2 : gMem, (∀ k, k ≠ 24 → k ≠ 25 → N2 k = N k) → hld (N2 24) 0 (flt (rws N 8)) → hnd (N2 25) 0 0 (rws N 8) → K N2) → fX9_supers_L4 n x1 f N' K Q := by
  have h4 := hI.2.2.2.2.1.2.2.2.1
  intro n
  induction n with
  | zero => intro f x1 N' h1 h2; omega
  | succ n ih =>
    intro f x1 N' h1 h2 hF hh he hx hK
    refine ⟨⟨by omega, by omega⟩, fun hlt => ?_, fun hge => ?_⟩
    · have hb := rws_ok h4 f (by omega)
      have hfl := flt_len (rws N f)
      have hrl := rws_len N f
      have hn1 : ((f : Int) + 1) = ((f + 1 : Nat) : Int) := by omega
      have n20 : N' 20 = N 20 := hF 20 (by decide) (by decide)
      have n21 : N' 21 = N 21 := hF 21 (by decide) (by decide)
      have n22 : N' 22 = N 22 := hF 22 (by decide) (by decide)
      by_cases k : N 20 f % 2 = 1
      · obtain ⟨e1, e2, e3, e4, -⟩ := kept_of h4 (x := f) (by omega) (by omega) k
        have er : rws N (f + 1) = rws N f ++ [some (seg (N 22) (600 * f) (N 21 f).toNat)] := by rw [rws, rwN, if_pos k]
        have el : flt (rws N (f + 1)) = flt (rws N f) ++ seg (N 22) (600 * f) (N 21 f).toNat := by rw [er, flt_app, flt, flt, List.append_nil]; rfl
        have hkm : ((N 21 f).toNat : Int) = N 21 f := by omega
        refine ⟨(N 21 f).toNat + 1, ?_⟩
        refine sp_rowL9 (km := (N 21 f).toNat) (g := N 22) (by omega) _ x1 0 N' (by omega) (by omega) (by omega) (by rw [n20]; exact k) (by rw [n21]; omega) (by omega) (fun j => by rw [n22]) (by omega) (by omega) (fun M2 f1 f2 f3 => ⟨by omega, fun M3 m3 => ?_⟩)
        rw [hn1]
        have e25 : ∀ j, M3 25 j = if j = (f : Int) then x1 + (((N 21 f).toNat : Int) - 0) else N' 25 j := fun j => by rw [m3, gSt_at, f1 25 (by decide)]
        have e24 : M3 24 = M2 24 := by rw [m3, gSt_ne _ _ _ _ _ (by decide)]
        refine ih (f + 1) _ M3 (by omega) (by omega) (fun k a b => by rw [m3, gSt_ne _ _ _ _ _ b, f1 k a, hF k a b]) ?_ ?_ ?_ hK
        · rw [el, hld_app, e24]
          refine ⟨hld_congr _ _ (fun j j1 j2 => f2 j (Or.inl (by omega))) hh, hld_seg _ _ _ (fun j j1 j2 => ?_)⟩
          have := f3 j j1 j2
          rw [show x1 + (j - 0) = 0 + ((flt (rws N f)).length : Int) + j by omega] at this
          exact this
        · rw [er, hnd_app]
          refine ⟨hnd_congr _ _ _ (fun j j1 j2 => by rw [e25, if_neg (by omega)]) he, ?_, trivial⟩
          rw [e25, if_pos (by omega)]
          show _ = 0 + ((flt (rws N f)).length : Int) + ((seg (N 22) (600 * f) (N 21 f).toNat).length : Int)
          rw [seg_len]
          omega
        · rw [el, List.length_append, seg_len]; omega
      · have er : rws N (f + 1) = rws N f ++ [none] := by rw [rws, rwN, if_neg k]
        have el : flt (rws N (f + 1)) = flt (rws N f) := by rw [er, flt_app]; exact List.append_nil _
        refine ⟨1, ⟨by omega, ⟨by omega, by omega⟩, fun _ => ⟨by omega, fun M3 m3 => ?_⟩, fun g => absurd (by rw [n20]; omega) g⟩⟩
        rw [hn1]
        have e25 : ∀ j, M3 25 j = if j = (f : Int) then x1 else N' 25 j := fun j => by rw [m3, gSt_at]
        refine ih (f + 1) _ M3 (by omega) (by omega) (fun k a b => by rw [m3, gSt_ne _ _ _ _ _ b, hF k a b]) ?_ ?_ ?_ hK
        · rw [el, m3, gSt_ne _ _ _ _ _ (by decide)]; exact hh
        · rw [er, hnd_app]
          refine ⟨hnd_congr _ _ _ (fun j j1 j2 => by rw [e25, if_neg (by omega)]) he, ?_, trivial⟩
          rw [e25, if_pos (by omega)]
          show _ = 0 + ((flt (rws N f)).length : Int) + ((0 : Nat) : Int)
          omega
        · rw [el]; exact hx
    · have e : f = 8 := by omega
      subst e
      exact hK N' hF hh he
/-- the reference's memory after k new numbers -/
def RSU (N : gMem) (R : List (Option (List Int))) (k : Nat) : Prop :=
  hld (N 24) 0 (flt (RK R k)) ∧ hnd (N 25) 0 0 (RK R k) ∧ N 0 33 = k ∧ ∀ i : Nat, i < k → N 28 i = tld (CK R i / 512) ∧ N 29 i = tld (CK R i % 512) ∧ N 30 i = TK R i
theorem sp_sup9 {R : List (Option (List Int))} {K : gMem → Prop} {Q : Int → gMem → Prop} (hR : okR 300 R) (hl : R.length = 8) (htt : tot R ≤ 4800) : ∀ (n k : Nat) (N : gMem), k ≤ 200 → 201 - k < n → RSU N R k → (∀ i, i < k → cd (CK R i)) →
    (∀ (m : Nat) (N2 : gMem), FN R m → (∀ j, j ≠ 0 → j < 24 → N2 j = N j) → (∀ j, 31 ≤ j → N2 j = N j) → (∀ i, i ≠ 33 → N2 0 i = N 0 i) → RSU N2 R m → K N2) → fX9_supers_L78 n 1 N K Q := by
  intro n
  induction n with
  | zero => intro k N h1 h2; omega
  | succ n ih =>
    intro k N h1 h2 hC hne hK
    obtain ⟨c1, c2, c3, c4⟩ := id hC
    refine ⟨rg_1, fun g => absurd g (by decide), fun _ => ⟨⟨by omega, by omega⟩, fun hlt => ?_, fun hge => ?_⟩⟩
    · have hok := RK_ok hR k
      have hok5 : okR 500 (RK R k) := okR_le (by omega) hok
      have hlen : (RK R k).length = 8 := by rw [RK_len]; exact hl
      have hto := RK_tot R k
      refine sp_most hlen hok5 (by omega) c1 c2 (fun c N1 f1 f2 => ?_)
      have n0 : N1 0 = N 0 := f1 0 (by decide) (by decide)
      have ck : CK R k = c := bst_eq f2
      by_cases hc1 : c = -1
      · rw [hc1]
        refine ⟨rg_m1, fun _ => ⟨rg_0, fun _ => ?_, fun g => absurd rfl g⟩, fun g => absurd rfl g⟩
        obtain ⟨n', rfl⟩ : ∃ n', n = n' + 1 := ⟨n - 1, by omega⟩
        refine ⟨rg_0, fun _ => ?_, fun g => absurd rfl g⟩
        refine hK k N1 ⟨h1, hne, Or.inr (by rw [ck]; exact hc1)⟩ (fun j _ hj => f1 j (by omega) (by omega)) (fun j hj => f1 j (by omega) (by omega)) (fun i _ => by rw [n0]) ⟨?_, ?_, ?_, ?_⟩
        · rw [f1 24 (by decide) (by decide)]; exact c1
        · rw [f1 25 (by decide) (by decide)]; exact c2
        · rw [n0]; exact c3
        · rw [f1 28 (by decide) (by decide), f1 29 (by decide) (by decide), f1 30 (by decide) (by decide)]; exact c4
      · have hcd : cd c := CK_cd hR h1 f2 hc1
        have hcb := cd_bd hcd
        have rc : rg c := ⟨by omega, by omega⟩
        have kb : 0 ≤ (k : Int) ∧ (k : Int) < 200 := by omega
        have td : Int.tdiv c 512 = c / 512 := Int.tdiv_eq_ediv_of_nonneg (by omega)
        have tmo : Int.tmod c 512 = c % 512 := Int.tmod_eq_emod_of_nonneg (by omega)
        refine ⟨rc, fun g => absurd g hc1, fun _ => ⟨rg_1, fun g => absurd g (by decide), fun _ => ⟨rc, ?_⟩⟩⟩
        unfold cd at hcd
        rw [td, tmo]
        refine sp_told (by omega) (by omega) ?_
        rw [n0, c3]
        refine ⟨kb, fun N2 m2 => ⟨rc, sp_told (by omega) (by omega) ?_⟩⟩
        have e2 : N2 0 33 = k := by rw [m2, gSt_ne _ _ _ _ _ (by decide), n0, c3]
        rw [e2]
        refine ⟨kb, fun N3 m3 => ?_⟩
        have e3 : N3 0 33 = k := by rw [m3, gSt_ne _ _ _ _ _ (by decide), e2]
        rw [e3]
        have eo3 : ∀ j, j ≠ 28 → j ≠ 29 → N3 j = N1 j := fun j a b => by rw [m3, gSt_ne _ _ _ _ _ b, m2, gSt_ne _ _ _ _ _ a]
        have hRK : rpR c (301 + k) (RK R k) = RK R (k + 1) := by rw [RK, show bst (evs (RK R k)) = c from ck]
        refine sp_gives (R := RK R k) (c := c) (nw := 301 + k) hcd hlen hok5 (by omega) (by rw [eo3 24 (by decide) (by decide), f1 24 (by decide) (by decide)]; exact c1) (by rw [eo3 25 (by decide) (by decide), f1 25 (by decide) (by decide)]; exact c2) (fun N4 g1 g2 g3 => ⟨kb, fun N5 m5 N6 m6 => ?_⟩)
        rw [hRK] at g2 g3
        have hTK : tmR c (RK R k) = TK R k := by rw [TK, ck]
        rw [hTK] at m5
        have q0 : N4 0 = N 0 := by rw [g1 0 (by decide) (by decide), eo3 0 (by decide) (by decide), n0]
        have e0 : ∀ i, N6 0 i = if i = 33 then (k : Int) + 1 else N 0 i := fun i => by
          rw [m6, gSt_at, m5, gSt_ne _ _ _ _ 0 (by decide), q0, c3]
        have eo : ∀ j, j ≠ 0 → j ≠ 30 → j ≠ 24 → j ≠ 25 → N6 j = N3 j := fun j a b d e => by rw [m6, gSt_ne _ _ _ _ _ a, m5, gSt_ne _ _ _ _ _ b, g1 j d e]
        have e28 : ∀ i, N6 28 i = if i = (k : Int) then tld (c / 512) else N 28 i := fun i => by
          rw [eo 28 (by decide) (by decide) (by decide) (by decide), m3, gSt_ne _ _ _ _ _ (by decide), m2, gSt_at, f1 28 (by decide) (by decide)]
        have e29 : ∀ i, N6 29 i = if i = (k : Int) then tld (c % 512) else N 29 i := fun i => by
          rw [eo 29 (by decide) (by decide) (by decide) (by decide), m3, gSt_at, m2, gSt_ne _ _ _ _ _ (by decide), f1 29 (by decide) (by decide)]
        have e30 : ∀ i, N6 30 i = if i = (k : Int) then TK R k else N 30 i := fun i => by
          rw [m6, gSt_ne _ _ _ _ _ (by decide), m5, gSt_at, g1 30 (by decide) (by decide), eo3 30 (by decide) (by decide), f1 30 (by decide) (by decide)]
        refine ih (k + 1) N6 (by omega) (by omega) ⟨?_, ?_, ?_, fun i hi => ?_⟩ (fun i hi => ?_) (fun m N7 q1' q2' q3' q4' q5' => hK m N7 q1' (fun j a b => ?_) (fun j a => ?_) (fun i a => ?_) q5')
        · rw [m6, gSt_ne _ _ _ _ _ (by decide), m5, gSt_ne _ _ _ _ _ (by decide)]; exact g2
        · rw [m6, gSt_ne _ _ _ _ _ (by decide), m5, gSt_ne _ _ _ _ _ (by decide)]; exact g3
        · rw [e0, if_pos rfl]; omega
        · rw [e28, e29, e30]
          by_cases q : i = k
          · rw [q, ck, if_pos rfl, if_pos rfl, if_pos rfl]
            exact ⟨rfl, rfl, rfl⟩
          · have qi : (i : Int) ≠ (k : Int) := by omega
            rw [if_neg qi, if_neg qi, if_neg qi]
            exact c4 i (by omega)
        · by_cases q : i = k
          · rw [q, ck]; exact hcd
          · exact hne i (by omega)
        · rw [q2' j a b, eo j a (by omega) (by omega) (by omega), eo3 j (by omega) (by omega), f1 j (by omega) (by omega)]
        · rw [q3' j a, eo j (by omega) (by omega) (by omega) (by omega), eo3 j (by omega) (by omega), f1 j (by omega) (by omega)]
        · rw [q4' i a, e0, if_neg a]
    · have hk : k = 200 := by omega
      exact hK k N ⟨h1, hne, Or.inl hk⟩ (fun j _ _ => rfl) (fun j _ => rfl) (fun i _ => rfl) hC
theorem sp_supers9 {t : Nat} {M N : gMem} (hI : Inv t M N) {Q : Int → gMem → Prop}
    (hQ : ∀ (m : Nat) (N2 : gMem), FN (rws N 8) m → (∀ j, j ≠ 0 → j < 24 → N2 j = N j) → (∀ j, 31 ≤ j → N2 j = N j) → (∀ i, i ≠ 33 → N2 0 i = N 0 i) → N2 0 33 = m → (∀ i : Nat, i < m → N2 28 i = tld (CK (rws N 8) i / 512) ∧ N2 29 i = tld (CK (rws N 8) i % 512) ∧ N2 30 i = TK (rws N 8) i) → Q (tot (RK (rws N 8) m) + 2 * m) N2) : fX9_supers N Q := by
  have h4 := hI.2.2.2.2.1.2.2.2.1
  obtain ⟨hok, htt, hnk⟩ := rws_ok h4 8 (by decide)
  have hl8 := rws_len N 8
  refine ⟨9, sp_rows9 hI 9 0 0 N (by decide) (by decide) (fun k _ _ => rfl) trivial trivial rfl (fun N1 f1 f2 f3 N2 m2 => ⟨203, ?_⟩)⟩
  have eo : ∀ k, k ≠ 0 → N2 k = N1 k := fun k hk => by rw [m2, gSt_ne _ _ _ _ _ hk]
  refine sp_sup9 hok hl8 (by omega) 203 0 N2 (by decide) (by decide) ⟨by rw [eo 24 (by decide)]; exact f2, by rw [eo 25 (by decide)]; exact f3, by rw [m2, gSt_eq]; rfl, fun i hi => absurd hi (Nat.not_lt_zero i)⟩ (fun i hi => absurd hi (Nat.not_lt_zero i)) (fun m N3 g1 g2 g3 g4 g5 => ⟨by decide, ?_⟩)
  obtain ⟨c1, c2, c3, c4⟩ := g5
  have hlen : (RK (rws N 8) m).length = 8 := by rw [RK_len]; exact hl8
  have e25 := hnd_last _ _ _ (by intro h; rw [h] at hlen; simp at hlen) c2
  rw [hlen] at e25
  have e25' : N3 25 7 = tot (RK (rws N 8) m) := by
    rw [show (7 : Int) = 0 + ((8 : Nat) : Int) - 1 by decide, e25]; omega
  rw [e25', c3]
  refine hQ m N3 g1 (fun j a b => by rw [g2 j a b, eo j a, f1 j (by omega) (by omega)]) (fun j a => by rw [g3 j a, eo j (by omega), f1 j (by omega) (by omega)]) (fun i a => by rw [g4 i a, m2, gSt_at, if_neg a, f1 0 (by decide) (by decide)]) c3 c4
