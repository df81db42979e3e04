/-! make -/
/-- the memory of the program after k new numbers -/
def CSU (M : gMem) (R : List (Option (List Int))) (b : Int) (k : Nat) : Prop :=
  hld (M 40) 0 ((lin (RK R k)).map tld) ∧ M 39 1 = (lin (RK R k)).length ∧ M 39 7 = k ∧ M 39 2 = nkp R ∧ (0 ≤ M 41 3 ∧ M 41 3 ≤ b ∧ ∀ j, 0 ≤ j → j < 8192 → 0 ≤ M 44 j ∧ M 44 j ≤ M 41 3) ∧ ∀ i : Nat, i < k → M 45 i = tld (CK R i / 512) ∧ M 46 i = tld (CK R i % 512) ∧ M 47 i = TK R i
theorem sp_makeL {R : List (Option (List Int))} {t : Nat} {Q : gMem → Prop} (hR : okR 300 R) (hl : tot R + nkp R ≤ 4808) (ht : t ≤ 511) : ∀ (n k : Nat) (M : gMem), k ≤ 200 → 200 - k < n → CSU M R (201 * t + k) k → (∀ i, i < k → cd (CK R i)) →
    (∀ (m : Nat) (M2 : gMem), FN R m → (∀ j, j < 39 → M2 j = M j) → CSU M2 R (201 * t + 201) m → Q M2) → fX6_make_L2 n k M Q := by
  intro n
  induction n with
  | zero => intro k M h1 h2; omega
  | succ n ih =>
    intro k M h1 h2 hC hne hQ
    obtain ⟨c1, c2, c3, c4, ⟨c5, c6, c7⟩, c8⟩ := id hC
    refine ⟨⟨by omega, by omega⟩, fun hlt => ?_, fun hge => ?_⟩
    · have hok := RK_ok hR k
      have hlb := lin_bd (b := 300 + k) (by omega) hok
      have hv : ∀ v ∈ lin (RK R k), 0 ≤ v ∧ v ≤ 500 := fun v h => by have := hlb v h; omega
      have hll := lin_len (RK R k)
      have hto := RK_tot R k
      have hnk := RK_nkp R k
      have hmx : M 39 1 ≤ 4808 := by omega
      have hev := evs_lin (b := 300 + k) (by omega) (by omega) hok
      refine sp_countPairs c1 hv c2 hmx c5 (by omega) c7 (fun M3 f1 f2 f3 f4 => ?_)
      have hEl := evz_len (lin (RK R k)) (-1)
      have rm := BT_rg f4 (by omega)
      rw [hev] at f3 f4
      have n39 : M3 39 = M 39 := f1 39 (by decide) (by decide) (by decide) (by decide)
      have n40 : M3 40 = M 40 := f1 40 (by decide) (by decide) (by decide) (by decide)
      have n45 : M3 45 = M 45 := f1 45 (by decide) (by decide) (by decide) (by decide)
      have n46 : M3 46 = M 46 := f1 46 (by decide) (by decide) (by decide) (by decide)
      have n47 : M3 47 = M 47 := f1 47 (by decide) (by decide) (by decide) (by decide)
      refine ⟨rm, fun hlt2 => ?_, fun hge2 => ?_⟩
      · rcases BT_BS f4 rm with ⟨-, hb⟩ | ⟨hb, -⟩
        · refine hQ k M3 ⟨h1, hne, Or.inr (bst_eq hb)⟩ (fun j hj => f1 j (by omega) (by omega) (by omega) (by omega)) ⟨?_, ?_, ?_, ?_, ⟨?_, ?_, ?_⟩, ?_⟩
          · rw [n40]; exact c1
          · rw [n39]; exact c2
          · rw [n39]; exact c3
          · rw [n39]; exact c4
          · omega
          · omega
          · exact f3.1.2.2
          · rw [n45, n46, n47]; exact c8
        · omega
      · rcases BT_BS f4 rm with ⟨hb, -⟩ | ⟨-, c, hb, hm', e6, e7⟩
        · omega
        · have hcd : cd c := evs_cd (b := 300 + k) (by omega) (by omega) hok hm'
          have ck : CK R k = c := bst_eq hb
          have kb : 0 ≤ (k : Int) ∧ (k : Int) < 200 := by omega
          refine ⟨kb, fun M7 m7 => ⟨kb, fun M9 m9 => ⟨kb, kb, ?_⟩⟩⟩
          have e45 : M9 45 k = tld (c / 512) := by rw [m9, gSt_ne _ _ _ _ _ (by decide), m7, gSt_eq, e6]
          have e46 : M9 46 k = tld (c % 512) := by rw [m9, gSt_eq, m7, gSt_ne _ _ _ _ _ (by decide), e7]
          have eo9 : ∀ j, j ≠ 45 → j ≠ 46 → M9 j = M3 j := fun j a b => by rw [m9, gSt_ne _ _ _ _ _ b, m7, gSt_ne _ _ _ _ _ a]
          have o39 : M9 39 = M 39 := by rw [eo9 39 (by decide) (by decide), n39]
          have o40 : M9 40 = M 40 := by rw [eo9 40 (by decide) (by decide), n40]
          have o45 : ∀ i, i ≠ (k : Int) → M9 45 i = M 45 i := fun i hi => by rw [m9, gSt_ne _ _ _ _ _ (by decide), m7, gSt_at, if_neg hi, n45]
          have o46 : ∀ i, i ≠ (k : Int) → M9 46 i = M 46 i := fun i hi => by rw [m9, gSt_at, if_neg hi, m7, gSt_ne _ _ _ _ _ (by decide), n46]
          rw [e45, e46, ← tld_new k (by omega)]
          obtain ⟨p1, p2⟩ := rp_lin (nw := 301 + k) hcd (b := 300 + k) (by omega) (by omega) hok
          have hRK : rpR c (301 + k) (RK R k) = RK R (k + 1) := by rw [RK, show bst (evs (RK R k)) = c from ck]
          rw [hRK] at p1
          have hTK : tms c (lin (RK R k)) = TK R k := by rw [p2, TK, ck]
          refine sp_put hcd (by rw [o40]; exact c1) hv (by rw [o39]; exact c2) (by rw [o39]; exact hmx) (fun M13 g1 g2 g3 g4 => ⟨kb, fun M15 m15 M16 m16 => ?_⟩)
          rw [p1] at g3 g4
          rw [hTK] at m15
          have eo : ∀ j, j ≠ 39 → j ≠ 40 → j ≠ 47 → M16 j = M9 j := fun j a b d => by rw [m16, gSt_ne _ _ _ _ _ a, m15, gSt_ne _ _ _ _ _ d, g1 j a b]
          have e39 : ∀ i, M16 39 i = if i = 7 then M 39 7 + 1 else M13 39 i := fun i => by
            rw [m16, gSt_at, m15, gSt_ne _ _ _ _ 39 (by decide), g2 7 (by decide), o39]
          have e41 : M16 41 = M3 41 := by rw [eo 41 (by decide) (by decide) (by decide), eo9 41 (by decide) (by decide)]
          have e44 : M16 44 = M3 44 := by rw [eo 44 (by decide) (by decide) (by decide), eo9 44 (by decide) (by decide)]
          have e47 : ∀ i, M16 47 i = if i = (k : Int) then TK R k else M 47 i := fun i => by
            rw [m16, gSt_ne _ _ _ _ _ (by decide), m15, gSt_at, g1 47 (by decide) (by decide), eo9 47 (by decide) (by decide), n47]
          have e45' : M16 45 = M9 45 := eo 45 (by decide) (by decide) (by decide)
          have e46' : M16 46 = M9 46 := eo 46 (by decide) (by decide) (by decide)
          have e40' : M16 40 = M13 40 := by rw [m16, gSt_ne _ _ _ _ _ (by decide), m15, gSt_ne _ _ _ _ _ (by decide)]
          have hn1 : ((k : Int) + 1) = ((k + 1 : Nat) : Int) := by omega
          rw [hn1]
          refine ih (k + 1) M16 (by omega) (by omega) ⟨?_, ?_, ?_, ?_, ⟨?_, ?_, ?_⟩, fun i hi => ?_⟩ (fun i hi => ?_) (fun m M2 q1' q2' q3' => hQ m M2 q1' (fun j hj => ?_) q3')
          · rw [e40']; exact g4
          · rw [e39, if_neg (by decide)]; exact g3
          · rw [e39, if_pos rfl, c3]; omega
          · rw [e39, if_neg (by decide), g2 2 (by decide), o39]; exact c4
          · rw [e41]; omega
          · rw [e41]; omega
          · rw [e41, e44]; exact f3.1.2.2
          · rw [e45', e46', e47]
            by_cases q : i = k
            · rw [q, ck, if_pos rfl]
              exact ⟨e45, e46, rfl⟩
            · have qi : (i : Int) ≠ (k : Int) := by omega
              rw [if_neg qi, o45 _ qi, o46 _ qi]
              exact c8 i (by omega)
          · by_cases q : i = k
            · rw [q, ck]; exact hcd
            · exact hne i (by omega)
          · rw [q2' j hj, eo j (by omega) (by omega) (by omega), eo9 j (by omega) (by omega)]
            exact f1 j (by omega) (by omega) (by omega) (by omega)
    · have hk : k = 200 := by omega
      exact hQ k M ⟨h1, hne, Or.inl hk⟩ (fun j _ => rfl) ⟨c1, c2, c3, c4, ⟨c5, by omega, c7⟩, c8⟩
/-! the rows that are KEPT -/
def seg (g : Int → Int) : Int → Nat → List Int
  | _, 0 => []
  | i, n + 1 => g i :: seg g (i + 1) n
theorem seg_len (g : Int → Int) : ∀ (n : Nat) (i : Int), (seg g i n).length = n
  | 0, _ => rfl
  | n + 1, i => by rw [seg, List.length_cons, seg_len g n (i + 1)]
theorem seg_mem {g : Int → Int} {P : Int → Prop} : ∀ (n : Nat) (i : Int), (∀ j : Int, 0 ≤ j → j < n → P (g (i + j))) → ∀ v ∈ seg g i n, P v
  | 0, _, _, v, h => absurd h List.not_mem_nil
  | n + 1, i, hp, v, h => by
    rcases List.mem_cons.mp h with e | e
    · have := hp 0 (by omega) (by omega)
      rw [Int.add_zero] at this
      rw [e]
      exact this
    · exact seg_mem n (i + 1) (fun j a b => by have := hp (j + 1) (by omega) (by omega); rw [show i + (j + 1) = i + 1 + j by omega] at this; exact this) v e
theorem hld_seg {g g' : Int → Int} : ∀ (n : Nat) (i i' : Int), (∀ j : Int, 0 ≤ j → j < n → g' (i' + j) = g (i + j)) → hld g' i' (seg g i n)
  | 0, _, _, _ => trivial
  | n + 1, i, i', h => by
    refine ⟨?_, hld_seg n (i + 1) (i' + 1) (fun j a b => ?_)⟩
    · have := h 0 (by omega) (by omega)
      rw [Int.add_zero, Int.add_zero] at this
      exact this
    · have := h (j + 1) (by omega) (by omega)
      rw [show i' + (j + 1) = i' + 1 + j by omega, show i + (j + 1) = i + 1 + j by omega] at this
      exact this
def rwN (N : gMem) (f : Int) : Option (List Int) := if N 20 f % 2 = 1 then some (seg (N 22) (600 * f) (N 21 f).toNat) else none
def rws (N : gMem) : Nat → List (Option (List Int))
  | 0 => []
  | n + 1 => rws N n ++ [rwN N n]
theorem rws_len (N : gMem) : ∀ n, (rws N n).length = n
  | 0 => rfl
  | n + 1 => by rw [rws, List.length_append, rws_len N n]; rfl
theorem lin_app : ∀ (A B : List (Option (List Int))), lin (A ++ B) = lin A ++ lin B
  | [], _ => rfl
  | none :: A, B => by rw [List.cons_append, lin, lin, lin_app A B]
  | some l :: A, B => by rw [List.cons_append, lin, lin, lin_app A B, List.append_assoc]; rfl
theorem nkp_app : ∀ (A B : List (Option (List Int))), nkp (A ++ B) = nkp A + nkp B
  | [], _ => by rw [List.nil_append, nkp]; omega
  | none :: A, B => by rw [List.cons_append, nkp, nkp, nkp_app A B]
  | some l :: A, B => by rw [List.cons_append, nkp, nkp, nkp_app A B]; omega
theorem tot_app : ∀ (A B : List (Option (List Int))), tot (A ++ B) = tot A + tot B
  | [], _ => by rw [List.nil_append, tot]; omega
  | none :: A, B => by rw [List.cons_append, tot, tot, tot_app A B]
  | some l :: A, B => by rw [List.cons_append, tot, tot, tot_app A B]; omega
theorem okR_app {b : Int} : ∀ {A B : List (Option (List Int))}, okR b A → okR b B → okR b (A ++ B)
  | [], _, _, h => h
  | none :: A, B, h1, h2 => okR_app (A := A) h1 h2
  | some l :: A, B, h1, h2 => ⟨h1.1, okR_app h1.2 h2⟩
theorem map_tld : ∀ {l : List Int}, (∀ v ∈ l, 0 ≤ v ∧ v ≤ 300) → l.map tld = l
  | [], _ => rfl
  | x :: l, h => by
    have hx := h x List.mem_cons_self
    rw [List.map_cons, map_tld (fun v hv => h v (List.mem_cons_of_mem _ hv))]
    unfold tld
    rw [if_neg (by omega)]
theorem rws_ok {M N : gMem} (h4 : I4 (M 38) (fun f => M (29 + f.toNat)) (N 20) (N 21) (N 22) (N 16)) : ∀ n : Nat, n ≤ 8 → okR 300 (rws N n) ∧ tot (rws N n) ≤ 600 * n ∧ nkp (rws N n) ≤ n
  | 0, _ => ⟨trivial, Int.le_refl _, Int.le_refl _⟩
  | n + 1, hn => by
    obtain ⟨i1, i2, i3⟩ := rws_ok h4 n (by omega)
    rw [rws, tot_app, nkp_app, rwN]
    by_cases k : N 20 n % 2 = 1
    · obtain ⟨e1, e2, e3, e4, -⟩ := kept_of h4 (x := n) (by omega) (by omega) k
      rw [if_pos k]
      refine ⟨okR_app i1 ⟨seg_mem _ _ (fun j a b => ?_), trivial⟩, ?_, ?_⟩
      · have := e4 j a (by omega)
        omega
      · rw [tot, tot, seg_len]; omega
      · rw [nkp, nkp]; omega
    · rw [if_neg k]
      refine ⟨okR_app i1 trivial, ?_, ?_⟩
      · rw [tot, tot]; omega
      · rw [nkp, nkp]; omega
theorem sp_rowsL {t : Nat} {M N : gMem} (hI : Inv t M N) {K : gMem → Prop} {Q : Int → gMem → Prop} : ∀ (n f : Nat) (M' : gMem), f ≤ 8 → 8 - f < n → (∀ k, k ≠ 39 → k ≠ 40 → M' k = M k) → M' 39 7 = 0 → hld (M' 40) 0 (lin (rws N f)) → M' 39 1 = (lin (rws N f)).length → M' 39 2 = nkp (rws N f) →
    (∀ M2 : gMem, (∀ k, k ≠ 39 → k ≠ 40 → M2 k = M k) → M2 39 7 = 0 → hld (M2 40) 0 (lin (rws N 8)) → M2 39 1 = (lin (rws N 8)).length → M2 39 2 = nkp (rws N 8) → K M2) → fX8_supers_L9 n f M' K Q := by
  have h4 := hI.2.2.2.2.1.2.2.2.1
  intro n
  induction n with
  | zero => intro f M' h1 h2; omega
  | succ n ih =>
    intro f M' h1 h2 hF h7 hh hl hk hK
    refine ⟨⟨by omega, by omega⟩, fun hlt => ?_, fun hge => ?_⟩
    · have hb := rws_ok h4 f (by omega)
      have hll := lin_len (rws N f)
      have h4' : I4 (M' 38) (fun f => M' (29 + f.toNat)) (N 20) (N 21) (N 22) (N 16) := by
        rw [hF 38 (by decide) (by decide)]
        exact I4_congr (fun r a b => hF _ (by omega) (by omega)) h4
      have hn1 : ((f : Int) + 1) = ((f + 1 : Nat) : Int) := by omega
      rw [hn1]
      refine sp_isKept ⟨by omega, by omega⟩ h4' (fun a b k => q1 ?_) (fun g => q0 ?_)
      · obtain ⟨e1, e2, e3, e4, -⟩ := kept_of h4' a b k
        have er : rws N (f + 1) = rws N f ++ [some (seg (N 22) (600 * f) (N 21 f).toNat)] := by rw [rws, rwN, if_pos k]
        have el : lin (rws N (f + 1)) = lin (rws N f) ++ (seg (N 22) (600 * f) (N 21 f).toNat ++ [0]) := by rw [er, lin_app]; rfl
        have en : nkp (rws N (f + 1)) = nkp (rws N f) + 1 := by rw [er, nkp_app]; rfl
        refine ⟨by omega, by omega, ?_⟩
        rw [e1]
        refine ⟨Int.le_refl _, by omega, e2, by omega, by omega, fun M1 m1 M2 m2 => ?_⟩
        have a39 : M1 39 = M' 39 := by rw [m1, gCp_ne _ _ _ _ _ _ _ (by decide)]
        have b1 : M2 39 1 = M' 39 1 + N 21 f := by rw [m2, gSt_eq, a39]
        rw [b1]
        refine ⟨by omega, fun M3 m3 M4 m4 M5 m5 => ?_⟩
        have b3 : M3 39 1 = M' 39 1 + N 21 f := by rw [m3, gSt_ne _ _ _ _ _ (by decide), b1]
        have e40 : ∀ j, M5 40 j = if j = M' 39 1 + N 21 f then 0 else if M' 39 1 ≤ j ∧ j < M' 39 1 + N 21 f then M' (29 + ((f : Int)).toNat) (0 + (j - M' 39 1)) else M' 40 j := fun j => by
          rw [m5, gSt_ne _ _ _ _ _ (by decide), m4, gSt_ne _ _ _ _ _ (by decide), m3, gSt_at, m2, gSt_ne _ _ _ _ _ (by decide), m1, gCp_at]
        have d7 : M5 39 7 = 0 := by rw [m5, gSt_at, if_neg (by decide), m4, gSt_at, if_neg (by decide), m3, gSt_ne _ _ _ _ _ (by decide), m2, gSt_at, if_neg (by decide), a39, h7]
        have d1 : M5 39 1 = M' 39 1 + N 21 f + 1 := by rw [m5, gSt_at, if_neg (by decide), m4, gSt_eq, b3]
        have d2 : M5 39 2 = M' 39 2 + 1 := by rw [m5, gSt_eq, m4, gSt_at, if_neg (by decide), m3, gSt_ne _ _ _ _ _ (by decide), m2, gSt_at, if_neg (by decide), a39]
        have dF : ∀ k, k ≠ 39 → k ≠ 40 → M5 k = M k := fun k k1 k2 => by rw [m5, gSt_ne _ _ _ _ _ k1, m4, gSt_ne _ _ _ _ _ k1, m3, gSt_ne _ _ _ _ _ k2, m2, gSt_ne _ _ _ _ _ k1, m1, gCp_ne _ _ _ _ _ _ _ k2, hF k k1 k2]
        refine ih (f + 1) M5 (by omega) (by omega) dF d7 ?_ ?_ ?_ hK
        · rw [el, hld_app, hld_app, seg_len, Int.zero_add]
          refine ⟨hld_congr _ _ (fun j j1 j2 => ?_) hh, hld_seg _ _ _ (fun j j1 j2 => ?_), ?_, trivial⟩
          · rw [e40, if_neg (by omega), if_neg (by omega)]
          · rw [e40, if_neg (by omega), if_pos (by omega), show (0 : Int) + (((lin (rws N f)).length : Int) + j - M' 39 1) = j by omega]
            exact (e4 j j1 (by omega)).1
          · rw [e40, if_pos (by omega)]
        · rw [d1, el, List.length_append, List.length_append, seg_len, List.length_singleton]
          omega
        · rw [d2, en, hk]
      · have hz : N 20 f % 2 = 0 := g (by omega) (by omega)
        have er : rws N (f + 1) = rws N f ++ [none] := by rw [rws, rwN, if_neg (by omega)]
        have el : lin (rws N (f + 1)) = lin (rws N f) := by rw [er, lin_app, show lin [none] = [] from rfl, List.append_nil]
        have en : nkp (rws N (f + 1)) = nkp (rws N f) := by rw [er, nkp_app, show nkp [none] = 0 from rfl, Int.add_zero]
        refine ih (f + 1) M' (by omega) (by omega) hF h7 ?_ ?_ ?_ hK
        · rw [el]; exact hh
        · rw [el]; exact hl
        · rw [en]; exact hk
    · have e : f = 8 := by omega
      subst e
      exact hK M' hF h7 hh hl hk
theorem sp_supers8 {t : Nat} {M N : gMem} (hI : Inv t M N) (ht : t ≤ 511) {Q : Int → gMem → Prop}
    (hQ : ∀ (m : Nat) (M2 : gMem), FN (rws N 8) m → (∀ j, j < 39 → M2 j = M j) → M2 39 7 = m → IP (t + 1) (M2 41 3) (M2 44) → (∀ i : Nat, i < m → M2 45 i = tld (CK (rws N 8) i / 512) ∧ M2 46 i = tld (CK (rws N 8) i % 512) ∧ M2 47 i = TK (rws N 8) i) → Q (tot (RK (rws N 8) m) + 2 * m) M2) : fX8_supers M Q := by
  have h4 := hI.2.2.2.2.1.2.2.2.1
  obtain ⟨hok, htt, hnk⟩ := rws_ok h4 8 (by decide)
  obtain ⟨p1, p2, p3⟩ := hI.2.2.2.2.2.2.2.1
  intro M1 m1 M2 m2 M3 m3
  have e39 : M3 39 1 = 0 ∧ M3 39 2 = 0 ∧ M3 39 7 = 0 := by
    refine ⟨?_, ?_, ?_⟩
    · rw [m3, gSt_at, if_neg (by decide), m2, gSt_at, if_neg (by decide), m1, gSt_eq]
    · rw [m3, gSt_at, if_neg (by decide), m2, gSt_eq]
    · rw [m3, gSt_eq]
  have eo : ∀ k, k ≠ 39 → M3 k = M k := fun k hk => by rw [m3, gSt_ne _ _ _ _ _ hk, m2, gSt_ne _ _ _ _ _ hk, m1, gSt_ne _ _ _ _ _ hk]
  refine ⟨9, sp_rowsL hI 9 0 M3 (by decide) (by decide) (fun k a _ => eo k a) e39.2.2 trivial e39.1 e39.2.1 (fun M4 f1 f2 f3 f4 f5 => ⟨201, ?_⟩)⟩
  have hC : CSU M4 (rws N 8) (201 * t + (0 : Nat)) 0 := by
    refine ⟨?_, f4, f2, f5, ⟨?_, ?_, ?_⟩, fun i hi => absurd hi (Nat.not_lt_zero i)⟩
    · rw [RK, map_tld (fun v hv => lin_bd (by decide) hok v hv)]
      exact f3
    · rw [f1 41 (by decide) (by decide)]; exact p1
    · rw [f1 41 (by decide) (by decide)]; omega
    · rw [f1 41 (by decide) (by decide), f1 44 (by decide) (by decide)]; exact p3
  refine sp_makeL (t := t) hok (by omega) ht 201 0 M4 (by decide) (by decide) hC (fun i hi => absurd hi (Nat.not_lt_zero i)) (fun m M5 g1 g2 g3 => ?_)
  obtain ⟨c1, c2, c3, c4, ⟨c5, c6, c7⟩, c8⟩ := g3
  have hll := lin_len (RK (rws N 8) m)
  have hnn := RK_nkp (rws N 8) m
  have := hQ m M5 g1 (fun j hj => by rw [g2 j hj, f1 j (by omega) (by omega)]) c3 ⟨c5, by omega, c7⟩ c8
  show Q ((M5 39 1 - M5 39 2) + 2 * M5 39 7) M5
  rw [c2, c3, c4, hll.1, hnn, show tot (RK (rws N 8) m) + nkp (rws N 8) - nkp (rws N 8) = tot (RK (rws N 8) m) by omega]
  exact this
