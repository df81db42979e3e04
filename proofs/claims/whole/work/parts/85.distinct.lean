/-! the table of pieces -/
theorem sI_upd {g h : Int → Int} {a : Int} : ∀ {n : Nat}, 0 ≤ a → a < n → (∀ j, j ≠ a → h j = g j) → sI h n = sI g n + (h a - g a)
  | 0, _, h2, _ => by omega
  | n + 1, h1, h2, e => by
    rw [sI, sI]
    by_cases c : a = n
    · rw [c, sI_congr (g := h) (h := g) (fun i i1 i2 => e i (by omega))]
      omega
    · rw [sI_upd h1 (by omega) e, e n (by omega)]
      omega
def hmx (g : Int → Int) (l : Int) : Nat → Int
  | 0 => l
  | i + 1 => hmx g l i * 31 + g i
theorem hmx_congr {g h : Int → Int} {l : Int} : ∀ {n : Nat}, (∀ i : Int, 0 ≤ i → i < n → g i = h i) → hmx g l n = hmx h l n
  | 0, _ => rfl
  | n + 1, e => by rw [hmx, hmx, hmx_congr (fun i h1 h2 => e i h1 (by omega)), e n (by omega) (by omega)]
/-- where the search for a piece begins -/
def hom (b : Int → Int) (s l : Int) : Int := ushr (hmx (fun i => Int.bmod (b (s + i)) 256) l l.toNat * (-1640531535)) 19
theorem ushr_19 (a : Int) : 0 ≤ ushr a 19 ∧ ushr a 19 < 8192 := by
  show 0 ≤ a % 4294967296 / 524288 ∧ a % 4294967296 / 524288 < 8192
  omega
theorem hom_AL {b : Int → Int} {s l s' l' : Int} (h : AL b s l s' l') : hom b s l = hom b s' l' := by
  obtain ⟨h1, h2⟩ := h
  subst h1
  unfold hom
  rw [hmx_congr (fun i i1 i2 => by rw [h2 i i1 (by omega)])]
theorem sp_homeOf {t : Nat} {M N M' : gMem} (hI : Inv t M N) (hM : ∀ k, essC k → M' k = M k) {s l : Int} {Q : Int → Prop} (h : PV N s l) (hQ : Q (hom (N 2) s l)) : fX1_homeOf s l M' Q := by
  obtain ⟨a1, a2, a3, a4, a5⟩ := PV_bd hI h
  have c2 : M' 2 = M 2 := hM 2 (by simp [essC])
  have key : ∀ (n : Nat) (x3 x4 : Int), 0 ≤ x4 → x4 ≤ l → l - x4 < n → x3 = hmx (fun i => Int.bmod (N 2 (s + i)) 256) l x4.toNat → fX1_homeOf_L5 s l M' n x3 x4 (fun x3_5 => (fX8_spread x3_5 M' (fun r_6 => Q r_6))) Q := by
    intro n
    induction n with
    | zero => intro x3 x4 g1 g2 g3; omega
    | succ n ih =>
      intro x3 x4 g1 g2 g3 g4
      refine ⟨⟨by omega, by omega⟩, ⟨by omega, by omega⟩, fun hlt => ⟨⟨by omega, by omega⟩, ih _ _ (by omega) (by omega) (by omega) ?_⟩, fun hge => ?_⟩
      · rw [show (x4 + 1).toNat = x4.toNat + 1 by omega, hmx, g4, show ((x4.toNat : Nat) : Int) = x4 by omega]
        have : Int.bmod (M' 2 (s + x4)) 256 = Int.bmod (N 2 (s + x4)) 256 := bm_eq.mpr (by rw [c2, a5 x4 g1 hlt]; omega)
        rw [this]
      · have : x4 = l := by omega
        subst this
        rw [g4]
        exact hQ
  exact ⟨l.toNat + 1, key _ _ _ (by omega) (by omega) (by omega) rfl⟩
def Tn (T : Int → Int → Prop) (s l : Int) : Int → Int → Prop := fun s' l' => T s' l' ∨ (s' = s ∧ l' = l)
/-- what the table holds, of the pieces T, at most c -/
def DT (N M : gMem) (T : Int → Int → Prop) (c : Int) : Prop :=
  (∀ j, 0 ≤ j → j < 8192 → M 21 j ≠ 0 → T (M 20 j) (M 21 j)) ∧
  (∀ s l, T s l → ∃ d, 0 ≤ d ∧ d < 8192 ∧ M 21 ((hom (N 2) s l + d) % 8192) ≠ 0 ∧ AL (N 2) (M 20 ((hom (N 2) s l + d) % 8192)) (M 21 ((hom (N 2) s l + d) % 8192)) s l ∧ ∀ e, 0 ≤ e → e < d → M 21 ((hom (N 2) s l + e) % 8192) ≠ 0) ∧
  (M 19 3 = sI (fun j => if M 21 j = 0 then 0 else 1) 8192 ∧ M 19 3 ≤ c) ∧
  (∀ s l, T s l → PV N s l)
theorem DT_0 {N M : gMem} {Q : gMem → Prop} (hQ : ∀ M2 : gMem, (∀ k, k ≠ 19 → k ≠ 21 → M2 k = M k) → M2 19 3 = 0 → DT N M2 (fun _ _ => False) 0 → Q M2) : fX1_clear M Q := by
  refine fill_all (by decide) (fun M2 e2 => ?_)
  subst e2
  have z : ∀ j, 0 ≤ j → j < 8192 → gSt (gFill M 21 0 (8192 : Nat) 0) 19 3 0 21 j = 0 := fun j h1 h2 => by
    rw [gSt_ne _ _ _ _ _ (by decide)]
    simp only [gFill]
    rw [if_pos ⟨trivial, h1, by omega⟩]
  refine hQ _ (fun k h1 h2 => ?_) (gSt_eq _ _ _ _) ⟨fun j h1 h2 h3 => absurd (z j h1 h2) h3, fun _ _ h => h.elim, ⟨?_, by rw [gSt_eq]; omega⟩, fun _ _ h => h.elim⟩
  · rw [gSt_ne _ _ _ _ _ h1]
    funext j
    simp only [gFill]
    rw [if_neg (fun h => h2 h.1)]
  · rw [gSt_eq, sI_zero (fun i h1 h2 => by rw [if_pos (z i h1 (by omega))])]
theorem sp_addPiece {t : Nat} {M N M' : gMem} (hI : Inv t M N) (hM : ∀ k, essC k → M' k = M k) {s l c : Int} {T : Int → Int → Prop} {Q : Int → gMem → Prop} (hT : DT N M' T c) (hc : c < 8192) (hp : PV N s l)
    (hY : ¬ (∃ s' l', T s' l' ∧ AL (N 2) s' l' s l) → ∀ M2 : gMem, (∀ k, k ≠ 19 → k ≠ 20 → k ≠ 21 → M2 k = M' k) → M2 19 3 = M' 19 3 + 1 → DT N M2 (Tn T s l) (c + 1) → Q 1 M2)
    (hN : (∃ s' l', T s' l' ∧ AL (N 2) s' l' s l) → DT N M' (Tn T s l) (c + 1) → Q 0 M') : fX1_addPiece s l M' Q := by
  obtain ⟨d1, d2, ⟨d3, d4⟩, d5⟩ := id hT
  refine sp_homeOf hI hM hp ?_
  have hh := ushr_19 (hmx (fun i => Int.bmod (N 2 (s + i)) 256) l l.toNat * (-1640531535))
  have hh' : 0 ≤ hom (N 2) s l ∧ hom (N 2) s l < 8192 := hh
  have hpb := PV_bd hI hp
  refine ⟨8193, ?_⟩
  have key : ∀ (n : Nat) (x : Int), 0 ≤ x → x ≤ 8192 → 8192 - x < n → (∀ e, 0 ≤ e → e < x → M' 21 ((hom (N 2) s l + e) % 8192) ≠ 0 ∧ ¬ AL (N 2) (M' 20 ((hom (N 2) s l + e) % 8192)) (M' 21 ((hom (N 2) s l + e) % 8192)) s l) → fX1_addPiece_L10 s l (hom (N 2) s l) M' n x (fun x5_17 =>
  ((0 ≤ x5_17 ∧ x5_17 < 8192) ∧ ∀ M_19, M_19 = gSt M' 20 x5_17 s → ((0 ≤ x5_17 ∧ x5_17 < 8192) ∧ ∀ M_21, M_21 = gSt M_19 21 x5_17 l → (∀ M_22, M_22 = gSt M_21 19 3 ((M_21 19 3) + 1) → Q 1 M_22)))) Q := by
    intro n
    induction n with
    | zero => intro x g1 g2 g3; omega
    | succ n ih =>
      intro x g1 g2 g3 g4
      rw [fX1_addPiece_L10, band_8191]
      generalize hj : (hom (N 2) s l + x) % 8192 = j
      have hjb : 0 ≤ j ∧ j < 8192 := by omega
      refine ⟨⟨by omega, by omega⟩, fun hlt => ⟨hjb, ?_, fun hz => ?_, fun hnz => ?_⟩, fun hge => ?_⟩
      · by_cases z : M' 21 j = 0
        · rw [z]; exact ⟨by decide, by decide⟩
        · have := PV_bd hI (d5 _ _ (d1 j hjb.1 hjb.2 z))
          exact ⟨by omega, by omega⟩
      · -- a free place
        have fresh : ¬ (∃ s' l', T s' l' ∧ AL (N 2) s' l' s l) := by
          rintro ⟨s', l', h1, h2⟩
          obtain ⟨d, e1, e2, e3, e4, e5⟩ := d2 s' l' h1
          rw [hom_AL h2] at e3 e4 e5
          rcases Int.lt_trichotomy d x with h | h | h
          · exact (g4 d e1 h).2 (e4.trans h2)
          · rw [h, hj] at e3; exact e3 hz
          · have := e5 x g1 h
            rw [hj] at this
            exact this hz
        refine ⟨hjb, fun M1 m1 => ⟨hjb, fun M2 m2 M3 m3 => ?_⟩⟩
        subst m1
        subst m2
        have e19 : gSt (gSt M' 20 j s) 21 j l 19 3 = M' 19 3 := by rw [gSt_ne _ _ _ _ _ (by decide), gSt_ne _ _ _ _ _ (by decide)]
        rw [e19] at m3
        have e21 : ∀ i, M3 21 i = if i = j then l else M' 21 i := fun i => by rw [m3, gSt_ne _ _ _ _ _ (by decide), gSt_at, gSt_ne _ _ _ _ 21 (by decide)]
        have e20 : ∀ i, M3 20 i = if i = j then s else M' 20 i := fun i => by rw [m3, gSt_ne _ _ _ _ _ (by decide), gSt_ne _ _ _ _ _ (by decide), gSt_at]
        have occ : ∀ i, M' 21 i ≠ 0 → M3 21 i ≠ 0 := fun i hi => by
          rw [e21 i]
          by_cases c : i = j
          · rw [if_pos c]; omega
          · rw [if_neg c]; exact hi
        refine hY fresh M3 (fun k h1 h2 h3 => by rw [m3, gSt_ne _ _ _ _ _ h1, gSt_ne _ _ _ _ _ h3, gSt_ne _ _ _ _ _ h2]) (by rw [m3, gSt_eq]) ⟨fun i i1 i2 i3 => ?_, fun s' l' hs' => ?_, ⟨?_, ?_⟩, fun s' l' hs' => ?_⟩
        · rw [e20, e21]
          by_cases c : i = j
          · rw [if_pos c, if_pos c]; exact Or.inr ⟨rfl, rfl⟩
          · rw [if_neg c, if_neg c]
            refine Or.inl (d1 i i1 i2 ?_)
            rw [e21, if_neg c] at i3
            exact i3
        · rcases hs' with hs' | ⟨es, el⟩
          · obtain ⟨d, f1, f2, f3, f4, f5⟩ := d2 s' l' hs'
            have nj : ¬ (hom (N 2) s' l' + d) % 8192 = j := fun h => f3 (by rw [h]; exact hz)
            refine ⟨d, f1, f2, occ _ f3, ?_, fun e q1' q2' => occ _ (f5 e q1' q2')⟩
            rw [e20, e21, if_neg nj, if_neg nj]
            exact f4
          · subst es
            subst el
            refine ⟨x, g1, hlt, ?_, ?_, fun e q1' q2' => occ _ (g4 e q1' q2').1⟩
            · rw [hj, e21, if_pos rfl]; omega
            · rw [hj, e20, e21, if_pos rfl, if_pos rfl]
              exact ⟨rfl, fun _ _ _ => rfl⟩
        · rw [show M3 19 3 = M' 19 3 + 1 by rw [m3, gSt_eq], d3]
          rw [sI_upd (g := fun j => if M' 21 j = 0 then 0 else 1) (h := fun j => if M3 21 j = 0 then 0 else 1) (a := j) hjb.1 (by omega) (fun i hi => by rw [e21, if_neg hi])]
          rw [if_pos hz, if_neg (by rw [e21, if_pos rfl]; omega)]
          omega
        · rw [show M3 19 3 = M' 19 3 + 1 by rw [m3, gSt_eq]]; omega
        · rcases hs' with hs' | ⟨es, el⟩
          · exact d5 s' l' hs'
          · subst es; subst el; exact hp
      · have hTj := d1 j hjb.1 hjb.2 hnz
        have hpj := d5 _ _ hTj
        have hpjb := PV_bd hI hpj
        have nx : ¬ AL (N 2) (M' 20 j) (M' 21 j) s l → fX1_addPiece_L10 s l (hom (N 2) s l) M' n (x + 1) (fun x5_17 =>
  ((0 ≤ x5_17 ∧ x5_17 < 8192) ∧ ∀ M_19, M_19 = gSt M' 20 x5_17 s → ((0 ≤ x5_17 ∧ x5_17 < 8192) ∧ ∀ M_21, M_21 = gSt M_19 21 x5_17 l → (∀ M_22, M_22 = gSt M_21 19 3 ((M_21 19 3) + 1) → Q 1 M_22)))) Q := fun hna => by
          refine ih (x + 1) (by omega) (by omega) (by omega) (fun e q1' q2' => ?_)
          by_cases c : e = x
          · rw [c, hj]; exact ⟨hnz, hna⟩
          · exact g4 e q1' (by omega)
        refine ⟨hjb, ⟨by omega, by omega⟩, ⟨by omega, by omega⟩, fun hl => ⟨hjb, ?_⟩, fun hl => nx (fun g => hl g.1)⟩
        rw [hl] at hpj
        refine sp_alikeC hI hM hpj hp (fun h => q1 ?_) (fun h => q0 (nx (fun g => h ?_)))
        · have h' : AL (N 2) (M' 20 j) (M' 21 j) s l := by rw [hl]; exact h
          refine hN ⟨_, _, hTj, h'⟩ ⟨fun i i1 i2 i3 => Or.inl (d1 i i1 i2 i3), fun s' l' hs' => ?_, ⟨d3, by omega⟩, fun s' l' hs' => ?_⟩
          · rcases hs' with hs' | ⟨es, el⟩
            · exact d2 s' l' hs'
            · subst es
              subst el
              refine ⟨x, g1, hlt, ?_, ?_, fun e q1' q2' => (g4 e q1' q2').1⟩
              · rw [hj]; exact hnz
              · rw [hj]; exact h'
          · rcases hs' with hs' | ⟨es, el⟩
            · exact d5 s' l' hs'
            · subst es; subst el; exact hp
        · rw [hl] at g; exact g
      · exfalso
        have : sI (fun j => if M' 21 j = 0 then 0 else 1) 8192 = sI (fun _ => 1) 8192 := sI_congr (fun i i1 i2 => by
          have := (g4 ((i - hom (N 2) s l) % 8192) (by omega) (by omega)).1
          rw [show (hom (N 2) s l + (i - hom (N 2) s l) % 8192) % 8192 = i by omega] at this
          rw [if_neg this])
        rw [sI_const] at this
        omega
  exact key 8193 0 (by omega) (by omega) (by omega) (fun e e1 e2 => by omega)
/-- T and the first k pieces -/
def Tk (N : gMem) (r f : Int) (T : Int → Int → Prop) (k : Nat) : Int → Int → Prop := fun s l => T s l ∨ ∃ i, i < k ∧ s = pS N r f i ∧ l = pL N r f i
theorem Tk_0 (N : gMem) (r f : Int) (T : Int → Int → Prop) : Tk N r f T 0 = T := by
  funext s l
  apply propext
  constructor
  · rintro (h | ⟨i, h, -⟩)
    · exact h
    · omega
  · exact Or.inl
theorem Tk_s (N : gMem) (r f : Int) (T : Int → Int → Prop) (k : Nat) : Tk N r f T (k + 1) = Tn (Tk N r f T k) (pS N r f k) (pL N r f k) := by
  funext s l
  apply propext
  constructor
  · rintro (h | ⟨i, h1, h2, h3⟩)
    · exact Or.inl (Or.inl h)
    · by_cases c : i = k
      · subst c; exact Or.inr ⟨h2, h3⟩
      · exact Or.inl (Or.inr ⟨i, by omega, h2, h3⟩)
  · rintro ((h | ⟨i, h1, h2, h3⟩) | ⟨h2, h3⟩)
    · exact Or.inl h
    · exact Or.inr ⟨i, by omega, h2, h3⟩
    · exact Or.inr ⟨k, by omega, h2, h3⟩
/-- a piece of T or an earlier one is alike to the piece k -/
def hasP (N : gMem) (r f : Int) (T : Int → Int → Prop) (k : Nat) : Prop := ∃ s l, Tk N r f T k s l ∧ AL (N 2) s l (pS N r f k) (pL N r f k)
/-- the first k pieces: v bytes and c pieces are new -/
def FB (N : gMem) (r f : Int) (T : Int → Int → Prop) : Nat → Int → Int → Prop
  | 0, v, c => v = 0 ∧ c = 0
  | k + 1, v, c => ∃ v' c', FB N r f T k v' c' ∧ ((hasP N r f T k ∧ v = v' ∧ c = c') ∨ (¬ hasP N r f T k ∧ v = v' + pL N r f k ∧ c = c' + 1))
theorem FB_un {N : gMem} {r f : Int} {T : Int → Int → Prop} : ∀ {k : Nat} {v c v' c' : Int}, FB N r f T k v c → FB N r f T k v' c' → v = v' ∧ c = c'
  | 0, _, _, _, _, h, h' => ⟨h.1.trans h'.1.symm, h.2.trans h'.2.symm⟩
  | k + 1, v, c, v', c', ⟨a, b, h1, h2⟩, ⟨a', b', h1', h2'⟩ => by
    obtain ⟨e1, e2⟩ := FB_un h1 h1'
    rcases h2 with ⟨p, q, s⟩ | ⟨p, q, s⟩ <;> rcases h2' with ⟨p', q', s'⟩ | ⟨p', q', s'⟩
    · omega
    · exact absurd p p'
    · exact absurd p' p
    · omega
theorem FB_bd {N : gMem} {r f : Int} {T : Int → Int → Prop} {n : Nat} (hR : RU N r) (hn : CN N r f n) : ∀ {k : Nat}, k ≤ n → ∀ {v c : Int}, FB N r f T k v c → 0 ≤ v ∧ v ≤ cp N r f k ∧ 0 ≤ c ∧ c ≤ k
  | 0, _, v, c, h => by rw [cp]; have := h.1; have := h.2; omega
  | k + 1, hk, v, c, ⟨a, b, h1, h2⟩ => by
    have h3 := FB_bd hR hn (by omega) h1
    have h4 := CN_st hR hn (by omega : k < n)
    rcases h2 with ⟨p, q, s⟩ | ⟨p, q, s⟩
    · omega
    · unfold pL at q; omega
theorem sp_addPieces {t : Nat} {M N M' : gMem} (hI : Inv t M N) (hM : ∀ k, essC k → M' k = M k) {r f c : Int} {n : Nat} {T : Int → Int → Prop} {Q : Int → gMem → Prop} (hr : 0 ≤ r ∧ r < 6) (hs : 0 < N 4 r) (hf : 0 ≤ f ∧ f < 8) (hn : CN N r f n) (hT : DT N M' T c) (hc : c + n < 8192) (m3 : M' 13 3 = n) (m4 : M' 13 4 = f) (m5 : ∀ j : Nat, j ≤ n → M' 15 j = cp N r f j)
    (hQ : ∀ (v w : Int) (M2 : gMem), FB N r f T n v w → (∀ k, k ≠ 19 → k ≠ 20 → k ≠ 21 → M2 k = M' k) → M2 19 3 = M' 19 3 + w → DT N M2 (Tk N r f T n) (c + n) → Q v M2) : fX1_addPieces 13 M' Q := by
  have hn6 := hn.1
  have key : ∀ (m k : Nat) (v w : Int) (M2 : gMem), k ≤ n → n - k < m → FB N r f T k v w → (∀ k, k ≠ 19 → k ≠ 20 → k ≠ 21 → M2 k = M' k) → M2 19 3 = M' 19 3 + w → DT N M2 (Tk N r f T k) (c + k) → fX1_addPieces_L4 13 m v k M2 Q := by
    intro m
    induction m with
    | zero => intro k v w M2 g1 g2; omega
    | succ m ih =>
      intro k v w M2 g1 g2 g3 g4 g5 g6
      have c13 : M2 13 = M' 13 := g4 13 (by decide) (by decide) (by decide)
      have c15 : M2 15 = M' 15 := g4 15 (by decide) (by decide) (by decide)
      rw [fX1_addPieces_L4, c13, m3]
      refine ⟨⟨by omega, by omega⟩, ⟨by omega, by omega⟩, fun hlt => ?_, fun hge => ?_⟩
      · obtain ⟨u1, u2⟩ := pc_ok hI hr hs hf hn (k := k) (by omega)
        refine sp_startC (f := f) (by rw [c13, m4]) ⟨by omega, by omega⟩ ⟨⟨by omega, by omega⟩, ⟨by omega, by omega⟩, ?_⟩
        have b1 : M2 (13 + 2) (k : Int) = cp N r f k := by rw [show M2 (13 + 2) = M' 15 from c15, m5 k (by omega)]
        have b2 : M2 (13 + 2) ((k : Int) + 1) = cp N r f (k + 1) := by rw [show M2 (13 + 2) = M' 15 from c15]; exact m5 (k + 1) (by omega)
        rw [b1, b2]
        have hMe : ∀ k, essC k → M2 k = M k := fun k hk => by rw [g4 k (by unfold essC at hk; omega) (by unfold essC at hk; omega) (by unfold essC at hk; omega), hM k hk]
        refine sp_addPiece (s := pS N r f k) (l := pL N r f k) hI hMe g6 (by omega) u2 (fun h M3 p1 p2 p3 => q1 ?_) (fun h p3 => q0 ?_)
        · refine ⟨⟨by omega, by omega⟩, ⟨by omega, by omega⟩, ?_⟩
          rw [p1 (13 + 2) (by decide) (by decide) (by decide), b1, b2]
          refine ih (k + 1) _ (w + 1) M3 (by omega) (by omega) ⟨v, w, g3, Or.inr ⟨h, rfl, rfl⟩⟩ (fun k h1 h2 h3 => by rw [p1 k h1 h2 h3, g4 k h1 h2 h3]) (by rw [p2, g5]; omega) ?_
          rw [Tk_s, show c + ((k + 1 : Nat) : Int) = c + k + 1 by omega]
          exact p3
        · refine ih (k + 1) _ w M2 (by omega) (by omega) ⟨v, w, g3, Or.inl ⟨h, rfl, rfl⟩⟩ g4 g5 ?_
          rw [Tk_s, show c + ((k + 1 : Nat) : Int) = c + k + 1 by omega]
          exact p3
      · have : k = n := by omega
        subst this
        exact hQ v w M2 g3 g4 g5 g6
  refine ⟨n + 1, key (n + 1) 0 0 0 M' (by omega) (by omega) ⟨rfl, rfl⟩ (fun _ _ _ _ => rfl) (by omega) ?_⟩
  rw [Tk_0, show c + ((0 : Nat) : Int) = c by omega]
  exact hT
