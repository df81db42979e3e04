/-! fixed, rolling, told -/
theorem IC_set {M N M1 N1 : gMem} {x : Int} (hx : 0 ≤ x ∧ x < 6) (h : IC (fun r => M (7 + r.toNat)) (N 4) (N 5) (N 6) (N 7) (N 8) (N 9)) (hM : ∀ k, k ≠ 7 + x.toNat → M1 k = M k) (hN : ∀ k, 4 ≤ k → k ≤ 9 → ∀ r, r ≠ x → N1 k r = N k r) (hn : IR (M1 (7 + x.toNat)) (N1 4 x) (N1 5 x) (N1 6 x) (N1 7 x) (N1 8 x) (N1 9 x)) : IC (fun r => M1 (7 + r.toNat)) (N1 4) (N1 5) (N1 6) (N1 7) (N1 8) (N1 9) := by
  intro r h1 h2
  by_cases e : r = x
  · subst e; exact hn
  · have := h r h1 h2
    show IR (M1 (7 + r.toNat)) _ _ _ _ _ _
    rw [hM _ (by omega), hN 4 (by omega) (by omega) r e, hN 5 (by omega) (by omega) r e, hN 6 (by omega) (by omega) r e, hN 7 (by omega) (by omega) r e, hN 8 (by omega) (by omega) r e, hN 9 (by omega) (by omega) r e]
    exact this
/-- the class's RULE k, written -/
def ruC (M : gMem) (k : Nat) (kd l m x : Int) : gMem := gSt (gSt (gSt (gSt M k 0 kd) k 1 l) k 2 m) k 5 x
def ruW (M : gMem) (k : Nat) (w b : Int) : gMem := gSt (gSt M k 3 w) k 4 b
def ruM (N : gMem) (r kd l m w b x : Int) : gMem := gSt (gSt (gSt (gSt (gSt (gSt N 4 r kd) 5 r l) 6 r m) 7 r w) 8 r b) 9 r x
theorem ruM_0 (N : gMem) (r kd l m w b x : Int) (k : Nat) (hk : k < 4 ∨ 9 < k) : ruM N r kd l m w b x k = N k := by
  unfold ruM
  rw [gSt_ne _ _ _ _ _ (by omega), gSt_ne _ _ _ _ _ (by omega), gSt_ne _ _ _ _ _ (by omega), gSt_ne _ _ _ _ _ (by omega), gSt_ne _ _ _ _ _ (by omega), gSt_ne _ _ _ _ _ (by omega)]
theorem ruM_at (N : gMem) (r kd l m w b x : Int) : ruM N r kd l m w b x 4 r = kd ∧ ruM N r kd l m w b x 5 r = l ∧ ruM N r kd l m w b x 6 r = m ∧ ruM N r kd l m w b x 7 r = w ∧ ruM N r kd l m w b x 8 r = b ∧ ruM N r kd l m w b x 9 r = x := by
  simp [ruM, gSt]
theorem ruM_ne (N : gMem) (r kd l m w b x : Int) (k : Nat) (j : Int) (h : j ≠ r) : ruM N r kd l m w b x k j = N k j := by
  simp [ruM, gSt, h]
theorem sp_rules {x1 x2 x3 x4 x5 x6 x7 : Int} {N : gMem} {Q : Int → gMem → Prop} (r1 : rg x1) (r3 : rg x3) (r4 : rg x4) (r5 : rg x5) (r6 : rg x6) (r7 : rg x7)
    (h1 : 0 ≤ x1 → x1 < 6 → 1 ≤ x3 → x3 ≤ x4 → x4 ≤ 200 → 1 ≤ x5 → x5 ≤ 16 → 0 ≤ x6 → x6 ≤ 8 → 0 ≤ x7 → x7 ≤ 255 → Q 1 (ruM N x1 x2 x3 x4 x5 x6 x7))
    (h0 : ¬ (0 ≤ x1 ∧ x1 < 6 ∧ 1 ≤ x3 ∧ x3 ≤ x4 ∧ x4 ≤ 200 ∧ 1 ≤ x5 ∧ x5 ≤ 16 ∧ 0 ≤ x6 ∧ x6 ≤ 8 ∧ 0 ≤ x7 ∧ x7 ≤ 255) → Q 0 N) : fX9_rules x1 x2 x3 x4 x5 x6 x7 N Q := by
  refine ⟨r1, fun h => h0 (by omega), fun h => ⟨r1, fun h' => ?_, fun h' => h0 (by omega)⟩⟩
  refine sp_isIn r3 ⟨by decide, by decide⟩ ⟨by decide, by decide⟩ (fun a1 a2 => q1 ?_) (fun a => q0 (h0 (by omega)))
  refine sp_isIn r4 r3 ⟨by decide, by decide⟩ (fun b1 b2 => q1 ?_) (fun a => q0 (h0 (by omega)))
  refine sp_isIn r5 ⟨by decide, by decide⟩ ⟨by decide, by decide⟩ (fun c1 c2 => q1 ?_) (fun a => q0 (h0 (by omega)))
  refine sp_isIn r6 ⟨by decide, by decide⟩ ⟨by decide, by decide⟩ (fun d1 d2 => q1 ?_) (fun a => q0 (h0 (by omega)))
  refine sp_isIn r7 ⟨by decide, by decide⟩ ⟨by decide, by decide⟩ (fun e1 e2 => q1 ?_) (fun a => q0 (h0 (by omega)))
  have hx : 0 ≤ x1 ∧ x1 < 6 := by omega
  refine ⟨hx, fun M1 e1' => ⟨hx, fun M2 e2' => ⟨hx, fun M3 e3' => ⟨hx, fun M4 e4' => ⟨hx, fun M5 e5' => ⟨hx, fun M6 e6' => ?_⟩⟩⟩⟩⟩⟩
  subst e1'; subst e2'; subst e3'; subst e4'; subst e5'; subst e6'
  exact h1 hx.1 hx.2 a1 b1 b2 c1 c2 d1 d2 e1 e2
theorem sp_isRule {x0 : Int} {M : gMem} {Q : Int → Prop} (r0 : rg x0) (h1 : 0 ≤ x0 → x0 < 6 → Q 1) (h0 : x0 < 0 ∨ 6 ≤ x0 → Q 0) : fX8_isRule x0 M Q :=
  sp_isWithin r0 ⟨by decide, by decide⟩ ⟨by decide, by decide⟩ (fun a b => ⟨Or.inr rfl, h1 a (by omega)⟩) (fun a => ⟨Or.inl rfl, h0 (by omega)⟩)
theorem sp_isMarkRule {x0 x1 x2 : Int} {M : gMem} {Q : Int → Prop} (r0 : rg x0) (r1 : rg x1) (r2 : rg x2) (h1 : 1 ≤ x0 → x0 ≤ x1 → x1 ≤ 200 → 0 ≤ x2 → x2 ≤ 255 → Q 1) (h0 : ¬ (1 ≤ x0 ∧ x0 ≤ x1 ∧ x1 ≤ 200 ∧ 0 ≤ x2 ∧ x2 ≤ 255) → Q 0) : fX8_isMarkRule x0 x1 x2 M Q := by
  refine sp_isWithin r1 ⟨by decide, by decide⟩ ⟨by decide, by decide⟩ (fun a1 a2 => q1 ?_) (fun a => q0 (h0 (by omega)))
  refine sp_isWithin r0 ⟨by decide, by decide⟩ r1 (fun b1 b2 => q1 ?_) (fun a => q0 (h0 (by omega)))
  exact sp_isWithin r2 ⟨by decide, by decide⟩ ⟨by decide, by decide⟩ (fun c1 c2 => q1 (h1 b1 b2 a2 c1 c2)) (fun a => q0 (h0 (by omega)))
theorem ru_step {t : Nat} {M N : gMem} {x1 kd l mo w b x : Int} {M1 : gMem} (hI : Inv t M N) (hx : 0 ≤ x1 ∧ x1 < 6) (hM : ∀ k, k ≠ 7 + x1.toNat → M1 k = M k) (hn : IR (M1 (7 + x1.toNat)) kd l mo w b x) : Inv (t + 1) M1 (ruM N x1 kd l mo w b x) := by
  refine hI.upd_rule (Nat.le_succ t) (fun k hk => hM k (by omega)) (fun k hk => ruM_0 _ _ _ _ _ _ _ _ k (by omega)) (fun i _ => by rw [ruM_0 _ _ _ _ _ _ _ _ 0 (by omega)]) ?_
  refine IC_set hx hI.2.2.1 hM (fun k _ _ r hr => ruM_ne _ _ _ _ _ _ _ _ k r hr) ?_
  obtain ⟨e1, e2, e3, e4, e5, e6⟩ := ruM_at N x1 kd l mo w b x
  rw [e1, e2, e3, e4, e5, e6]
  exact hn
theorem ruC_ne (M : gMem) (k : Nat) (kd l m x : Int) (k' : Nat) (h : k' ≠ k) : ruC M k kd l m x k' = M k' := by
  unfold ruC
  rw [gSt_ne _ _ _ _ _ h, gSt_ne _ _ _ _ _ h, gSt_ne _ _ _ _ _ h, gSt_ne _ _ _ _ _ h]
theorem ruW_ne (M : gMem) (k : Nat) (w b : Int) (k' : Nat) (h : k' ≠ k) : ruW M k w b k' = M k' := by
  unfold ruW
  rw [gSt_ne _ _ _ _ _ h, gSt_ne _ _ _ _ _ h]
theorem sm_fixed {t : Nat} {M N : gMem} {x1 x2 : Int} (hI : Inv t M N) (ht : t ≤ 511) (r1 : rg x1) (r2 : rg x2) {K : gMem → gMem → Prop} (hK : ∀ M1 N1, Inv (t + 1) M1 N1 → K M1 N1) :
    fX8_fixed x1 x2 M (fun r1 M1 => fX9_fixed x1 x2 N (fun r2 N1 => rg r1 ∧ r1 = r2 ∧ K M1 N1)) := by
  have rz : rg (0 : Int) := ⟨by decide, by decide⟩
  have ro : rg (1 : Int) := ⟨by decide, by decide⟩
  have no : ¬ (0 ≤ x1 ∧ x1 < 6 ∧ 1 ≤ x2 ∧ x2 ≤ 200) → fX9_fixed x1 x2 N (fun r2 N1 => rg 0 ∧ 0 = r2 ∧ K M N1) := fun h =>
    sp_rules r1 r2 r2 ro rz rz (fun a b c d e _ _ _ _ _ _ => absurd ⟨a, b, c, e⟩ h) (fun _ => ⟨Or.inl rfl, rz, rfl, hK _ _ hI.next⟩)
  refine sp_isRule r1 (fun a1 a2 => q1 ?_) (fun a => q0 (no (by omega)))
  refine sp_isWithin r2 ⟨by decide, by decide⟩ ⟨by decide, by decide⟩ (fun b1 b2 => q1 ⟨⟨a1, a2⟩, ?_⟩) (fun a => q0 (no (by omega)))
  intro M1 e1 M2 e2 M3 e3 M4 e4
  refine sp_rules r1 r2 r2 ro rz rz (fun _ _ _ _ _ _ _ _ _ _ _ => ⟨Or.inr rfl, ro, rfl, hK _ _ ?_⟩) (fun h => absurd (by omega) h)
  have e : M4 = ruC M (7 + x1.toNat) 0 x2 x2 0 := by rw [e4, e3, e2, e1]; rfl
  rw [e]
  refine ru_step hI ⟨a1, a2⟩ (fun k hk => ruC_ne _ _ _ _ _ _ k hk) ⟨?_, by omega, by omega, fun _ => ⟨?_, ?_, ?_, b1, by omega, b2, by omega, by omega⟩, fun h => by omega⟩ <;> simp [ruC, gSt]
theorem sm_told {t : Nat} {M N : gMem} {x1 x2 x3 x4 : Int} (hI : Inv t M N) (ht : t ≤ 511) (r1 : rg x1) (r2 : rg x2) (r3 : rg x3) (r4 : rg x4) {K : gMem → gMem → Prop} (hK : ∀ M1 N1, Inv (t + 1) M1 N1 → K M1 N1) :
    fX8_told x1 x2 x3 x4 M (fun r1 M1 => fX9_told x1 x2 x3 x4 N (fun r2 N1 => rg r1 ∧ r1 = r2 ∧ K M1 N1)) := by
  have rz : rg (0 : Int) := ⟨by decide, by decide⟩
  have ro : rg (1 : Int) := ⟨by decide, by decide⟩
  have no : ¬ (0 ≤ x1 ∧ x1 < 6 ∧ 1 ≤ x2 ∧ x2 ≤ x3 ∧ x3 ≤ 200 ∧ 0 ≤ x4 ∧ x4 ≤ 255) → fX9_told x1 x2 x3 x4 N (fun r2 N1 => rg 0 ∧ 0 = r2 ∧ K M N1) := fun h =>
    sp_rules r1 r2 r3 ro rz r4 (fun a b c d e _ _ _ _ f g => absurd ⟨a, b, c, d, e, f, g⟩ h) (fun _ => ⟨Or.inl rfl, rz, rfl, hK _ _ hI.next⟩)
  refine sp_isRule r1 (fun a1 a2 => q1 ?_) (fun a => q0 (no (by omega)))
  refine sp_isMarkRule r2 r3 r4 (fun b1 b2 b3 b4 b5 => q1 ⟨⟨a1, a2⟩, ?_⟩) (fun a => q0 (no (by omega)))
  intro M1 e1 M2 e2 M3 e3 M4 e4
  refine sp_rules r1 r2 r3 ro rz r4 (fun _ _ _ _ _ _ _ _ _ _ _ => ⟨Or.inr rfl, ro, rfl, hK _ _ ?_⟩) (fun h => absurd (by omega) h)
  have e : M4 = ruC M (7 + x1.toNat) 3 x2 x3 x4 := by rw [e4, e3, e2, e1]; rfl
  rw [e]
  refine ru_step hI ⟨a1, a2⟩ (fun k hk => ruC_ne _ _ _ _ _ _ k hk) ⟨?_, by omega, by omega, fun _ => ⟨?_, ?_, ?_, b1, by omega, b3, by omega, by omega⟩, fun h => by omega⟩ <;> simp [ruC, gSt]
theorem sm_rolling {t : Nat} {M N : gMem} {x1 x2 x3 x4 x5 x6 x7 : Int} (hI : Inv t M N) (ht : t ≤ 511) (r1 : rg x1) (r2 : x2 = 0 ∨ x2 = 1) (r3 : rg x3) (r4 : rg x4) (r5 : rg x5) (r6 : rg x6) (r7 : rg x7) {K : gMem → gMem → Prop} (hK : ∀ M1 N1, Inv (t + 1) M1 N1 → K M1 N1) :
    fX8_rolling x1 x2 x3 x4 x5 x6 x7 M (fun r1 M1 => fX9_rolling x1 x2 x3 x4 x5 x6 x7 N (fun r2 N1 => rg r1 ∧ r1 = r2 ∧ K M1 N1)) := by
  have rz : rg (0 : Int) := ⟨by decide, by decide⟩
  have ro : rg (1 : Int) := ⟨by decide, by decide⟩
  have rx : rg x2 := by rcases r2 with rfl | rfl <;> exact ⟨by decide, by decide⟩
  have no : ¬ (0 ≤ x1 ∧ x1 < 6 ∧ 1 ≤ x3 ∧ x3 ≤ x4 ∧ x4 ≤ 200 ∧ 1 ≤ x5 ∧ x5 ≤ 16 ∧ 0 ≤ x6 ∧ x6 ≤ 8 ∧ 0 ≤ x7 ∧ x7 ≤ 255) → fX9_rolling x1 x2 x3 x4 x5 x6 x7 N (fun r2 N1 => rg 0 ∧ 0 = r2 ∧ K M N1) := fun h =>
    ⟨rx, fun _ => sp_rules r1 r3 r4 r5 r6 r7 (fun a1 a2 a3 a4 a5 a6 a7 a8 a9 b1 b2 => absurd ⟨a1, a2, a3, a4, a5, a6, a7, a8, a9, b1, b2⟩ h) (fun _ => ⟨Or.inl rfl, rz, rfl, hK _ _ hI.next⟩),
      fun _ => sp_rules r1 r3 r4 r5 r6 r7 (fun a1 a2 a3 a4 a5 a6 a7 a8 a9 b1 b2 => absurd ⟨a1, a2, a3, a4, a5, a6, a7, a8, a9, b1, b2⟩ h) (fun _ => ⟨Or.inl rfl, rz, rfl, hK _ _ hI.next⟩)⟩
  refine sp_isRule r1 (fun a1 a2 => q1 ?_) (fun a => q0 (no (by omega)))
  refine sp_isMarkRule r3 r4 r7 (fun b1 b2 b3 b4 b5 => q1 ?_) (fun a => q0 (no (by omega)))
  refine sp_isWithin r5 ⟨by decide, by decide⟩ ⟨by decide, by decide⟩ (fun c1 c2 => q1 ?_) (fun a => q0 (no (by omega)))
  refine sp_isWithin r6 ⟨by decide, by decide⟩ ⟨by decide, by decide⟩ (fun d1 d2 => q1 ⟨⟨a1, a2⟩, rx, fun hz => ?_, fun hz => ?_⟩) (fun a => q0 (no (by omega)))
  · intro M1 e1 M2 e2 M3 e3 M4 e4
    refine ⟨⟨a1, a2⟩, ?_⟩
    intro M5 e5 M6 e6
    refine ⟨rx, fun _ => ?_, fun g => absurd hz g⟩
    refine sp_rules r1 r3 r4 r5 r6 r7 (fun _ _ _ _ _ _ _ _ _ _ _ => ⟨Or.inr rfl, ro, rfl, hK _ _ ?_⟩) (fun h => absurd (by omega) h)
    have e : M6 = ruW (ruC M (7 + x1.toNat) 1 x3 x4 x7) (7 + x1.toNat) x5 x6 := by rw [e6, e5, e4, e3, e2, e1]; rfl
    rw [e]
    refine ru_step hI ⟨a1, a2⟩ (fun k hk => by rw [ruW_ne _ _ _ _ k hk, ruC_ne _ _ _ _ _ _ k hk]) ⟨?_, by omega, by omega, fun _ => ⟨?_, ?_, ?_, b1, by omega, b3, by omega, by omega⟩, fun h => ⟨?_, ?_, c1, c2, d1, d2⟩⟩ <;> simp [ruW, ruC, gSt]
  · intro M1 e1 M2 e2 M3 e3 M4 e4
    refine ⟨⟨a1, a2⟩, ?_⟩
    intro M5 e5 M6 e6
    refine ⟨rx, fun g => absurd g hz, fun _ => ?_⟩
    refine sp_rules r1 r3 r4 r5 r6 r7 (fun _ _ _ _ _ _ _ _ _ _ _ => ⟨Or.inr rfl, ro, rfl, hK _ _ ?_⟩) (fun h => absurd (by omega) h)
    have e : M6 = ruW (ruC M (7 + x1.toNat) 2 x3 x4 x7) (7 + x1.toNat) x5 x6 := by rw [e6, e5, e4, e3, e2, e1]; rfl
    rw [e]
    refine ru_step hI ⟨a1, a2⟩ (fun k hk => by rw [ruW_ne _ _ _ _ k hk, ruC_ne _ _ _ _ _ _ k hk]) ⟨?_, by omega, by omega, fun _ => ⟨?_, ?_, ?_, b1, by omega, b3, by omega, by omega⟩, fun h => ⟨?_, ?_, c1, c2, d1, d2⟩⟩ <;> simp [ruW, ruC, gSt]
