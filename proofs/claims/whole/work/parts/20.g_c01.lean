abbrev wX1_clear : List Cond := Cond.code yX1_clear cX1_clear 1 none :: gTs
abbrev rmX1_clear : Room := { frames := 1, cells := 0, slots := 0, locals := 23 }
theorem kwX1_clear {c0 : Cond} {rm : Room} (h1 : rmX1_clear.frames + 1 ≤ rm.frames) (h2 : 8 + (1 + 11) + rmX1_clear.locals ≤ rm.locals) : gCw (c0 :: gTs) rm yX1_clear cX1_clear 1 none wX1_clear rmX1_clear 0 := gCw_of wd_500 wd_44 h1 h2 (by decide +kernel)
def fX1_clear  (M : gMem) (Q : gMem → Prop) : Prop :=
  (fJ7_fill_53178 21 8192 0 M (fun M_1 =>
  (∀ M_2, M_2 = gSt M_1 19 3 0 → Q M_2)))
set_option maxHeartbeats 4000000 in
set_option maxRecDepth 100000 in
theorem ctX1_clear {l : Launch} {z : gZ} (hZ : gZc z)   {M : gMem} {Q : gMem → Prop} (h : fX1_clear  M Q) : gMV l z cL yX1_clear wX1_clear rmX1_clear [(vr z 19)] M Q := by
  refine g_metV (by decide) rfl rfl (gCat_all (And.intro rfl trivial)) (Nat.le_of_ble_eq_true rfl) ?_
  intro y hC hR
  replace h : (fJ7_fill_53178 21 8192 0 M (fun M_1 =>
  (∀ M_2, M_2 = gSt M_1 19 3 0 → Q M_2))) := h
  refine g_lc (lc' := [some (vr z 19)]) rfl ?_
  refine g_aload_n hC dX1_clear_0 rfl rfl ?_
  refine g_getr (r := 21) hC rfl (gc_k1 hZ) iwX1 2 (by decide) rfl rfl (wc wd_162) dX1_clear_1 ?_
  refine g_iconst hC dX1_clear_4 ?_
  refine g_callv (g_runS (As := [(vr z 21), (vi 0)]) (rest := []) hC rfl (ctJ7_fill_53178 (c_t0 hZ) rfl (by decide) h) (kwJ7_fill_53178 (by decide) (by decide)) (wc wd_501) (wc wd_183) rfl (Nat.le_of_ble_eq_true rfl) rfl dX1_clear_5) (fun M_1 h => ?_)
  refine g_aload_n hC dX1_clear_8 rfl rfl ?_
  refine g_iconst hC dX1_clear_9 ?_
  obtain ⟨M_2, hM_2⟩ : ∃ M9, M9 = gSt M_1 19 3 0 := ⟨_, rfl⟩
  replace h := h M_2 hM_2
  refine g_puti (ji := 3) hC rfl (gc_k1 hZ) iwX1 tyX1_ok nmX1 3 (by decide) rfl rfl (wc wd_163) rfl rfl dX1_clear_10 rfl hM_2 ?_
  exact g_vret hC hR dX1_clear_13 h
abbrev wX8_spread : List Cond := Cond.code yX8_spread cX8_spread 1 (some .int) :: gTs
abbrev rmX8_spread : Room := { frames := 0, cells := 0, slots := 0, locals := 0 }
theorem kwX8_spread {c0 : Cond} {rm : Room} (h1 : rmX8_spread.frames + 1 ≤ rm.frames) (h2 : 8 + (1 + 11) + rmX8_spread.locals ≤ rm.locals) : gCw (c0 :: gTs) rm yX8_spread cX8_spread 1 (some .int) wX8_spread rmX8_spread 1 := gCw_of wd_518 wd_39 h1 h2 (by decide +kernel)
def fX8_spread (x0 : Int) (M : gMem) (Q : Int → Prop) : Prop :=
  Q (ushr (x0 * (-1640531535)) 19)
set_option maxHeartbeats 4000000 in
set_option maxRecDepth 100000 in
theorem ctX8_spread {l : Launch} {z : gZ} (hZ : gZc z) {x0 : Int}  {M : gMem} {Q : Int → Prop} (h : fX8_spread x0 M Q) : gMI l z cL yX8_spread wX8_spread rmX8_spread [(vi x0)] M (fun r M' => M = M' ∧ Q r) := by
  refine g_metI .int (by decide) rfl rfl (gCat_all (And.intro rfl trivial)) (Nat.le_of_ble_eq_true rfl) ?_
  intro y hC hR
  replace h : Q (ushr (x0 * (-1640531535)) 19) := h
  refine g_lc (lc' := [some (vi x0)]) rfl ?_
  refine g_iload_n hC dX8_spread_0 rfl rfl ?_
  refine g_ldcw hC (n := (-1640531535)) dX8_spread_1 (wc wd_519) (by decide) ?_
  refine g_imul hC dX8_spread_4 ?_
  refine g_bipush hC dX8_spread_5 (by decide) ?_
  refine g_iushr hC (by decide) dX8_spread_7 ?_
  exact g_iret hC hR dX8_spread_8 ⟨rfl, h⟩
abbrev wX1_homeOf : List Cond := Cond.code yX1_homeOf cX1_homeOf 5 (some .int) :: gTs
abbrev rmX1_homeOf : Room := { frames := 1, cells := 0, slots := 0, locals := 20 }
theorem kwX1_homeOf {c0 : Cond} {rm : Room} (h1 : rmX1_homeOf.frames + 1 ≤ rm.frames) (h2 : 8 + (5 + 11) + rmX1_homeOf.locals ≤ rm.locals) : gCw (c0 :: gTs) rm yX1_homeOf cX1_homeOf 5 (some .int) wX1_homeOf rmX1_homeOf 2 := gCw_of wd_515 wd_44 h1 h2 (by decide +kernel)
def fX1_homeOf_L5  (x1 : Int) (x2 : Int) (M : gMem) : Nat → Int → Int → (Int → Prop) → (Int → Prop) → Prop
  | 0, _, _, _, _ => False
  | n5 + 1, x3, x4, K35, Q =>
    (rg x4 ∧ rg x2 ∧ (x4 < x2 →
    ((0 ≤ (x1 + x4) ∧ (x1 + x4) < 4800) ∧ fX1_homeOf_L5 x1 x2 M n5 ((x3 * 31) + (Int.bmod (M 2 (x1 + x4)) 256)) (x4 + 1) K35 Q)) ∧
    (¬ x4 < x2 →
    K35 x3))
set_option maxHeartbeats 4000000 in
set_option maxRecDepth 100000 in
theorem ctX1_homeOf_L5 {y : gY} {z : gZ} {l : Launch} {x1 : Int} {x2 : Int} {M : gMem} {Q : Int → Prop} {K35 : Int → Prop} (hC : gC y z l cX1_homeOf RX1 5 wX1_homeOf rmX1_homeOf) (hR : gRI y z cL .int (fun r M' => M = M' ∧ Q r)) (hZ : gZc z)  (hK35 : ∀ (x3 : Int), K35 x3 → gW y z cL 35 [none, none, none, some (vi x3), none] [] M) :
    ∀ (n : Nat) (x3 : Int) (x4 : Int), fX1_homeOf_L5 x1 x2 M n x3 x4 K35 Q → gW y z cL 5 [some (vr z 19), some (vi x1), some (vi x2), some (vi x3), some (vi x4)] [] M := by
  intro n
  induction n with
  | zero => intro x3 x4 h; exact False.elim h
  | succ n5 ih =>
    intro x3 x4 h
    replace h : (rg x4 ∧ rg x2 ∧ (x4 < x2 →
    ((0 ≤ (x1 + x4) ∧ (x1 + x4) < 4800) ∧ fX1_homeOf_L5 x1 x2 M n5 ((x3 * 31) + (Int.bmod (M 2 (x1 + x4)) 256)) (x4 + 1) K35 Q)) ∧
    (¬ x4 < x2 →
    K35 x3)) := h
    refine g_iload hC dX1_homeOf_5 rfl ?_
    refine g_iload_n hC dX1_homeOf_7 rfl rfl ?_
    obtain ⟨hr_1, hr_2, hA, hB⟩ := h
    refine g_cge hC 35 hr_1 hr_2 dX1_homeOf_8 (by decide) (fun hc_3 => ?_) (fun hc_3 => ?_)
    · replace h := hA hc_3
      clear hA hB
      refine g_iload_n hC dX1_homeOf_11 rfl rfl ?_
      refine g_bipush hC dX1_homeOf_12 (by decide) ?_
      refine g_imul hC dX1_homeOf_14 ?_
      refine g_aload_n hC dX1_homeOf_15 rfl rfl ?_
      refine g_getr (r := 1) hC rfl (gc_k1 hZ) iwX1 0 (by decide) rfl rfl (wc wd_160) dX1_homeOf_16 ?_
      refine g_getr (r := 2) hC rfl (gc_k2 hZ) iwX2 0 (by decide) rfl rfl (wc wd_67) dX1_homeOf_19 ?_
      refine g_iload_n hC dX1_homeOf_22 rfl rfl ?_
      refine g_iload hC dX1_homeOf_23 rfl ?_
      refine g_iadd hC dX1_homeOf_25 ?_
      obtain ⟨hb_4, h⟩ := h
      refine g_bald hC 1 rfl (c_t1 hZ) (by decide) hb_4 dX1_homeOf_26 ?_
      refine g_iadd hC dX1_homeOf_27 ?_
      refine g_istore_n2 (lc' := [some (vr z 19), some (vi x1), some (vi x2), some (vi ((x3 * 31) + (Int.bmod (M 2 (x1 + x4)) 256))), some (vi x4)]) hC dX1_homeOf_28 rfl (Nat.le_of_ble_eq_true rfl) rfl ?_
      refine g_iinc2 (lc' := [some (vr z 19), some (vi x1), some (vi x2), some (vi ((x3 * 31) + (Int.bmod (M 2 (x1 + x4)) 256))), some (vi (x4 + 1))]) hC dX1_homeOf_29 rfl rfl ?_
      refine g_goto hC 5 dX1_homeOf_32 (by decide) ?_
      exact g_subk (ih ((x3 * 31) + (Int.bmod (M 2 (x1 + x4)) 256)) (x4 + 1) h) (And.intro rfl (And.intro rfl (And.intro rfl (And.intro rfl (And.intro rfl trivial)))))
    · replace h := hB hc_3
      clear hA hB
      exact g_subk (hK35 x3 h) (And.intro rfl trivial)
def fX1_homeOf (x1 : Int) (x2 : Int) (M : gMem) (Q : Int → Prop) : Prop :=
  ∃ n_8, fX1_homeOf_L5 x1 x2 M n_8 x2 0 (fun x3_5 =>
  (fX8_spread x3_5 M (fun r_6 =>
    Q r_6))) Q
set_option maxHeartbeats 4000000 in
set_option maxRecDepth 100000 in
theorem ctX1_homeOf {l : Launch} {z : gZ} (hZ : gZc z) {x1 : Int} {x2 : Int}  {M : gMem} {Q : Int → Prop} (h : fX1_homeOf x1 x2 M Q) : gMI l z cL yX1_homeOf wX1_homeOf rmX1_homeOf [(vr z 19), (vi x1), (vi x2)] M (fun r M' => M = M' ∧ Q r) := by
  refine g_metI .int (by decide) rfl rfl (gCat_all (And.intro rfl (And.intro rfl (And.intro rfl trivial)))) (Nat.le_of_ble_eq_true rfl) ?_
  intro y hC hR
  replace h : ∃ n_8, fX1_homeOf_L5 x1 x2 M n_8 x2 0 (fun x3_5 =>
  (fX8_spread x3_5 M (fun r_6 =>
    Q r_6))) Q := h
  refine g_lc (lc' := [some (vr z 19), some (vi x1), some (vi x2), none, none]) rfl ?_
  refine g_iload_n hC dX1_homeOf_0 rfl rfl ?_
  refine g_istore_n2 (lc' := [some (vr z 19), some (vi x1), some (vi x2), some (vi x2), none]) hC dX1_homeOf_1 rfl (Nat.le_of_ble_eq_true rfl) rfl ?_
  refine g_iconst hC dX1_homeOf_2 ?_
  refine g_istore2 (lc' := [some (vr z 19), some (vi x1), some (vi x2), some (vi x2), some (vi 0)]) hC dX1_homeOf_3 (Nat.le_of_ble_eq_true rfl) rfl ?_
  obtain ⟨n_8, h⟩ := h
  refine g_subk (ctX1_homeOf_L5 hC hR hZ ?_ n_8 x2 0 h) (And.intro rfl (And.intro rfl (And.intro rfl (And.intro rfl (And.intro rfl trivial)))))
  intro x3_5 h
  refine g_iload_n hC dX1_homeOf_35 rfl rfl ?_
  refine g_calli (g_runSN (As := [(vi x3_5)]) (rest := []) (host := "CutStore") hC rfl (ctX8_spread hZ  h) (kwX8_spread (by decide) (by decide)) (gc_ns516 hZ) (wc wd_517) rfl (Nat.le_of_ble_eq_true rfl) rfl dX1_homeOf_36) (fun r_6 M_7 h => ?_)
  obtain ⟨rfl, h⟩ := h
  exact g_iret hC hR dX1_homeOf_39 ⟨rfl, h⟩
abbrev wX8_areAlike : List Cond := Cond.code yX8_areAlike cX8_areAlike 6 (some .boolean) :: gTs
abbrev rmX8_areAlike : Room := { frames := 0, cells := 0, slots := 0, locals := 0 }
theorem kwX8_areAlike {c0 : Cond} {rm : Room} (h1 : rmX8_areAlike.frames + 1 ≤ rm.frames) (h2 : 8 + (6 + 11) + rmX8_areAlike.locals ≤ rm.locals) : gCw (c0 :: gTs) rm yX8_areAlike cX8_areAlike 6 (some .boolean) wX8_areAlike rmX8_areAlike 5 := gCw_of wd_492 wd_39 h1 h2 (by decide +kernel)
def fX8_areAlike_L3 (k0 n0 : Nat) (k2 n2 : Nat) (x1 : Int) (x3 : Int) (x4 : Int) (M : gMem) : Nat → Int → (Int → Prop) → Prop
  | 0, _, _ => False
  | n3 + 1, x5, Q =>
    (rg x5 ∧ rg x4 ∧ (x5 < x4 →
    ((0 ≤ (x1 + x5) ∧ (x1 + x5) < n0) ∧ ((0 ≤ (x3 + x5) ∧ (x3 + x5) < n2) ∧ (rg (Int.bmod (M k0 (x1 + x5)) 256) ∧ rg (Int.bmod (M k2 (x3 + x5)) 256) ∧ ((Int.bmod (M k0 (x1 + x5)) 256) = (Int.bmod (M k2 (x3 + x5)) 256) →
      fX8_areAlike_L3 k0 n0 k2 n2 x1 x3 x4 M n3 (x5 + 1) Q) ∧
      (¬ (Int.bmod (M k0 (x1 + x5)) 256) = (Int.bmod (M k2 (x3 + x5)) 256) →
      Q 0))))) ∧
    (¬ x5 < x4 →
    Q 1))
set_option maxHeartbeats 4000000 in
set_option maxRecDepth 100000 in
theorem ctX8_areAlike_L3 {y : gY} {z : gZ} {l : Launch} {k0 n0 : Nat} {k2 n2 : Nat} {x1 : Int} {x3 : Int} {x4 : Int} {M : gMem} {Q : Int → Prop}  (hC : gC y z l cX8_areAlike RX8 6 wX8_areAlike rmX8_areAlike) (hR : gRI y z cL .boolean (fun r M' => M = M' ∧ Q r)) (hZ : gZc z) (h0 : cL[k0]? = some (.inl (1, n0))) (hn0 : n0 < 2147483648) (h2 : cL[k2]? = some (.inl (1, n2))) (hn2 : n2 < 2147483648) :
    ∀ (n : Nat) (x5 : Int), fX8_areAlike_L3 k0 n0 k2 n2 x1 x3 x4 M n x5 Q → gW y z cL 3 [some (vr z k0), some (vi x1), some (vr z k2), some (vi x3), some (vi x4), some (vi x5)] [] M := by
  intro n
  induction n with
  | zero => intro x5 h; exact False.elim h
  | succ n3 ih =>
    intro x5 h
    replace h : (rg x5 ∧ rg x4 ∧ (x5 < x4 →
    ((0 ≤ (x1 + x5) ∧ (x1 + x5) < n0) ∧ ((0 ≤ (x3 + x5) ∧ (x3 + x5) < n2) ∧ (rg (Int.bmod (M k0 (x1 + x5)) 256) ∧ rg (Int.bmod (M k2 (x3 + x5)) 256) ∧ ((Int.bmod (M k0 (x1 + x5)) 256) = (Int.bmod (M k2 (x3 + x5)) 256) →
      fX8_areAlike_L3 k0 n0 k2 n2 x1 x3 x4 M n3 (x5 + 1) Q) ∧
      (¬ (Int.bmod (M k0 (x1 + x5)) 256) = (Int.bmod (M k2 (x3 + x5)) 256) →
      Q 0))))) ∧
    (¬ x5 < x4 →
    Q 1)) := h
    refine g_iload hC dX8_areAlike_3 rfl ?_
    refine g_iload hC dX8_areAlike_5 rfl ?_
    obtain ⟨hr_1, hr_2, hA, hB⟩ := h
    refine g_cge hC 33 hr_1 hr_2 dX8_areAlike_7 (by decide) (fun hc_3 => ?_) (fun hc_3 => ?_)
    · replace h := hA hc_3
      clear hA hB
      refine g_aload_n hC dX8_areAlike_10 rfl rfl ?_
      refine g_iload_n hC dX8_areAlike_11 rfl rfl ?_
      refine g_iload hC dX8_areAlike_12 rfl ?_
      refine g_iadd hC dX8_areAlike_14 ?_
      obtain ⟨hb_4, h⟩ := h
      refine g_bald hC 1 h0 (c_t1 hZ) hn0 hb_4 dX8_areAlike_15 ?_
      refine g_aload_n hC dX8_areAlike_16 rfl rfl ?_
      refine g_iload_n hC dX8_areAlike_17 rfl rfl ?_
      refine g_iload hC dX8_areAlike_18 rfl ?_
      refine g_iadd hC dX8_areAlike_20 ?_
      obtain ⟨hb_5, h⟩ := h
      refine g_bald hC 1 h2 (c_t1 hZ) hn2 hb_5 dX8_areAlike_21 ?_
      obtain ⟨hr_6, hr_7, hA, hB⟩ := h
      refine g_ceq hC 27 hr_6 hr_7 dX8_areAlike_22 (by decide) (fun hc_8 => ?_) (fun hc_8 => ?_)
      · replace h := hA hc_8
        clear hA hB
        refine g_iinc2 (lc' := [some (vr z k0), some (vi x1), some (vr z k2), some (vi x3), some (vi x4), some (vi (x5 + 1))]) hC dX8_areAlike_27 rfl rfl ?_
        refine g_goto hC 3 dX8_areAlike_30 (by decide) ?_
        exact g_subk (ih (x5 + 1) h) (And.intro rfl (And.intro rfl (And.intro rfl (And.intro rfl (And.intro rfl (And.intro rfl trivial))))))
      · replace h := hB hc_8
        clear hA hB
        refine g_iconst hC dX8_areAlike_25 ?_
        exact g_zret hC hR (by decide) dX8_areAlike_26 ⟨rfl, h⟩
    · replace h := hB hc_3
      clear hA hB
      refine g_iconst hC dX8_areAlike_33 ?_
      exact g_zret hC hR (by decide) dX8_areAlike_34 ⟨rfl, h⟩
def fX8_areAlike (k0 n0 : Nat) (x1 : Int) (k2 n2 : Nat) (x3 : Int) (x4 : Int) (M : gMem) (Q : Int → Prop) : Prop :=
  ∃ n_9, fX8_areAlike_L3 k0 n0 k2 n2 x1 x3 x4 M n_9 0 Q
set_option maxHeartbeats 4000000 in
set_option maxRecDepth 100000 in
theorem ctX8_areAlike {l : Launch} {z : gZ} (hZ : gZc z) {k0 n0 : Nat} {x1 : Int} {k2 n2 : Nat} {x3 : Int} {x4 : Int} (h0 : cL[k0]? = some (.inl (1, n0))) (hn0 : n0 < 2147483648) (h2 : cL[k2]? = some (.inl (1, n2))) (hn2 : n2 < 2147483648) {M : gMem} {Q : Int → Prop} (h : fX8_areAlike k0 n0 x1 k2 n2 x3 x4 M Q) : gMI l z cL yX8_areAlike wX8_areAlike rmX8_areAlike [(vr z k0), (vi x1), (vr z k2), (vi x3), (vi x4)] M (fun r M' => M = M' ∧ Q r) := by
  refine g_metI .boolean (by decide) rfl rfl (gCat_all (And.intro rfl (And.intro rfl (And.intro rfl (And.intro rfl (And.intro rfl trivial)))))) (Nat.le_of_ble_eq_true rfl) ?_
  intro y hC hR
  replace h : ∃ n_9, fX8_areAlike_L3 k0 n0 k2 n2 x1 x3 x4 M n_9 0 Q := h
  refine g_lc (lc' := [some (vr z k0), some (vi x1), some (vr z k2), some (vi x3), some (vi x4), none]) rfl ?_
  refine g_iconst hC dX8_areAlike_0 ?_
  refine g_istore2 (lc' := [some (vr z k0), some (vi x1), some (vr z k2), some (vi x3), some (vi x4), some (vi 0)]) hC dX8_areAlike_1 (Nat.le_of_ble_eq_true rfl) rfl ?_
  obtain ⟨n_9, h⟩ := h
  refine g_subk (ctX8_areAlike_L3 hC hR hZ h0 hn0 h2 hn2 n_9 0 h) (And.intro rfl (And.intro rfl (And.intro rfl (And.intro rfl (And.intro rfl (And.intro rfl trivial))))))
abbrev wX1_addPiece : List Cond := Cond.code yX1_addPiece cX1_addPiece 6 (some .boolean) :: gTs
abbrev rmX1_addPiece : Room := { frames := 2, cells := 0, slots := 0, locals := 44 }
theorem kwX1_addPiece {c0 : Cond} {rm : Room} (h1 : rmX1_addPiece.frames + 1 ≤ rm.frames) (h2 : 8 + (6 + 11) + rmX1_addPiece.locals ≤ rm.locals) : gCw (c0 :: gTs) rm yX1_addPiece cX1_addPiece 6 (some .boolean) wX1_addPiece rmX1_addPiece 2 := gCw_of wd_511 wd_44 h1 h2 (by decide +kernel)
def fX1_addPiece_L10  (x1 : Int) (x2 : Int) (x3 : Int) (M : gMem) : Nat → Int → (Int → Prop) → (Int → gMem → Prop) → Prop
  | 0, _, _, _ => False
  | n10 + 1, x4, K38, Q =>
    (rg x4 ∧ (x4 < 8192 →
    ((0 ≤ (band (x3 + x4) 8191) ∧ (band (x3 + x4) 8191) < 8192) ∧ (rg (M 21 (band (x3 + x4) 8191)) ∧ ((M 21 (band (x3 + x4) 8191)) = 0 →
      K38 (band (x3 + x4) 8191)) ∧
      (¬ (M 21 (band (x3 + x4) 8191)) = 0 →
      ((0 ≤ (band (x3 + x4) 8191) ∧ (band (x3 + x4) 8191) < 8192) ∧ (rg (M 21 (band (x3 + x4) 8191)) ∧ rg x2 ∧ ((M 21 (band (x3 + x4) 8191)) = x2 →
        ((0 ≤ (band (x3 + x4) 8191) ∧ (band (x3 + x4) 8191) < 8192) ∧ (fX8_areAlike 2 4800 (M 20 (band (x3 + x4) 8191)) 2 4800 x1 x2 M (fun r_13 =>
          (rg r_13 ∧ (r_13 = 0 →
          fX1_addPiece_L10 x1 x2 x3 M n10 (x4 + 1) K38 Q) ∧
          (¬ r_13 = 0 →
          Q 0 M)))))) ∧
        (¬ (M 21 (band (x3 + x4) 8191)) = x2 →
        fX1_addPiece_L10 x1 x2 x3 M n10 (x4 + 1) K38 Q))))))) ∧
    (¬ x4 < 8192 →
    Q 0 M))
set_option maxHeartbeats 4000000 in
set_option maxRecDepth 100000 in
theorem ctX1_addPiece_L10 {y : gY} {z : gZ} {l : Launch} {x1 : Int} {x2 : Int} {x3 : Int} {M : gMem} {Q : Int → gMem → Prop} {K38 : Int → Prop} (hC : gC y z l cX1_addPiece RX1 6 wX1_addPiece rmX1_addPiece) (hR : gRI y z cL .boolean Q) (hZ : gZc z)  (hK38 : ∀ (x5 : Int), K38 x5 → gW y z cL 38 [some (vr z 19), some (vi x1), some (vi x2), none, none, some (vi x5)] [] M) :
    ∀ (n : Nat) (x4 : Int), fX1_addPiece_L10 x1 x2 x3 M n x4 K38 Q → gW y z cL 10 [some (vr z 19), some (vi x1), some (vi x2), some (vi x3), some (vi x4), none] [] M := by
  intro n
  induction n with
  | zero => intro x4 h; exact False.elim h
  | succ n10 ih =>
    intro x4 h
    replace h : (rg x4 ∧ (x4 < 8192 →
    ((0 ≤ (band (x3 + x4) 8191) ∧ (band (x3 + x4) 8191) < 8192) ∧ (rg (M 21 (band (x3 + x4) 8191)) ∧ ((M 21 (band (x3 + x4) 8191)) = 0 →
      K38 (band (x3 + x4) 8191)) ∧
      (¬ (M 21 (band (x3 + x4) 8191)) = 0 →
      ((0 ≤ (band (x3 + x4) 8191) ∧ (band (x3 + x4) 8191) < 8192) ∧ (rg (M 21 (band (x3 + x4) 8191)) ∧ rg x2 ∧ ((M 21 (band (x3 + x4) 8191)) = x2 →
        ((0 ≤ (band (x3 + x4) 8191) ∧ (band (x3 + x4) 8191) < 8192) ∧ (fX8_areAlike 2 4800 (M 20 (band (x3 + x4) 8191)) 2 4800 x1 x2 M (fun r_13 =>
          (rg r_13 ∧ (r_13 = 0 →
          fX1_addPiece_L10 x1 x2 x3 M n10 (x4 + 1) K38 Q) ∧
          (¬ r_13 = 0 →
          Q 0 M)))))) ∧
        (¬ (M 21 (band (x3 + x4) 8191)) = x2 →
        fX1_addPiece_L10 x1 x2 x3 M n10 (x4 + 1) K38 Q))))))) ∧
    (¬ x4 < 8192 →
    Q 0 M)) := h
    refine g_iload hC dX1_addPiece_10 rfl ?_
    refine g_sipush hC dX1_addPiece_12 (by decide) ?_
    obtain ⟨hr_3, hA, hB⟩ := h
    refine g_cge hC 114 hr_3 (by decide) dX1_addPiece_15 (by decide) (fun hc_4 => ?_) (fun hc_4 => ?_)
    · replace h := hA hc_4
      clear hA hB
      refine g_iload_n hC dX1_addPiece_18 rfl rfl ?_
      refine g_iload hC dX1_addPiece_19 rfl ?_
      refine g_iadd hC dX1_addPiece_21 ?_
      refine g_sipush hC dX1_addPiece_22 (by decide) ?_
      refine g_iand hC dX1_addPiece_25 ?_
      refine g_istore2 (lc' := [some (vr z 19), some (vi x1), some (vi x2), some (vi x3), some (vi x4), some (vi (band (x3 + x4) 8191))]) hC dX1_addPiece_26 (Nat.le_of_ble_eq_true rfl) rfl ?_
      refine g_aload_n hC dX1_addPiece_28 rfl rfl ?_
      refine g_getr (r := 21) hC rfl (gc_k1 hZ) iwX1 2 (by decide) rfl rfl (wc wd_162) dX1_addPiece_29 ?_
      refine g_iload hC dX1_addPiece_32 rfl ?_
      obtain ⟨hb_5, h⟩ := h
      refine g_iald hC 0 rfl (c_t0 hZ) (by decide) hb_5 dX1_addPiece_34 ?_
      obtain ⟨hr_6, hA, hB⟩ := h
      refine g_ine hC 66 hr_6 dX1_addPiece_35 (by decide) (fun hc_7 => ?_) (fun hc_7 => ?_)
      · replace h := hA hc_7
        clear hA hB
        exact g_subk (hK38 (band (x3 + x4) 8191) h) (And.intro rfl (And.intro rfl (And.intro rfl (And.intro rfl trivial))))
      · replace h := hB hc_7
        clear hA hB
        refine g_aload_n hC dX1_addPiece_66 rfl rfl ?_
        refine g_getr (r := 21) hC rfl (gc_k1 hZ) iwX1 2 (by decide) rfl rfl (wc wd_162) dX1_addPiece_67 ?_
        refine g_iload hC dX1_addPiece_70 rfl ?_
        obtain ⟨hb_8, h⟩ := h
        refine g_iald hC 0 rfl (c_t0 hZ) (by decide) hb_8 dX1_addPiece_72 ?_
        refine g_iload_n hC dX1_addPiece_73 rfl rfl ?_
        obtain ⟨hr_9, hr_10, hA, hB⟩ := h
        refine g_cne hC 108 hr_9 hr_10 dX1_addPiece_74 (by decide) (fun hc_11 => ?_) (fun hc_11 => ?_)
        · replace h := hA hc_11
          clear hA hB
          refine g_aload_n hC dX1_addPiece_77 rfl rfl ?_
          refine g_getr (r := 1) hC rfl (gc_k1 hZ) iwX1 0 (by decide) rfl rfl (wc wd_160) dX1_addPiece_78 ?_
          refine g_getr (r := 2) hC rfl (gc_k2 hZ) iwX2 0 (by decide) rfl rfl (wc wd_67) dX1_addPiece_81 ?_
          refine g_aload_n hC dX1_addPiece_84 rfl rfl ?_
          refine g_getr (r := 20) hC rfl (gc_k1 hZ) iwX1 1 (by decide) rfl rfl (wc wd_161) dX1_addPiece_85 ?_
          refine g_iload hC dX1_addPiece_88 rfl ?_
          obtain ⟨hb_12, h⟩ := h
          refine g_iald hC 0 rfl (c_t0 hZ) (by decide) hb_12 dX1_addPiece_90 ?_
          refine g_aload_n hC dX1_addPiece_91 rfl rfl ?_
          refine g_getr (r := 1) hC rfl (gc_k1 hZ) iwX1 0 (by decide) rfl rfl (wc wd_160) dX1_addPiece_92 ?_
          refine g_getr (r := 2) hC rfl (gc_k2 hZ) iwX2 0 (by decide) rfl rfl (wc wd_67) dX1_addPiece_95 ?_
          refine g_iload_n hC dX1_addPiece_98 rfl rfl ?_
          refine g_iload_n hC dX1_addPiece_99 rfl rfl ?_
          refine g_calli (g_runSN (As := [(vr z 2), (vi (M 20 (band (x3 + x4) 8191))), (vr z 2), (vi x1), (vi x2)]) (rest := []) (host := "CutStore") hC rfl (ctX8_areAlike hZ rfl (by decide) rfl (by decide) h) (kwX8_areAlike (by decide) (by decide)) (gc_ns520 hZ) (wc wd_491) rfl (Nat.le_of_ble_eq_true rfl) rfl dX1_addPiece_100) (fun r_13 M_14 h => ?_)
          obtain ⟨rfl, h⟩ := h
          obtain ⟨hr_15, hA, hB⟩ := h
          refine g_ieq hC 108 hr_15 dX1_addPiece_103 (by decide) (fun hc_16 => ?_) (fun hc_16 => ?_)
          · replace h := hA hc_16
            clear hA hB
            refine g_iinc2 (lc' := [some (vr z 19), some (vi x1), some (vi x2), some (vi x3), some (vi (x4 + 1)), some (vi (band (x3 + x4) 8191))]) hC dX1_addPiece_108 rfl rfl ?_
            refine g_goto hC 10 dX1_addPiece_111 (by decide) ?_
            exact g_subk (ih (x4 + 1) h) (And.intro rfl (And.intro rfl (And.intro rfl (And.intro rfl (And.intro rfl trivial)))))
          · replace h := hB hc_16
            clear hA hB
            refine g_iconst hC dX1_addPiece_106 ?_
            exact g_zret hC hR (by decide) dX1_addPiece_107 h
        · replace h := hB hc_11
          clear hA hB
          refine g_iinc2 (lc' := [some (vr z 19), some (vi x1), some (vi x2), some (vi x3), some (vi (x4 + 1)), some (vi (band (x3 + x4) 8191))]) hC dX1_addPiece_108 rfl rfl ?_
          refine g_goto hC 10 dX1_addPiece_111 (by decide) ?_
          exact g_subk (ih (x4 + 1) h) (And.intro rfl (And.intro rfl (And.intro rfl (And.intro rfl (And.intro rfl trivial)))))
    · replace h := hB hc_4
      clear hA hB
      refine g_iconst hC dX1_addPiece_114 ?_
      exact g_zret hC hR (by decide) dX1_addPiece_115 h
def fX1_addPiece (x1 : Int) (x2 : Int) (M : gMem) (Q : Int → gMem → Prop) : Prop :=
  (fX1_homeOf x1 x2 M (fun r_1 =>
  ∃ n_23, fX1_addPiece_L10 x1 x2 r_1 M n_23 0 (fun x5_17 =>
  ((0 ≤ x5_17 ∧ x5_17 < 8192) ∧ ∀ M_19, M_19 = gSt M 20 x5_17 x1 → ((0 ≤ x5_17 ∧ x5_17 < 8192) ∧ ∀ M_21, M_21 = gSt M_19 21 x5_17 x2 → (∀ M_22, M_22 = gSt M_21 19 3 ((M_21 19 3) + 1) → Q 1 M_22)))) Q))
set_option maxHeartbeats 4000000 in
set_option maxRecDepth 100000 in
theorem ctX1_addPiece {l : Launch} {z : gZ} (hZ : gZc z) {x1 : Int} {x2 : Int}  {M : gMem} {Q : Int → gMem → Prop} (h : fX1_addPiece x1 x2 M Q) : gMI l z cL yX1_addPiece wX1_addPiece rmX1_addPiece [(vr z 19), (vi x1), (vi x2)] M Q := by
  refine g_metI .boolean (by decide) rfl rfl (gCat_all (And.intro rfl (And.intro rfl (And.intro rfl trivial)))) (Nat.le_of_ble_eq_true rfl) ?_
  intro y hC hR
  replace h : (fX1_homeOf x1 x2 M (fun r_1 =>
  ∃ n_23, fX1_addPiece_L10 x1 x2 r_1 M n_23 0 (fun x5_17 =>
  ((0 ≤ x5_17 ∧ x5_17 < 8192) ∧ ∀ M_19, M_19 = gSt M 20 x5_17 x1 → ((0 ≤ x5_17 ∧ x5_17 < 8192) ∧ ∀ M_21, M_21 = gSt M_19 21 x5_17 x2 → (∀ M_22, M_22 = gSt M_21 19 3 ((M_21 19 3) + 1) → Q 1 M_22)))) Q)) := h
  refine g_lc (lc' := [some (vr z 19), some (vi x1), some (vi x2), none, none, none]) rfl ?_
  refine g_aload_n hC dX1_addPiece_0 rfl rfl ?_
  refine g_iload_n hC dX1_addPiece_1 rfl rfl ?_
  refine g_iload_n hC dX1_addPiece_2 rfl rfl ?_
  refine g_calli (g_runV (As := [(vi x1), (vi x2)]) (rest := []) hC rfl (ctX1_homeOf hZ  h) rfl (gc_k1 hZ) (kwX1_homeOf (by decide) (by decide)) rfl (wc wd_512) (wc wd_514) (wc wd_6) rfl (Nat.le_of_ble_eq_true rfl) rfl dX1_addPiece_3) (fun r_1 M_2 h => ?_)
  obtain ⟨rfl, h⟩ := h
  refine g_istore_n2 (lc' := [some (vr z 19), some (vi x1), some (vi x2), some (vi r_1), none, none]) hC dX1_addPiece_6 rfl (Nat.le_of_ble_eq_true rfl) rfl ?_
  refine g_iconst hC dX1_addPiece_7 ?_
  refine g_istore2 (lc' := [some (vr z 19), some (vi x1), some (vi x2), some (vi r_1), some (vi 0), none]) hC dX1_addPiece_8 (Nat.le_of_ble_eq_true rfl) rfl ?_
  obtain ⟨n_23, h⟩ := h
  refine g_subk (ctX1_addPiece_L10 hC hR hZ ?_ n_23 0 h) (And.intro rfl (And.intro rfl (And.intro rfl (And.intro rfl (And.intro rfl trivial)))))
  intro x5_17 h
  refine g_aload_n hC dX1_addPiece_38 rfl rfl ?_
  refine g_getr (r := 20) hC rfl (gc_k1 hZ) iwX1 1 (by decide) rfl rfl (wc wd_161) dX1_addPiece_39 ?_
  refine g_iload hC dX1_addPiece_42 rfl ?_
  refine g_iload_n hC dX1_addPiece_44 rfl rfl ?_
  obtain ⟨hb_18, h⟩ := h
  obtain ⟨M_19, hM_19⟩ : ∃ M9, M9 = gSt M 20 x5_17 x1 := ⟨_, rfl⟩
  replace h := h M_19 hM_19
  refine g_iast hC 0 rfl (c_t0 hZ) (by decide) hb_18 dX1_addPiece_45 hM_19 ?_
  refine g_aload_n hC dX1_addPiece_46 rfl rfl ?_
  refine g_getr (r := 21) hC rfl (gc_k1 hZ) iwX1 2 (by decide) rfl rfl (wc wd_162) dX1_addPiece_47 ?_
  refine g_iload hC dX1_addPiece_50 rfl ?_
  refine g_iload_n hC dX1_addPiece_52 rfl rfl ?_
  obtain ⟨hb_20, h⟩ := h
  obtain ⟨M_21, hM_21⟩ : ∃ M9, M9 = gSt M_19 21 x5_17 x2 := ⟨_, rfl⟩
  replace h := h M_21 hM_21
  refine g_iast hC 0 rfl (c_t0 hZ) (by decide) hb_20 dX1_addPiece_53 hM_21 ?_
  refine g_aload_n hC dX1_addPiece_54 rfl rfl ?_
  refine g_dup hC dX1_addPiece_55 rfl ?_
  refine g_geti (ji := 3) hC rfl (gc_k1 hZ) iwX1 3 (by decide) rfl rfl (wc wd_163) dX1_addPiece_56 rfl ?_
  refine g_iconst hC dX1_addPiece_59 ?_
  refine g_iadd hC dX1_addPiece_60 ?_
  obtain ⟨M_22, hM_22⟩ : ∃ M9, M9 = gSt M_21 19 3 ((M_21 19 3) + 1) := ⟨_, rfl⟩
  replace h := h M_22 hM_22
  refine g_puti (ji := 3) hC rfl (gc_k1 hZ) iwX1 tyX1_ok nmX1 3 (by decide) rfl rfl (wc wd_163) rfl rfl dX1_addPiece_61 rfl hM_22 ?_
  refine g_iconst hC dX1_addPiece_64 ?_
  exact g_zret hC hR (by decide) dX1_addPiece_65 h
abbrev wX1_addPieces : List Cond := Cond.code yX1_addPieces cX1_addPieces 4 (some .int) :: gTs
abbrev rmX1_addPieces : Room := { frames := 3, cells := 0, slots := 0, locals := 69 }
theorem kwX1_addPieces {c0 : Cond} {rm : Room} (h1 : rmX1_addPieces.frames + 1 ≤ rm.frames) (h2 : 8 + (4 + 11) + rmX1_addPieces.locals ≤ rm.locals) : gCw (c0 :: gTs) rm yX1_addPieces cX1_addPieces 4 (some .int) wX1_addPieces rmX1_addPieces 1 := gCw_of wd_505 wd_44 h1 h2 (by decide +kernel)
def fX1_addPieces_L4 (k1 : Nat) : Nat → Int → Int → gMem → (Int → gMem → Prop) → Prop
  | 0, _, _, _, _ => False
  | n4 + 1, x2, x3, M, Q =>
    (rg x3 ∧ rg (M k1 3) ∧ (x3 < (M k1 3) →
    (fX0_startOf k1 x3 M (fun r_4 =>
      (fX0_lengthOf k1 x3 M (fun r_6 =>
      (fX1_addPiece r_4 r_6 M (fun r_8 M_9 =>
      (rg r_8 ∧ (r_8 = 0 →
      fX1_addPieces_L4 k1 n4 x2 (x3 + 1) M_9 Q) ∧
      (¬ r_8 = 0 →
      (fX0_lengthOf k1 x3 M_9 (fun r_12 =>
        fX1_addPieces_L4 k1 n4 (x2 + r_12) (x3 + 1) M_9 Q))))))))))) ∧
    (¬ x3 < (M k1 3) →
    Q x2 M))
set_option maxHeartbeats 4000000 in
set_option maxRecDepth 100000 in
theorem ctX1_addPieces_L4 {y : gY} {z : gZ} {l : Launch} {k1 : Nat}  {Q : Int → gMem → Prop}  (hC : gC y z l cX1_addPieces RX1 4 wX1_addPieces rmX1_addPieces) (hR : gRI y z cL .int Q) (hZ : gZc z) (h1 : k1 = 13 ∨ k1 = 16) :
    ∀ (n : Nat) (x2 : Int) (x3 : Int) (M : gMem), fX1_addPieces_L4 k1 n x2 x3 M Q → gW y z cL 4 [some (vr z 19), some (vr z k1), some (vi x2), some (vi x3)] [] M := by
  intro n
  induction n with
  | zero => intro x2 x3 M h; exact False.elim h
  | succ n4 ih =>
    intro x2 x3 M h
    replace h : (rg x3 ∧ rg (M k1 3) ∧ (x3 < (M k1 3) →
    (fX0_startOf k1 x3 M (fun r_4 =>
      (fX0_lengthOf k1 x3 M (fun r_6 =>
      (fX1_addPiece r_4 r_6 M (fun r_8 M_9 =>
      (rg r_8 ∧ (r_8 = 0 →
      fX1_addPieces_L4 k1 n4 x2 (x3 + 1) M_9 Q) ∧
      (¬ r_8 = 0 →
      (fX0_lengthOf k1 x3 M_9 (fun r_12 =>
        fX1_addPieces_L4 k1 n4 (x2 + r_12) (x3 + 1) M_9 Q))))))))))) ∧
    (¬ x3 < (M k1 3) →
    Q x2 M)) := h
    refine g_iload_n hC dX1_addPieces_4 rfl rfl ?_
    refine g_aload_n hC dX1_addPieces_5 rfl rfl ?_
    refine g_geti (ji := 3) hC (lay_cut h1) (gc_k0 hZ) iwX0 3 (by decide) rfl rfl (wc wd_139) dX1_addPieces_6 rfl ?_
    obtain ⟨hr_1, hr_2, hA, hB⟩ := h
    refine g_cge hC 43 hr_1 hr_2 dX1_addPieces_9 (by decide) (fun hc_3 => ?_) (fun hc_3 => ?_)
    · replace h := hA hc_3
      clear hA hB
      refine g_aload_n hC dX1_addPieces_12 rfl rfl ?_
      refine g_aload_n hC dX1_addPieces_13 rfl rfl ?_
      refine g_iload_n hC dX1_addPieces_14 rfl rfl ?_
      refine g_calli (g_runV (As := [(vi x3)]) (rest := [(vr z 19)]) hC rfl (ctX0_startOf hZ h1 h) (lay_cut h1) (gc_k0 hZ) (kwX0_startOf (by decide) (by decide)) rfl (wc wd_506) (wc wd_486) (wc wd_487) rfl (Nat.le_of_ble_eq_true rfl) rfl dX1_addPieces_15) (fun r_4 M_5 h => ?_)
      obtain ⟨rfl, h⟩ := h
      refine g_aload_n hC dX1_addPieces_18 rfl rfl ?_
      refine g_iload_n hC dX1_addPieces_19 rfl rfl ?_
      refine g_calli (g_runV (As := [(vi x3)]) (rest := [(vi r_4), (vr z 19)]) hC rfl (ctX0_lengthOf hZ h1 h) (lay_cut h1) (gc_k0 hZ) (kwX0_lengthOf (by decide) (by decide)) rfl (wc wd_507) (wc wd_482) (wc wd_483) rfl (Nat.le_of_ble_eq_true rfl) rfl dX1_addPieces_20) (fun r_6 M_7 h => ?_)
      obtain ⟨rfl, h⟩ := h
      refine g_calli (g_runV (As := [(vi r_4), (vi r_6)]) (rest := []) hC rfl (ctX1_addPiece hZ  h) rfl (gc_k1 hZ) (kwX1_addPiece (by decide) (by decide)) rfl (wc wd_508) (wc wd_510) (wc wd_5) rfl (Nat.le_of_ble_eq_true rfl) rfl dX1_addPieces_23) (fun r_8 M_9 h => ?_)
      obtain ⟨hr_10, hA, hB⟩ := h
      refine g_ieq hC 37 hr_10 dX1_addPieces_26 (by decide) (fun hc_11 => ?_) (fun hc_11 => ?_)
      · replace h := hA hc_11
        clear hA hB
        refine g_iinc2 (lc' := [some (vr z 19), some (vr z k1), some (vi x2), some (vi (x3 + 1))]) hC dX1_addPieces_37 rfl rfl ?_
        refine g_goto hC 4 dX1_addPieces_40 (by decide) ?_
        exact g_subk (ih x2 (x3 + 1) M_9 h) (And.intro rfl (And.intro rfl (And.intro rfl (And.intro rfl trivial))))
      · replace h := hB hc_11
        clear hA hB
        refine g_iload_n hC dX1_addPieces_29 rfl rfl ?_
        refine g_aload_n hC dX1_addPieces_30 rfl rfl ?_
        refine g_iload_n hC dX1_addPieces_31 rfl rfl ?_
        refine g_calli (g_runV (As := [(vi x3)]) (rest := [(vi x2)]) hC rfl (ctX0_lengthOf hZ h1 h) (lay_cut h1) (gc_k0 hZ) (kwX0_lengthOf (by decide) (by decide)) rfl (wc wd_507) (wc wd_482) (wc wd_483) rfl (Nat.le_of_ble_eq_true rfl) rfl dX1_addPieces_32) (fun r_12 M_13 h => ?_)
        obtain ⟨rfl, h⟩ := h
        refine g_iadd hC dX1_addPieces_35 ?_
        refine g_istore_n2 (lc' := [some (vr z 19), some (vr z k1), some (vi (x2 + r_12)), some (vi x3)]) hC dX1_addPieces_36 rfl (Nat.le_of_ble_eq_true rfl) rfl ?_
        refine g_iinc2 (lc' := [some (vr z 19), some (vr z k1), some (vi (x2 + r_12)), some (vi (x3 + 1))]) hC dX1_addPieces_37 rfl rfl ?_
        refine g_goto hC 4 dX1_addPieces_40 (by decide) ?_
        exact g_subk (ih (x2 + r_12) (x3 + 1) M_9 h) (And.intro rfl (And.intro rfl (And.intro rfl (And.intro rfl trivial))))
    · replace h := hB hc_3
      clear hA hB
      refine g_iload_n hC dX1_addPieces_43 rfl rfl ?_
      exact g_iret hC hR dX1_addPieces_44 h
def fX1_addPieces (k1 : Nat) (M : gMem) (Q : Int → gMem → Prop) : Prop :=
  ∃ n_14, fX1_addPieces_L4 k1 n_14 0 0 M Q
set_option maxHeartbeats 4000000 in
set_option maxRecDepth 100000 in
theorem ctX1_addPieces {l : Launch} {z : gZ} (hZ : gZc z) {k1 : Nat} (h1 : k1 = 13 ∨ k1 = 16) {M : gMem} {Q : Int → gMem → Prop} (h : fX1_addPieces k1 M Q) : gMI l z cL yX1_addPieces wX1_addPieces rmX1_addPieces [(vr z 19), (vr z k1)] M Q := by
  refine g_metI .int (by decide) rfl rfl (gCat_all (And.intro rfl (And.intro rfl trivial))) (Nat.le_of_ble_eq_true rfl) ?_
  intro y hC hR
  replace h : ∃ n_14, fX1_addPieces_L4 k1 n_14 0 0 M Q := h
  refine g_lc (lc' := [some (vr z 19), some (vr z k1), none, none]) rfl ?_
  refine g_iconst hC dX1_addPieces_0 ?_
  refine g_istore_n2 (lc' := [some (vr z 19), some (vr z k1), some (vi 0), none]) hC dX1_addPieces_1 rfl (Nat.le_of_ble_eq_true rfl) rfl ?_
  refine g_iconst hC dX1_addPieces_2 ?_
  refine g_istore_n2 (lc' := [some (vr z 19), some (vr z k1), some (vi 0), some (vi 0)]) hC dX1_addPieces_3 rfl (Nat.le_of_ble_eq_true rfl) rfl ?_
  obtain ⟨n_14, h⟩ := h
  refine g_subk (ctX1_addPieces_L4 hC hR hZ h1 n_14 0 0 M h) (And.intro rfl (And.intro rfl (And.intro rfl (And.intro rfl trivial))))
abbrev wX2_addByte : List Cond := Cond.code yX2_addByte cX2_addByte 3 none :: gTs
abbrev rmX2_addByte : Room := { frames := 1, cells := 0, slots := 0, locals := 21 }
theorem kwX2_addByte {c0 : Cond} {rm : Room} (h1 : rmX2_addByte.frames + 1 ≤ rm.frames) (h2 : 8 + (3 + 11) + rmX2_addByte.locals ≤ rm.locals) : gCw (c0 :: gTs) rm yX2_addByte cX2_addByte 3 none wX2_addByte rmX2_addByte 2 := gCw_of wd_371 wd_40 h1 h2 (by decide +kernel)
def fX2_addByte (x1 : Int) (x2 : Int) (M : gMem) (Q : gMem → Prop) : Prop :=
  (fX2_startOf x1 M (fun r_1 =>
  ((0 ≤ x1 ∧ x1 < 8) ∧ ((0 ≤ (r_1 + (M 3 x1)) ∧ (r_1 + (M 3 x1)) < 4800) ∧ ∀ M_5, M_5 = gSt M 2 (r_1 + (M 3 x1)) (Int.bmod x2 256) → ((0 ≤ x1 ∧ x1 < 8) ∧ ((0 ≤ x1 ∧ x1 < 8) ∧ ∀ M_8, M_8 = gSt M_5 3 x1 ((M_5 3 x1) + 1) → Q M_8))))))
set_option maxHeartbeats 4000000 in
set_option maxRecDepth 100000 in
theorem ctX2_addByte {l : Launch} {z : gZ} (hZ : gZc z) {x1 : Int} {x2 : Int}  {M : gMem} {Q : gMem → Prop} (h : fX2_addByte x1 x2 M Q) : gMV l z cL yX2_addByte wX2_addByte rmX2_addByte [(vr z 1), (vi x1), (vi x2)] M Q := by
  refine g_metV (by decide) rfl rfl (gCat_all (And.intro rfl (And.intro rfl (And.intro rfl trivial)))) (Nat.le_of_ble_eq_true rfl) ?_
  intro y hC hR
  replace h : (fX2_startOf x1 M (fun r_1 =>
  ((0 ≤ x1 ∧ x1 < 8) ∧ ((0 ≤ (r_1 + (M 3 x1)) ∧ (r_1 + (M 3 x1)) < 4800) ∧ ∀ M_5, M_5 = gSt M 2 (r_1 + (M 3 x1)) (Int.bmod x2 256) → ((0 ≤ x1 ∧ x1 < 8) ∧ ((0 ≤ x1 ∧ x1 < 8) ∧ ∀ M_8, M_8 = gSt M_5 3 x1 ((M_5 3 x1) + 1) → Q M_8)))))) := h
  refine g_lc (lc' := [some (vr z 1), some (vi x1), some (vi x2)]) rfl ?_
  refine g_aload_n hC dX2_addByte_0 rfl rfl ?_
  refine g_getr (r := 2) hC rfl (gc_k2 hZ) iwX2 0 (by decide) rfl rfl (wc wd_66) dX2_addByte_1 ?_
  refine g_aload_n hC dX2_addByte_4 rfl rfl ?_
  refine g_iload_n hC dX2_addByte_5 rfl rfl ?_
  refine g_calli (g_runV (As := [(vi x1)]) (rest := [(vr z 2)]) hC rfl (ctX2_startOf hZ  h) rfl (gc_k2 hZ) (kwX2_startOf (by decide) (by decide)) rfl (wc wd_356) (wc wd_357) (wc wd_358) rfl (Nat.le_of_ble_eq_true rfl) rfl dX2_addByte_6) (fun r_1 M_2 h => ?_)
  obtain ⟨rfl, h⟩ := h
  refine g_aload_n hC dX2_addByte_9 rfl rfl ?_
  refine g_getr (r := 3) hC rfl (gc_k2 hZ) iwX2 1 (by decide) rfl rfl (wc wd_70) dX2_addByte_10 ?_
  refine g_iload_n hC dX2_addByte_13 rfl rfl ?_
  obtain ⟨hb_3, h⟩ := h
  refine g_iald hC 0 rfl (c_t0 hZ) (by decide) hb_3 dX2_addByte_14 ?_
  refine g_iadd hC dX2_addByte_15 ?_
  refine g_iload_n hC dX2_addByte_16 rfl rfl ?_
  refine g_i2b hC dX2_addByte_17 ?_
  obtain ⟨hb_4, h⟩ := h
  obtain ⟨M_5, hM_5⟩ : ∃ M9, M9 = gSt M 2 (r_1 + (M 3 x1)) (Int.bmod x2 256) := ⟨_, rfl⟩
  replace h := h M_5 hM_5
  refine g_bast hC 1 rfl (c_t1 hZ) (by decide) hb_4 dX2_addByte_18 hM_5 ?_
  refine g_aload_n hC dX2_addByte_19 rfl rfl ?_
  refine g_getr (r := 3) hC rfl (gc_k2 hZ) iwX2 1 (by decide) rfl rfl (wc wd_70) dX2_addByte_20 ?_
  refine g_iload_n hC dX2_addByte_23 rfl rfl ?_
  refine g_dup2 hC dX2_addByte_24 rfl rfl ?_
  obtain ⟨hb_6, h⟩ := h
  refine g_iald hC 0 rfl (c_t0 hZ) (by decide) hb_6 dX2_addByte_25 ?_
  refine g_iconst hC dX2_addByte_26 ?_
  refine g_iadd hC dX2_addByte_27 ?_
  obtain ⟨hb_7, h⟩ := h
  obtain ⟨M_8, hM_8⟩ : ∃ M9, M9 = gSt M_5 3 x1 ((M_5 3 x1) + 1) := ⟨_, rfl⟩
  replace h := h M_8 hM_8
  refine g_iast hC 0 rfl (c_t0 hZ) (by decide) hb_7 dX2_addByte_28 hM_8 ?_
  exact g_vret hC hR dX2_addByte_29 h
abbrev wX2_addBytes : List Cond := Cond.code yX2_addBytes cX2_addBytes 5 none :: gTs
abbrev rmX2_addBytes : Room := { frames := 1, cells := 0, slots := 0, locals := 26 }
theorem kwX2_addBytes {c0 : Cond} {rm : Room} (h1 : rmX2_addBytes.frames + 1 ≤ rm.frames) (h2 : 8 + (5 + 11) + rmX2_addBytes.locals ≤ rm.locals) : gCw (c0 :: gTs) rm yX2_addBytes cX2_addBytes 5 none wX2_addBytes rmX2_addBytes 4 := gCw_of wd_600 wd_40 h1 h2 (by decide +kernel)
def fX2_addBytes (x1 : Int) (k2 n2 : Nat) (x3 : Int) (x4 : Int) (M : gMem) (Q : gMem → Prop) : Prop :=
  (fX2_startOf x1 M (fun r_1 =>
  ((0 ≤ x1 ∧ x1 < 8) ∧ (0 ≤ x3 ∧ 0 ≤ (r_1 + (M 3 x1)) ∧ 0 ≤ x4 ∧ x3 + x4 ≤ n2 ∧ (r_1 + (M 3 x1)) + x4 ≤ 4800 ∧ ∀ M_4, M_4 = gCp M k2 2 x3 (r_1 + (M 3 x1)) x4 → ((0 ≤ x1 ∧ x1 < 8) ∧ ((0 ≤ x1 ∧ x1 < 8) ∧ ∀ M_12, M_12 = gSt M_4 3 x1 ((M_4 3 x1) + x4) → Q M_12))))))
set_option maxHeartbeats 4000000 in
set_option maxRecDepth 100000 in
theorem ctX2_addBytes {l : Launch} {z : gZ} (hZ : gZc z) {x1 : Int} {k2 n2 : Nat} {x3 : Int} {x4 : Int} (h2 : cL[k2]? = some (.inl (1, n2))) (hn2 : n2 < 2147483648) {M : gMem} {Q : gMem → Prop} (h : fX2_addBytes x1 k2 n2 x3 x4 M Q) : gMV l z cL yX2_addBytes wX2_addBytes rmX2_addBytes [(vr z 1), (vi x1), (vr z k2), (vi x3), (vi x4)] M Q := by
  refine g_metV (by decide) rfl rfl (gCat_all (And.intro rfl (And.intro rfl (And.intro rfl (And.intro rfl (And.intro rfl trivial)))))) (Nat.le_of_ble_eq_true rfl) ?_
  intro y hC hR
  replace h : (fX2_startOf x1 M (fun r_1 =>
  ((0 ≤ x1 ∧ x1 < 8) ∧ (0 ≤ x3 ∧ 0 ≤ (r_1 + (M 3 x1)) ∧ 0 ≤ x4 ∧ x3 + x4 ≤ n2 ∧ (r_1 + (M 3 x1)) + x4 ≤ 4800 ∧ ∀ M_4, M_4 = gCp M k2 2 x3 (r_1 + (M 3 x1)) x4 → ((0 ≤ x1 ∧ x1 < 8) ∧ ((0 ≤ x1 ∧ x1 < 8) ∧ ∀ M_12, M_12 = gSt M_4 3 x1 ((M_4 3 x1) + x4) → Q M_12)))))) := h
  refine g_lc (lc' := [some (vr z 1), some (vi x1), some (vr z k2), some (vi x3), some (vi x4)]) rfl ?_
  refine g_aload_n hC dX2_addBytes_0 rfl rfl ?_
  refine g_iload_n hC dX2_addBytes_1 rfl rfl ?_
  refine g_aload_n hC dX2_addBytes_2 rfl rfl ?_
  refine g_getr (r := 2) hC rfl (gc_k2 hZ) iwX2 0 (by decide) rfl rfl (wc wd_66) dX2_addBytes_3 ?_
  refine g_aload_n hC dX2_addBytes_6 rfl rfl ?_
  refine g_iload_n hC dX2_addBytes_7 rfl rfl ?_
  refine g_calli (g_runV (As := [(vi x1)]) (rest := [(vr z 2), (vi x3), (vr z k2)]) hC rfl (ctX2_startOf hZ  h) rfl (gc_k2 hZ) (kwX2_startOf (by decide) (by decide)) rfl (wc wd_356) (wc wd_357) (wc wd_358) rfl (Nat.le_of_ble_eq_true rfl) rfl dX2_addBytes_8) (fun r_1 M_2 h => ?_)
  obtain ⟨rfl, h⟩ := h
  refine g_aload_n hC dX2_addBytes_11 rfl rfl ?_
  refine g_getr (r := 3) hC rfl (gc_k2 hZ) iwX2 1 (by decide) rfl rfl (wc wd_70) dX2_addBytes_12 ?_
  refine g_iload_n hC dX2_addBytes_15 rfl rfl ?_
  obtain ⟨hb_3, h⟩ := h
  refine g_iald hC 0 rfl (c_t0 hZ) (by decide) hb_3 dX2_addBytes_16 ?_
  refine g_iadd hC dX2_addBytes_17 ?_
  refine g_iload hC dX2_addBytes_18 rfl ?_
  obtain ⟨ha_5, ha_6, ha_7, ha_8, ha_9, h⟩ := h
  obtain ⟨M_4, hM_4⟩ : ∃ M9, M9 = gCp M k2 2 x3 (r_1 + (M 3 x1)) x4 := ⟨_, rfl⟩
  replace h := h M_4 hM_4
  refine g_acopy hC rfl 1 (Or.inr ⟨rfl, rfl⟩) h2 rfl (c_t1 hZ) hn2 (by decide) ha_5 ha_6 ha_7 ha_8 ha_9 (wc wd_360) (wc wd_362) (wc wd_361) (wc wd_50) (by decide) (Nat.le_of_ble_eq_true rfl) dX2_addBytes_20 hM_4 ?_
  refine g_aload_n hC dX2_addBytes_23 rfl rfl ?_
  refine g_getr (r := 3) hC rfl (gc_k2 hZ) iwX2 1 (by decide) rfl rfl (wc wd_70) dX2_addBytes_24 ?_
  refine g_iload_n hC dX2_addBytes_27 rfl rfl ?_
  refine g_dup2 hC dX2_addBytes_28 rfl rfl ?_
  obtain ⟨hb_10, h⟩ := h
  refine g_iald hC 0 rfl (c_t0 hZ) (by decide) hb_10 dX2_addBytes_29 ?_
  refine g_iload hC dX2_addBytes_30 rfl ?_
  refine g_iadd hC dX2_addBytes_32 ?_
  obtain ⟨hb_11, h⟩ := h
  obtain ⟨M_12, hM_12⟩ : ∃ M9, M9 = gSt M_4 3 x1 ((M_4 3 x1) + x4) := ⟨_, rfl⟩
  replace h := h M_12 hM_12
  refine g_iast hC 0 rfl (c_t0 hZ) (by decide) hb_11 dX2_addBytes_33 hM_12 ?_
  exact g_vret hC hR dX2_addBytes_34 h
abbrev wX2_duplicate : List Cond := Cond.code yX2_duplicate cX2_duplicate 3 none :: gTs
abbrev rmX2_duplicate : Room := { frames := 1, cells := 0, slots := 0, locals := 26 }
theorem kwX2_duplicate {c0 : Cond} {rm : Room} (h1 : rmX2_duplicate.frames + 1 ≤ rm.frames) (h2 : 8 + (3 + 11) + rmX2_duplicate.locals ≤ rm.locals) : gCw (c0 :: gTs) rm yX2_duplicate cX2_duplicate 3 none wX2_duplicate rmX2_duplicate 2 := gCw_of wd_379 wd_40 h1 h2 (by decide +kernel)
def fX2_duplicate (x1 : Int) (x2 : Int) (M : gMem) (Q : gMem → Prop) : Prop :=
  (fX2_startOf x1 M (fun r_1 =>
  (fX2_startOf x2 M (fun r_3 =>
  ((0 ≤ x1 ∧ x1 < 8) ∧ (0 ≤ r_1 ∧ 0 ≤ r_3 ∧ 0 ≤ (M 3 x1) ∧ r_1 + (M 3 x1) ≤ 4800 ∧ r_3 + (M 3 x1) ≤ 4800 ∧ ∀ M_6, M_6 = gCp M 2 2 r_1 r_3 (M 3 x1) → ((0 ≤ x1 ∧ x1 < 8) ∧ ((0 ≤ x2 ∧ x2 < 8) ∧ ∀ M_14, M_14 = gSt M_6 3 x2 (M_6 3 x1) → Q M_14))))))))
set_option maxHeartbeats 4000000 in
set_option maxRecDepth 100000 in
theorem ctX2_duplicate {l : Launch} {z : gZ} (hZ : gZc z) {x1 : Int} {x2 : Int}  {M : gMem} {Q : gMem → Prop} (h : fX2_duplicate x1 x2 M Q) : gMV l z cL yX2_duplicate wX2_duplicate rmX2_duplicate [(vr z 1), (vi x1), (vi x2)] M Q := by
  refine g_metV (by decide) rfl rfl (gCat_all (And.intro rfl (And.intro rfl (And.intro rfl trivial)))) (Nat.le_of_ble_eq_true rfl) ?_
  intro y hC hR
  replace h : (fX2_startOf x1 M (fun r_1 =>
  (fX2_startOf x2 M (fun r_3 =>
  ((0 ≤ x1 ∧ x1 < 8) ∧ (0 ≤ r_1 ∧ 0 ≤ r_3 ∧ 0 ≤ (M 3 x1) ∧ r_1 + (M 3 x1) ≤ 4800 ∧ r_3 + (M 3 x1) ≤ 4800 ∧ ∀ M_6, M_6 = gCp M 2 2 r_1 r_3 (M 3 x1) → ((0 ≤ x1 ∧ x1 < 8) ∧ ((0 ≤ x2 ∧ x2 < 8) ∧ ∀ M_14, M_14 = gSt M_6 3 x2 (M_6 3 x1) → Q M_14)))))))) := h
  refine g_lc (lc' := [some (vr z 1), some (vi x1), some (vi x2)]) rfl ?_
  refine g_aload_n hC dX2_duplicate_0 rfl rfl ?_
  refine g_getr (r := 2) hC rfl (gc_k2 hZ) iwX2 0 (by decide) rfl rfl (wc wd_66) dX2_duplicate_1 ?_
  refine g_aload_n hC dX2_duplicate_4 rfl rfl ?_
  refine g_iload_n hC dX2_duplicate_5 rfl rfl ?_
  refine g_calli (g_runV (As := [(vi x1)]) (rest := [(vr z 2)]) hC rfl (ctX2_startOf hZ  h) rfl (gc_k2 hZ) (kwX2_startOf (by decide) (by decide)) rfl (wc wd_356) (wc wd_357) (wc wd_358) rfl (Nat.le_of_ble_eq_true rfl) rfl dX2_duplicate_6) (fun r_1 M_2 h => ?_)
  obtain ⟨rfl, h⟩ := h
  refine g_aload_n hC dX2_duplicate_9 rfl rfl ?_
  refine g_getr (r := 2) hC rfl (gc_k2 hZ) iwX2 0 (by decide) rfl rfl (wc wd_66) dX2_duplicate_10 ?_
  refine g_aload_n hC dX2_duplicate_13 rfl rfl ?_
  refine g_iload_n hC dX2_duplicate_14 rfl rfl ?_
  refine g_calli (g_runV (As := [(vi x2)]) (rest := [(vr z 2), (vi r_1), (vr z 2)]) hC rfl (ctX2_startOf hZ  h) rfl (gc_k2 hZ) (kwX2_startOf (by decide) (by decide)) rfl (wc wd_356) (wc wd_357) (wc wd_358) rfl (Nat.le_of_ble_eq_true rfl) rfl dX2_duplicate_15) (fun r_3 M_4 h => ?_)
  obtain ⟨rfl, h⟩ := h
  refine g_aload_n hC dX2_duplicate_18 rfl rfl ?_
  refine g_getr (r := 3) hC rfl (gc_k2 hZ) iwX2 1 (by decide) rfl rfl (wc wd_70) dX2_duplicate_19 ?_
  refine g_iload_n hC dX2_duplicate_22 rfl rfl ?_
  obtain ⟨hb_5, h⟩ := h
  refine g_iald hC 0 rfl (c_t0 hZ) (by decide) hb_5 dX2_duplicate_23 ?_
  obtain ⟨ha_7, ha_8, ha_9, ha_10, ha_11, h⟩ := h
  obtain ⟨M_6, hM_6⟩ : ∃ M9, M9 = gCp M 2 2 r_1 r_3 (M 3 x1) := ⟨_, rfl⟩
  replace h := h M_6 hM_6
  refine g_acopy hC rfl 1 (Or.inr ⟨rfl, rfl⟩) rfl rfl (c_t1 hZ) (by decide) (by decide) ha_7 ha_8 ha_9 ha_10 ha_11 (wc wd_360) (wc wd_362) (wc wd_361) (wc wd_50) (by decide) (Nat.le_of_ble_eq_true rfl) dX2_duplicate_24 hM_6 ?_
  refine g_aload_n hC dX2_duplicate_27 rfl rfl ?_
  refine g_getr (r := 3) hC rfl (gc_k2 hZ) iwX2 1 (by decide) rfl rfl (wc wd_70) dX2_duplicate_28 ?_
  refine g_iload_n hC dX2_duplicate_31 rfl rfl ?_
  refine g_aload_n hC dX2_duplicate_32 rfl rfl ?_
  refine g_getr (r := 3) hC rfl (gc_k2 hZ) iwX2 1 (by decide) rfl rfl (wc wd_70) dX2_duplicate_33 ?_
  refine g_iload_n hC dX2_duplicate_36 rfl rfl ?_
  obtain ⟨hb_12, h⟩ := h
  refine g_iald hC 0 rfl (c_t0 hZ) (by decide) hb_12 dX2_duplicate_37 ?_
  obtain ⟨hb_13, h⟩ := h
  obtain ⟨M_14, hM_14⟩ : ∃ M9, M9 = gSt M_6 3 x2 (M_6 3 x1) := ⟨_, rfl⟩
  replace h := h M_14 hM_14
  refine g_iast hC 0 rfl (c_t0 hZ) (by decide) hb_13 dX2_duplicate_38 hM_14 ?_
  exact g_vret hC hR dX2_duplicate_39 h
abbrev wX2_replace : List Cond := Cond.code yX2_replace cX2_replace 7 none :: gTs
abbrev rmX2_replace : Room := { frames := 1, cells := 0, slots := 0, locals := 26 }
theorem kwX2_replace {c0 : Cond} {rm : Room} (h1 : rmX2_replace.frames + 1 ≤ rm.frames) (h2 : 8 + (7 + 11) + rmX2_replace.locals ≤ rm.locals) : gCw (c0 :: gTs) rm yX2_replace cX2_replace 7 none wX2_replace rmX2_replace 4 := gCw_of wd_355 wd_40 h1 h2 (by decide +kernel)
def fX2_replace (x1 : Int) (x2 : Int) (x3 : Int) (M : gMem) (Q : gMem → Prop) : Prop :=
  (fX2_startOf x1 M (fun r_1 =>
  ((0 ≤ x1 ∧ x1 < 8) ∧ (0 ≤ ((r_1 + x2) + x3) ∧ 0 ≤ ((r_1 + x2) + (M 4 1)) ∧ 0 ≤ (((M 3 x1) - x2) - x3) ∧ ((r_1 + x2) + x3) + (((M 3 x1) - x2) - x3) ≤ 4800 ∧ ((r_1 + x2) + (M 4 1)) + (((M 3 x1) - x2) - x3) ≤ 4800 ∧ ∀ M_4, M_4 = gCp M 2 2 ((r_1 + x2) + x3) ((r_1 + x2) + (M 4 1)) (((M 3 x1) - x2) - x3) → (0 ≤ (0 : Int) ∧ 0 ≤ (r_1 + x2) ∧ 0 ≤ (M_4 4 1) ∧ (0 : Int) + (M_4 4 1) ≤ 400 ∧ (r_1 + x2) + (M_4 4 1) ≤ 4800 ∧ ∀ M_10, M_10 = gCp M_4 5 2 0 (r_1 + x2) (M_4 4 1) → ((0 ≤ x1 ∧ x1 < 8) ∧ ((0 ≤ x1 ∧ x1 < 8) ∧ ∀ M_18, M_18 = gSt M_10 3 x1 ((M_10 3 x1) + ((M_10 4 1) - x3)) → Q M_18)))))))
set_option maxHeartbeats 4000000 in
set_option maxRecDepth 100000 in
theorem ctX2_replace {l : Launch} {z : gZ} (hZ : gZc z) {x1 : Int} {x2 : Int} {x3 : Int}  {M : gMem} {Q : gMem → Prop} (h : fX2_replace x1 x2 x3 M Q) : gMV l z cL yX2_replace wX2_replace rmX2_replace [(vr z 1), (vi x1), (vi x2), (vi x3), (vr z 4)] M Q := by
  refine g_metV (by decide) rfl rfl (gCat_all (And.intro rfl (And.intro rfl (And.intro rfl (And.intro rfl (And.intro rfl trivial)))))) (Nat.le_of_ble_eq_true rfl) ?_
  intro y hC hR
  replace h : (fX2_startOf x1 M (fun r_1 =>
  ((0 ≤ x1 ∧ x1 < 8) ∧ (0 ≤ ((r_1 + x2) + x3) ∧ 0 ≤ ((r_1 + x2) + (M 4 1)) ∧ 0 ≤ (((M 3 x1) - x2) - x3) ∧ ((r_1 + x2) + x3) + (((M 3 x1) - x2) - x3) ≤ 4800 ∧ ((r_1 + x2) + (M 4 1)) + (((M 3 x1) - x2) - x3) ≤ 4800 ∧ ∀ M_4, M_4 = gCp M 2 2 ((r_1 + x2) + x3) ((r_1 + x2) + (M 4 1)) (((M 3 x1) - x2) - x3) → (0 ≤ (0 : Int) ∧ 0 ≤ (r_1 + x2) ∧ 0 ≤ (M_4 4 1) ∧ (0 : Int) + (M_4 4 1) ≤ 400 ∧ (r_1 + x2) + (M_4 4 1) ≤ 4800 ∧ ∀ M_10, M_10 = gCp M_4 5 2 0 (r_1 + x2) (M_4 4 1) → ((0 ≤ x1 ∧ x1 < 8) ∧ ((0 ≤ x1 ∧ x1 < 8) ∧ ∀ M_18, M_18 = gSt M_10 3 x1 ((M_10 3 x1) + ((M_10 4 1) - x3)) → Q M_18))))))) := h
  refine g_lc (lc' := [some (vr z 1), some (vi x1), some (vi x2), some (vi x3), some (vr z 4), none, none]) rfl ?_
  refine g_aload_n hC dX2_replace_0 rfl rfl ?_
  refine g_iload_n hC dX2_replace_1 rfl rfl ?_
  refine g_calli (g_runV (As := [(vi x1)]) (rest := []) hC rfl (ctX2_startOf hZ  h) rfl (gc_k2 hZ) (kwX2_startOf (by decide) (by decide)) rfl (wc wd_356) (wc wd_357) (wc wd_358) rfl (Nat.le_of_ble_eq_true rfl) rfl dX2_replace_2) (fun r_1 M_2 h => ?_)
  obtain ⟨rfl, h⟩ := h
  refine g_iload_n hC dX2_replace_5 rfl rfl ?_
  refine g_iadd hC dX2_replace_6 ?_
  refine g_istore2 (lc' := [some (vr z 1), some (vi x1), some (vi x2), some (vi x3), some (vr z 4), some (vi (r_1 + x2)), none]) hC dX2_replace_7 (Nat.le_of_ble_eq_true rfl) rfl ?_
  refine g_aload_n hC dX2_replace_9 rfl rfl ?_
  refine g_getr (r := 3) hC rfl (gc_k2 hZ) iwX2 1 (by decide) rfl rfl (wc wd_70) dX2_replace_10 ?_
  refine g_iload_n hC dX2_replace_13 rfl rfl ?_
  obtain ⟨hb_3, h⟩ := h
  refine g_iald hC 0 rfl (c_t0 hZ) (by decide) hb_3 dX2_replace_14 ?_
  refine g_iload_n hC dX2_replace_15 rfl rfl ?_
  refine g_isub hC dX2_replace_16 ?_
  refine g_iload_n hC dX2_replace_17 rfl rfl ?_
  refine g_isub hC dX2_replace_18 ?_
  refine g_istore2 (lc' := [some (vr z 1), some (vi x1), some (vi x2), some (vi x3), some (vr z 4), some (vi (r_1 + x2)), some (vi (((M 3 x1) - x2) - x3))]) hC dX2_replace_19 (Nat.le_of_ble_eq_true rfl) rfl ?_
  refine g_aload_n hC dX2_replace_21 rfl rfl ?_
  refine g_getr (r := 2) hC rfl (gc_k2 hZ) iwX2 0 (by decide) rfl rfl (wc wd_66) dX2_replace_22 ?_
  refine g_iload hC dX2_replace_25 rfl ?_
  refine g_iload_n hC dX2_replace_27 rfl rfl ?_
  refine g_iadd hC dX2_replace_28 ?_
  refine g_aload_n hC dX2_replace_29 rfl rfl ?_
  refine g_getr (r := 2) hC rfl (gc_k2 hZ) iwX2 0 (by decide) rfl rfl (wc wd_66) dX2_replace_30 ?_
  refine g_iload hC dX2_replace_33 rfl ?_
  refine g_aload hC dX2_replace_35 rfl ?_
  refine g_geti (ji := 1) hC rfl (gc_k7 hZ) iwX7 1 (by decide) rfl rfl (wc wd_91) dX2_replace_37 rfl ?_
  refine g_iadd hC dX2_replace_40 ?_
  refine g_iload hC dX2_replace_41 rfl ?_
  obtain ⟨ha_5, ha_6, ha_7, ha_8, ha_9, h⟩ := h
  obtain ⟨M_4, hM_4⟩ : ∃ M9, M9 = gCp M 2 2 ((r_1 + x2) + x3) ((r_1 + x2) + (M 4 1)) (((M 3 x1) - x2) - x3) := ⟨_, rfl⟩
  replace h := h M_4 hM_4
  refine g_acopy hC rfl 1 (Or.inr ⟨rfl, rfl⟩) rfl rfl (c_t1 hZ) (by decide) (by decide) ha_5 ha_6 ha_7 ha_8 ha_9 (wc wd_360) (wc wd_362) (wc wd_361) (wc wd_50) (by decide) (Nat.le_of_ble_eq_true rfl) dX2_replace_43 hM_4 ?_
  refine g_aload hC dX2_replace_46 rfl ?_
  refine g_getr (r := 5) hC rfl (gc_k7 hZ) iwX7 0 (by decide) rfl rfl (wc wd_88) dX2_replace_48 ?_
  refine g_iconst hC dX2_replace_51 ?_
  refine g_aload_n hC dX2_replace_52 rfl rfl ?_
  refine g_getr (r := 2) hC rfl (gc_k2 hZ) iwX2 0 (by decide) rfl rfl (wc wd_66) dX2_replace_53 ?_
  refine g_iload hC dX2_replace_56 rfl ?_
  refine g_aload hC dX2_replace_58 rfl ?_
  refine g_geti (ji := 1) hC rfl (gc_k7 hZ) iwX7 1 (by decide) rfl rfl (wc wd_91) dX2_replace_60 rfl ?_
  obtain ⟨ha_11, ha_12, ha_13, ha_14, ha_15, h⟩ := h
  obtain ⟨M_10, hM_10⟩ : ∃ M9, M9 = gCp M_4 5 2 0 (r_1 + x2) (M_4 4 1) := ⟨_, rfl⟩
  replace h := h M_10 hM_10
  refine g_acopy hC rfl 1 (Or.inr ⟨rfl, rfl⟩) rfl rfl (c_t1 hZ) (by decide) (by decide) ha_11 ha_12 ha_13 ha_14 ha_15 (wc wd_360) (wc wd_362) (wc wd_361) (wc wd_50) (by decide) (Nat.le_of_ble_eq_true rfl) dX2_replace_63 hM_10 ?_
  refine g_aload_n hC dX2_replace_66 rfl rfl ?_
  refine g_getr (r := 3) hC rfl (gc_k2 hZ) iwX2 1 (by decide) rfl rfl (wc wd_70) dX2_replace_67 ?_
  refine g_iload_n hC dX2_replace_70 rfl rfl ?_
  refine g_dup2 hC dX2_replace_71 rfl rfl ?_
  obtain ⟨hb_16, h⟩ := h
  refine g_iald hC 0 rfl (c_t0 hZ) (by decide) hb_16 dX2_replace_72 ?_
  refine g_aload hC dX2_replace_73 rfl ?_
  refine g_geti (ji := 1) hC rfl (gc_k7 hZ) iwX7 1 (by decide) rfl rfl (wc wd_91) dX2_replace_75 rfl ?_
  refine g_iload_n hC dX2_replace_78 rfl rfl ?_
  refine g_isub hC dX2_replace_79 ?_
  refine g_iadd hC dX2_replace_80 ?_
  obtain ⟨hb_17, h⟩ := h
  obtain ⟨M_18, hM_18⟩ : ∃ M9, M9 = gSt M_10 3 x1 ((M_10 3 x1) + ((M_10 4 1) - x3)) := ⟨_, rfl⟩
  replace h := h M_18 hM_18
  refine g_iast hC 0 rfl (c_t0 hZ) (by decide) hb_17 dX2_replace_81 hM_18 ?_
  exact g_vret hC hR dX2_replace_82 h
abbrev wX3_clear : List Cond := Cond.code yX3_clear cX3_clear 1 none :: gTs
abbrev rmX3_clear : Room := { frames := 0, cells := 0, slots := 0, locals := 0 }
theorem kwX3_clear {c0 : Cond} {rm : Room} (h1 : rmX3_clear.frames + 1 ≤ rm.frames) (h2 : 8 + (1 + 11) + rmX3_clear.locals ≤ rm.locals) : gCw (c0 :: gTs) rm yX3_clear cX3_clear 1 none wX3_clear rmX3_clear 0 := gCw_of wd_658 wd_48 h1 h2 (by decide +kernel)
def fX3_clear  (M : gMem) (Q : gMem → Prop) : Prop :=
  (∀ M_1, M_1 = gSt M 41 3 ((M 41 3) + 1) → (∀ M_2, M_2 = gSt M_1 41 5 0 → Q M_2))
set_option maxHeartbeats 4000000 in
set_option maxRecDepth 100000 in
theorem ctX3_clear {l : Launch} {z : gZ} (hZ : gZc z)   {M : gMem} {Q : gMem → Prop} (h : fX3_clear  M Q) : gMV l z cL yX3_clear wX3_clear rmX3_clear [(vr z 41)] M Q := by
  refine g_metV (by decide) rfl rfl (gCat_all (And.intro rfl trivial)) (Nat.le_of_ble_eq_true rfl) ?_
  intro y hC hR
  replace h : (∀ M_1, M_1 = gSt M 41 3 ((M 41 3) + 1) → (∀ M_2, M_2 = gSt M_1 41 5 0 → Q M_2)) := h
  refine g_lc (lc' := [some (vr z 41)]) rfl ?_
  refine g_aload_n hC dX3_clear_0 rfl rfl ?_
  refine g_dup hC dX3_clear_1 rfl ?_
  refine g_geti (ji := 3) hC rfl (gc_k3 hZ) iwX3 3 (by decide) rfl rfl (wc wd_245) dX3_clear_2 rfl ?_
  refine g_iconst hC dX3_clear_5 ?_
  refine g_iadd hC dX3_clear_6 ?_
  obtain ⟨M_1, hM_1⟩ : ∃ M9, M9 = gSt M 41 3 ((M 41 3) + 1) := ⟨_, rfl⟩
  replace h := h M_1 hM_1
  refine g_puti (ji := 3) hC rfl (gc_k3 hZ) iwX3 tyX3_ok nmX3 3 (by decide) rfl rfl (wc wd_245) rfl rfl dX3_clear_7 rfl hM_1 ?_
  refine g_aload_n hC dX3_clear_10 rfl rfl ?_
  refine g_iconst hC dX3_clear_11 ?_
  obtain ⟨M_2, hM_2⟩ : ∃ M9, M9 = gSt M_1 41 5 0 := ⟨_, rfl⟩
  replace h := h M_2 hM_2
  refine g_puti (ji := 5) hC rfl (gc_k3 hZ) iwX3 tyX3_ok nmX3 5 (by decide) rfl rfl (wc wd_247) rfl rfl dX3_clear_12 rfl hM_2 ?_
  exact g_vret hC hR dX3_clear_15 h
abbrev wX3_countOnceMore : List Cond := Cond.code yX3_countOnceMore cX3_countOnceMore 5 (some .int) :: gTs
abbrev rmX3_countOnceMore : Room := { frames := 1, cells := 0, slots := 0, locals := 20 }
theorem kwX3_countOnceMore {c0 : Cond} {rm : Room} (h1 : rmX3_countOnceMore.frames + 1 ≤ rm.frames) (h2 : 8 + (5 + 11) + rmX3_countOnceMore.locals ≤ rm.locals) : gCw (c0 :: gTs) rm yX3_countOnceMore cX3_countOnceMore 5 (some .int) wX3_countOnceMore rmX3_countOnceMore 1 := gCw_of wd_666 wd_48 h1 h2 (by decide +kernel)
def fX3_countOnceMore_L7  (x1 : Int) (x2 : Int) : Nat → Int → gMem → (Int → gMem → Prop) → (Int → gMem → Prop) → Prop
  | 0, _, _, _, _ => False
  | n7 + 1, x3, M, K75, Q =>
    (rg x3 ∧ (x3 < 8192 →
    ((0 ≤ (band (x2 + x3) 8191) ∧ (band (x2 + x3) 8191) < 8192) ∧ (rg (M 44 (band (x2 + x3) 8191)) ∧ rg (M 41 3) ∧ ((M 44 (band (x2 + x3) 8191)) = (M 41 3) →
      ((0 ≤ (band (x2 + x3) 8191) ∧ (band (x2 + x3) 8191) < 8192) ∧ (rg (M 42 (band (x2 + x3) 8191)) ∧ rg x1 ∧ ((M 42 (band (x2 + x3) 8191)) = x1 →
        K75 (band (x2 + x3) 8191) M) ∧
        (¬ (M 42 (band (x2 + x3) 8191)) = x1 →
        fX3_countOnceMore_L7 x1 x2 n7 (x3 + 1) M K75 Q)))) ∧
      (¬ (M 44 (band (x2 + x3) 8191)) = (M 41 3) →
      ((0 ≤ (band (x2 + x3) 8191) ∧ (band (x2 + x3) 8191) < 8192) ∧ ∀ M_14, M_14 = gSt M 44 (band (x2 + x3) 8191) (M 41 3) → ((0 ≤ (band (x2 + x3) 8191) ∧ (band (x2 + x3) 8191) < 8192) ∧ ∀ M_16, M_16 = gSt M_14 42 (band (x2 + x3) 8191) x1 → ((0 ≤ (band (x2 + x3) 8191) ∧ (band (x2 + x3) 8191) < 8192) ∧ ∀ M_18, M_18 = gSt M_16 43 (band (x2 + x3) 8191) 0 → ((0 ≤ (band (x2 + x3) 8191) ∧ (band (x2 + x3) 8191) < 8192) ∧ (rg (M_18 42 (band (x2 + x3) 8191)) ∧ rg x1 ∧ ((M_18 42 (band (x2 + x3) 8191)) = x1 →
        K75 (band (x2 + x3) 8191) M_18) ∧
        (¬ (M_18 42 (band (x2 + x3) 8191)) = x1 →
        fX3_countOnceMore_L7 x1 x2 n7 (x3 + 1) M_18 K75 Q)))))))))) ∧
    (¬ x3 < 8192 →
    Q 0 M))
set_option maxHeartbeats 4000000 in
set_option maxRecDepth 100000 in
theorem ctX3_countOnceMore_L7 {y : gY} {z : gZ} {l : Launch} {x1 : Int} {x2 : Int} {Q : Int → gMem → Prop} {K75 : Int → gMem → Prop} (hC : gC y z l cX3_countOnceMore RX3 5 wX3_countOnceMore rmX3_countOnceMore) (hR : gRI y z cL .int Q) (hZ : gZc z)  (hK75 : ∀ (x4 : Int) (M : gMem), K75 x4 M → gW y z cL 75 [some (vr z 41), none, none, none, some (vi x4)] [] M) :
    ∀ (n : Nat) (x3 : Int) (M : gMem), fX3_countOnceMore_L7 x1 x2 n x3 M K75 Q → gW y z cL 7 [some (vr z 41), some (vi x1), some (vi x2), some (vi x3), none] [] M := by
  intro n
  induction n with
  | zero => intro x3 M h; exact False.elim h
  | succ n7 ih =>
    intro x3 M h
    replace h : (rg x3 ∧ (x3 < 8192 →
    ((0 ≤ (band (x2 + x3) 8191) ∧ (band (x2 + x3) 8191) < 8192) ∧ (rg (M 44 (band (x2 + x3) 8191)) ∧ rg (M 41 3) ∧ ((M 44 (band (x2 + x3) 8191)) = (M 41 3) →
      ((0 ≤ (band (x2 + x3) 8191) ∧ (band (x2 + x3) 8191) < 8192) ∧ (rg (M 42 (band (x2 + x3) 8191)) ∧ rg x1 ∧ ((M 42 (band (x2 + x3) 8191)) = x1 →
        K75 (band (x2 + x3) 8191) M) ∧
        (¬ (M 42 (band (x2 + x3) 8191)) = x1 →
        fX3_countOnceMore_L7 x1 x2 n7 (x3 + 1) M K75 Q)))) ∧
      (¬ (M 44 (band (x2 + x3) 8191)) = (M 41 3) →
      ((0 ≤ (band (x2 + x3) 8191) ∧ (band (x2 + x3) 8191) < 8192) ∧ ∀ M_14, M_14 = gSt M 44 (band (x2 + x3) 8191) (M 41 3) → ((0 ≤ (band (x2 + x3) 8191) ∧ (band (x2 + x3) 8191) < 8192) ∧ ∀ M_16, M_16 = gSt M_14 42 (band (x2 + x3) 8191) x1 → ((0 ≤ (band (x2 + x3) 8191) ∧ (band (x2 + x3) 8191) < 8192) ∧ ∀ M_18, M_18 = gSt M_16 43 (band (x2 + x3) 8191) 0 → ((0 ≤ (band (x2 + x3) 8191) ∧ (band (x2 + x3) 8191) < 8192) ∧ (rg (M_18 42 (band (x2 + x3) 8191)) ∧ rg x1 ∧ ((M_18 42 (band (x2 + x3) 8191)) = x1 →
        K75 (band (x2 + x3) 8191) M_18) ∧
        (¬ (M_18 42 (band (x2 + x3) 8191)) = x1 →
        fX3_countOnceMore_L7 x1 x2 n7 (x3 + 1) M_18 K75 Q)))))))))) ∧
    (¬ x3 < 8192 →
    Q 0 M)) := h
    refine g_iload_n hC dX3_countOnceMore_7 rfl rfl ?_
    refine g_sipush hC dX3_countOnceMore_8 (by decide) ?_
    obtain ⟨hr_3, hA, hB⟩ := h
    refine g_cge hC 100 hr_3 (by decide) dX3_countOnceMore_11 (by decide) (fun hc_4 => ?_) (fun hc_4 => ?_)
    · replace h := hA hc_4
      clear hA hB
      refine g_iload_n hC dX3_countOnceMore_14 rfl rfl ?_
      refine g_iload_n hC dX3_countOnceMore_15 rfl rfl ?_
      refine g_iadd hC dX3_countOnceMore_16 ?_
      refine g_sipush hC dX3_countOnceMore_17 (by decide) ?_
      refine g_iand hC dX3_countOnceMore_20 ?_
      refine g_istore2 (lc' := [some (vr z 41), some (vi x1), some (vi x2), some (vi x3), some (vi (band (x2 + x3) 8191))]) hC dX3_countOnceMore_21 (Nat.le_of_ble_eq_true rfl) rfl ?_
      refine g_aload_n hC dX3_countOnceMore_23 rfl rfl ?_
      refine g_getr (r := 44) hC rfl (gc_k3 hZ) iwX3 2 (by decide) rfl rfl (wc wd_244) dX3_countOnceMore_24 ?_
      refine g_iload hC dX3_countOnceMore_27 rfl ?_
      obtain ⟨hb_5, h⟩ := h
      refine g_iald hC 0 rfl (c_t0 hZ) (by decide) hb_5 dX3_countOnceMore_29 ?_
      refine g_aload_n hC dX3_countOnceMore_30 rfl rfl ?_
      refine g_geti (ji := 3) hC rfl (gc_k3 hZ) iwX3 3 (by decide) rfl rfl (wc wd_245) dX3_countOnceMore_31 rfl ?_
      obtain ⟨hr_6, hr_7, hA, hB⟩ := h
      refine g_ceq hC 64 hr_6 hr_7 dX3_countOnceMore_34 (by decide) (fun hc_8 => ?_) (fun hc_8 => ?_)
      · replace h := hA hc_8
        clear hA hB
        refine g_aload_n hC dX3_countOnceMore_64 rfl rfl ?_
        refine g_getr (r := 42) hC rfl (gc_k3 hZ) iwX3 0 (by decide) rfl rfl (wc wd_242) dX3_countOnceMore_65 ?_
        refine g_iload hC dX3_countOnceMore_68 rfl ?_
        obtain ⟨hb_9, h⟩ := h
        refine g_iald hC 0 rfl (c_t0 hZ) (by decide) hb_9 dX3_countOnceMore_70 ?_
        refine g_iload_n hC dX3_countOnceMore_71 rfl rfl ?_
        obtain ⟨hr_10, hr_11, hA, hB⟩ := h
        refine g_cne hC 94 hr_10 hr_11 dX3_countOnceMore_72 (by decide) (fun hc_12 => ?_) (fun hc_12 => ?_)
        · replace h := hA hc_12
          clear hA hB
          exact g_subk (hK75 (band (x2 + x3) 8191) M h) (And.intro rfl (And.intro rfl trivial))
        · replace h := hB hc_12
          clear hA hB
          refine g_iinc2 (lc' := [some (vr z 41), some (vi x1), some (vi x2), some (vi (x3 + 1)), some (vi (band (x2 + x3) 8191))]) hC dX3_countOnceMore_94 rfl rfl ?_
          refine g_goto hC 7 dX3_countOnceMore_97 (by decide) ?_
          exact g_subk (ih (x3 + 1) M h) (And.intro rfl (And.intro rfl (And.intro rfl (And.intro rfl trivial))))
      · replace h := hB hc_8
        clear hA hB
        refine g_aload_n hC dX3_countOnceMore_37 rfl rfl ?_
        refine g_getr (r := 44) hC rfl (gc_k3 hZ) iwX3 2 (by decide) rfl rfl (wc wd_244) dX3_countOnceMore_38 ?_
        refine g_iload hC dX3_countOnceMore_41 rfl ?_
        refine g_aload_n hC dX3_countOnceMore_43 rfl rfl ?_
        refine g_geti (ji := 3) hC rfl (gc_k3 hZ) iwX3 3 (by decide) rfl rfl (wc wd_245) dX3_countOnceMore_44 rfl ?_
        obtain ⟨hb_13, h⟩ := h
        obtain ⟨M_14, hM_14⟩ : ∃ M9, M9 = gSt M 44 (band (x2 + x3) 8191) (M 41 3) := ⟨_, rfl⟩
        replace h := h M_14 hM_14
        refine g_iast hC 0 rfl (c_t0 hZ) (by decide) hb_13 dX3_countOnceMore_47 hM_14 ?_
        refine g_aload_n hC dX3_countOnceMore_48 rfl rfl ?_
        refine g_getr (r := 42) hC rfl (gc_k3 hZ) iwX3 0 (by decide) rfl rfl (wc wd_242) dX3_countOnceMore_49 ?_
        refine g_iload hC dX3_countOnceMore_52 rfl ?_
        refine g_iload_n hC dX3_countOnceMore_54 rfl rfl ?_
        obtain ⟨hb_15, h⟩ := h
        obtain ⟨M_16, hM_16⟩ : ∃ M9, M9 = gSt M_14 42 (band (x2 + x3) 8191) x1 := ⟨_, rfl⟩
        replace h := h M_16 hM_16
        refine g_iast hC 0 rfl (c_t0 hZ) (by decide) hb_15 dX3_countOnceMore_55 hM_16 ?_
        refine g_aload_n hC dX3_countOnceMore_56 rfl rfl ?_
        refine g_getr (r := 43) hC rfl (gc_k3 hZ) iwX3 1 (by decide) rfl rfl (wc wd_243) dX3_countOnceMore_57 ?_
        refine g_iload hC dX3_countOnceMore_60 rfl ?_
        refine g_iconst hC dX3_countOnceMore_62 ?_
        obtain ⟨hb_17, h⟩ := h
        obtain ⟨M_18, hM_18⟩ : ∃ M9, M9 = gSt M_16 43 (band (x2 + x3) 8191) 0 := ⟨_, rfl⟩
        replace h := h M_18 hM_18
        refine g_iast hC 0 rfl (c_t0 hZ) (by decide) hb_17 dX3_countOnceMore_63 hM_18 ?_
        refine g_aload_n hC dX3_countOnceMore_64 rfl rfl ?_
        refine g_getr (r := 42) hC rfl (gc_k3 hZ) iwX3 0 (by decide) rfl rfl (wc wd_242) dX3_countOnceMore_65 ?_
        refine g_iload hC dX3_countOnceMore_68 rfl ?_
        obtain ⟨hb_19, h⟩ := h
        refine g_iald hC 0 rfl (c_t0 hZ) (by decide) hb_19 dX3_countOnceMore_70 ?_
        refine g_iload_n hC dX3_countOnceMore_71 rfl rfl ?_
        obtain ⟨hr_20, hr_21, hA, hB⟩ := h
        refine g_cne hC 94 hr_20 hr_21 dX3_countOnceMore_72 (by decide) (fun hc_22 => ?_) (fun hc_22 => ?_)
        · replace h := hA hc_22
          clear hA hB
          exact g_subk (hK75 (band (x2 + x3) 8191) M_18 h) (And.intro rfl (And.intro rfl trivial))
        · replace h := hB hc_22
          clear hA hB
          refine g_iinc2 (lc' := [some (vr z 41), some (vi x1), some (vi x2), some (vi (x3 + 1)), some (vi (band (x2 + x3) 8191))]) hC dX3_countOnceMore_94 rfl rfl ?_
          refine g_goto hC 7 dX3_countOnceMore_97 (by decide) ?_
          exact g_subk (ih (x3 + 1) M_18 h) (And.intro rfl (And.intro rfl (And.intro rfl (And.intro rfl trivial))))
    · replace h := hB hc_4
      clear hA hB
      refine g_iconst hC dX3_countOnceMore_100 ?_
      exact g_iret hC hR dX3_countOnceMore_101 h
def fX3_countOnceMore (x1 : Int) (M : gMem) (Q : Int → gMem → Prop) : Prop :=
  (fX8_spread x1 M (fun r_1 =>
  ∃ n_29, fX3_countOnceMore_L7 x1 r_1 n_29 0 M (fun x4_23 M_24 =>
  ((0 ≤ x4_23 ∧ x4_23 < 8192) ∧ ((0 ≤ x4_23 ∧ x4_23 < 8192) ∧ ∀ M_27, M_27 = gSt M_24 43 x4_23 ((M_24 43 x4_23) + 1) → ((0 ≤ x4_23 ∧ x4_23 < 8192) ∧ Q (M_27 43 x4_23) M_27)))) Q))
set_option maxHeartbeats 4000000 in
set_option maxRecDepth 100000 in
theorem ctX3_countOnceMore {l : Launch} {z : gZ} (hZ : gZc z) {x1 : Int}  {M : gMem} {Q : Int → gMem → Prop} (h : fX3_countOnceMore x1 M Q) : gMI l z cL yX3_countOnceMore wX3_countOnceMore rmX3_countOnceMore [(vr z 41), (vi x1)] M Q := by
  refine g_metI .int (by decide) rfl rfl (gCat_all (And.intro rfl (And.intro rfl trivial))) (Nat.le_of_ble_eq_true rfl) ?_
  intro y hC hR
  replace h : (fX8_spread x1 M (fun r_1 =>
  ∃ n_29, fX3_countOnceMore_L7 x1 r_1 n_29 0 M (fun x4_23 M_24 =>
  ((0 ≤ x4_23 ∧ x4_23 < 8192) ∧ ((0 ≤ x4_23 ∧ x4_23 < 8192) ∧ ∀ M_27, M_27 = gSt M_24 43 x4_23 ((M_24 43 x4_23) + 1) → ((0 ≤ x4_23 ∧ x4_23 < 8192) ∧ Q (M_27 43 x4_23) M_27)))) Q)) := h
  refine g_lc (lc' := [some (vr z 41), some (vi x1), none, none, none]) rfl ?_
  refine g_iload_n hC dX3_countOnceMore_0 rfl rfl ?_
  refine g_calli (g_runSN (As := [(vi x1)]) (rest := []) (host := "CutStore") hC rfl (ctX8_spread hZ  h) (kwX8_spread (by decide) (by decide)) (gc_ns667 hZ) (wc wd_517) rfl (Nat.le_of_ble_eq_true rfl) rfl dX3_countOnceMore_1) (fun r_1 M_2 h => ?_)
  obtain ⟨rfl, h⟩ := h
  refine g_istore_n2 (lc' := [some (vr z 41), some (vi x1), some (vi r_1), none, none]) hC dX3_countOnceMore_4 rfl (Nat.le_of_ble_eq_true rfl) rfl ?_
  refine g_iconst hC dX3_countOnceMore_5 ?_
  refine g_istore_n2 (lc' := [some (vr z 41), some (vi x1), some (vi r_1), some (vi 0), none]) hC dX3_countOnceMore_6 rfl (Nat.le_of_ble_eq_true rfl) rfl ?_
  obtain ⟨n_29, h⟩ := h
  refine g_subk (ctX3_countOnceMore_L7 hC hR hZ ?_ n_29 0 M h) (And.intro rfl (And.intro rfl (And.intro rfl (And.intro rfl trivial))))
  intro x4_23 M_24 h
  refine g_aload_n hC dX3_countOnceMore_75 rfl rfl ?_
  refine g_getr (r := 43) hC rfl (gc_k3 hZ) iwX3 1 (by decide) rfl rfl (wc wd_243) dX3_countOnceMore_76 ?_
  refine g_iload hC dX3_countOnceMore_79 rfl ?_
  refine g_dup2 hC dX3_countOnceMore_81 rfl rfl ?_
  obtain ⟨hb_25, h⟩ := h
  refine g_iald hC 0 rfl (c_t0 hZ) (by decide) hb_25 dX3_countOnceMore_82 ?_
  refine g_iconst hC dX3_countOnceMore_83 ?_
  refine g_iadd hC dX3_countOnceMore_84 ?_
  obtain ⟨hb_26, h⟩ := h
  obtain ⟨M_27, hM_27⟩ : ∃ M9, M9 = gSt M_24 43 x4_23 ((M_24 43 x4_23) + 1) := ⟨_, rfl⟩
  replace h := h M_27 hM_27
  refine g_iast hC 0 rfl (c_t0 hZ) (by decide) hb_26 dX3_countOnceMore_85 hM_27 ?_
  refine g_aload_n hC dX3_countOnceMore_86 rfl rfl ?_
  refine g_getr (r := 43) hC rfl (gc_k3 hZ) iwX3 1 (by decide) rfl rfl (wc wd_243) dX3_countOnceMore_87 ?_
  refine g_iload hC dX3_countOnceMore_90 rfl ?_
  obtain ⟨hb_28, h⟩ := h
  refine g_iald hC 0 rfl (c_t0 hZ) (by decide) hb_28 dX3_countOnceMore_92 ?_
  exact g_iret hC hR dX3_countOnceMore_93 h
