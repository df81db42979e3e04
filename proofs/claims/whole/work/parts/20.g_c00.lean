abbrev wX2_startOf : List Cond := Cond.code yX2_startOf cX2_startOf 2 (some .int) :: gTs
abbrev rmX2_startOf : Room := { frames := 0, cells := 0, slots := 0, locals := 0 }
theorem kwX2_startOf {c0 : Cond} {rm : Room} (h1 : rmX2_startOf.frames + 1 ≤ rm.frames) (h2 : 8 + (2 + 11) + rmX2_startOf.locals ≤ rm.locals) : gCw (c0 :: gTs) rm yX2_startOf cX2_startOf 2 (some .int) wX2_startOf rmX2_startOf 1 := gCw_of wd_359 wd_40 h1 h2 (by decide +kernel)
def fX2_startOf (x1 : Int) (M : gMem) (Q : Int → Prop) : Prop :=
  Q (x1 * 600)
set_option maxHeartbeats 4000000 in
set_option maxRecDepth 100000 in
theorem ctX2_startOf {l : Launch} {z : gZ} (hZ : gZc z) {x1 : Int}  {M : gMem} {Q : Int → Prop} (h : fX2_startOf x1 M Q) : gMI l z cL yX2_startOf wX2_startOf rmX2_startOf [(vr z 1), (vi x1)] M (fun r M' => M = M' ∧ Q r) := by
  refine g_metI .int (by decide) rfl rfl (gCat_all (And.intro rfl (And.intro rfl trivial))) (Nat.le_of_ble_eq_true rfl) ?_
  intro y hC hR
  replace h : Q (x1 * 600) := h
  refine g_lc (lc' := [some (vr z 1), some (vi x1)]) rfl ?_
  refine g_iload_n hC dX2_startOf_0 rfl rfl ?_
  refine g_sipush hC dX2_startOf_1 (by decide) ?_
  refine g_imul hC dX2_startOf_4 ?_
  exact g_iret hC hR dX2_startOf_5 ⟨rfl, h⟩
abbrev wX0_startOf : List Cond := Cond.code yX0_startOf cX0_startOf 2 (some .int) :: gTs
abbrev rmX0_startOf : Room := { frames := 1, cells := 0, slots := 0, locals := 21 }
theorem kwX0_startOf {c0 : Cond} {rm : Room} (h1 : rmX0_startOf.frames + 1 ≤ rm.frames) (h2 : 8 + (2 + 11) + rmX0_startOf.locals ≤ rm.locals) : gCw (c0 :: gTs) rm yX0_startOf cX0_startOf 2 (some .int) wX0_startOf rmX0_startOf 1 := gCw_of wd_488 wd_43 h1 h2 (by decide +kernel)
def fX0_startOf (k0 : Nat) (x1 : Int) (M : gMem) (Q : Int → Prop) : Prop :=
  (fX2_startOf (M k0 4) M (fun r_1 =>
  ((0 ≤ x1 ∧ x1 < 601) ∧ Q (r_1 + (M (k0 + 2) x1)))))
set_option maxHeartbeats 4000000 in
set_option maxRecDepth 100000 in
theorem ctX0_startOf {l : Launch} {z : gZ} (hZ : gZc z) {k0 : Nat} {x1 : Int} (h0 : k0 = 13 ∨ k0 = 16) {M : gMem} {Q : Int → Prop} (h : fX0_startOf k0 x1 M Q) : gMI l z cL yX0_startOf wX0_startOf rmX0_startOf [(vr z k0), (vi x1)] M (fun r M' => M = M' ∧ Q r) := by
  refine g_metI .int (by decide) rfl rfl (gCat_all (And.intro rfl (And.intro rfl trivial))) (Nat.le_of_ble_eq_true rfl) ?_
  intro y hC hR
  replace h : (fX2_startOf (M k0 4) M (fun r_1 =>
  ((0 ≤ x1 ∧ x1 < 601) ∧ Q (r_1 + (M (k0 + 2) x1))))) := h
  refine g_lc (lc' := [some (vr z k0), some (vi x1)]) rfl ?_
  refine g_aload_n hC dX0_startOf_0 rfl rfl ?_
  refine g_getr (r := 1) hC (lay_cut h0) (gc_k0 hZ) iwX0 0 (by decide) rfl rfl (wc wd_133) dX0_startOf_1 ?_
  refine g_aload_n hC dX0_startOf_4 rfl rfl ?_
  refine g_geti (ji := 4) hC (lay_cut h0) (gc_k0 hZ) iwX0 4 (by decide) rfl rfl (wc wd_142) dX0_startOf_5 rfl ?_
  refine g_calli (g_runV (As := [(vi (M k0 4))]) (rest := []) hC rfl (ctX2_startOf hZ  h) rfl (gc_k2 hZ) (kwX2_startOf (by decide) (by decide)) rfl (wc wd_489) (wc wd_357) (wc wd_358) rfl (Nat.le_of_ble_eq_true rfl) rfl dX0_startOf_8) (fun r_1 M_2 h => ?_)
  obtain ⟨rfl, h⟩ := h
  refine g_aload_n hC dX0_startOf_11 rfl rfl ?_
  refine g_getr (r := (k0 + 2)) hC (lay_cut h0) (gc_k0 hZ) iwX0 2 (by decide) rfl rfl (wc wd_136) dX0_startOf_12 ?_
  refine g_iload_n hC dX0_startOf_15 rfl rfl ?_
  obtain ⟨hb_3, h⟩ := h
  refine g_iald hC 0 (lay_cut2 h0) (c_t0 hZ) (by decide) hb_3 dX0_startOf_16 ?_
  refine g_iadd hC dX0_startOf_17 ?_
  exact g_iret hC hR dX0_startOf_18 ⟨rfl, h⟩
abbrev wX0_lengthOf : List Cond := Cond.code yX0_lengthOf cX0_lengthOf 2 (some .int) :: gTs
abbrev rmX0_lengthOf : Room := { frames := 0, cells := 0, slots := 0, locals := 0 }
theorem kwX0_lengthOf {c0 : Cond} {rm : Room} (h1 : rmX0_lengthOf.frames + 1 ≤ rm.frames) (h2 : 8 + (2 + 11) + rmX0_lengthOf.locals ≤ rm.locals) : gCw (c0 :: gTs) rm yX0_lengthOf cX0_lengthOf 2 (some .int) wX0_lengthOf rmX0_lengthOf 1 := gCw_of wd_484 wd_43 h1 h2 (by decide +kernel)
def fX0_lengthOf (k0 : Nat) (x1 : Int) (M : gMem) (Q : Int → Prop) : Prop :=
  ((0 ≤ (x1 + 1) ∧ (x1 + 1) < 601) ∧ ((0 ≤ x1 ∧ x1 < 601) ∧ Q ((M (k0 + 2) (x1 + 1)) - (M (k0 + 2) x1))))
set_option maxHeartbeats 4000000 in
set_option maxRecDepth 100000 in
theorem ctX0_lengthOf {l : Launch} {z : gZ} (hZ : gZc z) {k0 : Nat} {x1 : Int} (h0 : k0 = 13 ∨ k0 = 16) {M : gMem} {Q : Int → Prop} (h : fX0_lengthOf k0 x1 M Q) : gMI l z cL yX0_lengthOf wX0_lengthOf rmX0_lengthOf [(vr z k0), (vi x1)] M (fun r M' => M = M' ∧ Q r) := by
  refine g_metI .int (by decide) rfl rfl (gCat_all (And.intro rfl (And.intro rfl trivial))) (Nat.le_of_ble_eq_true rfl) ?_
  intro y hC hR
  replace h : ((0 ≤ (x1 + 1) ∧ (x1 + 1) < 601) ∧ ((0 ≤ x1 ∧ x1 < 601) ∧ Q ((M (k0 + 2) (x1 + 1)) - (M (k0 + 2) x1)))) := h
  refine g_lc (lc' := [some (vr z k0), some (vi x1)]) rfl ?_
  refine g_aload_n hC dX0_lengthOf_0 rfl rfl ?_
  refine g_getr (r := (k0 + 2)) hC (lay_cut h0) (gc_k0 hZ) iwX0 2 (by decide) rfl rfl (wc wd_136) dX0_lengthOf_1 ?_
  refine g_iload_n hC dX0_lengthOf_4 rfl rfl ?_
  refine g_iconst hC dX0_lengthOf_5 ?_
  refine g_iadd hC dX0_lengthOf_6 ?_
  obtain ⟨hb_1, h⟩ := h
  refine g_iald hC 0 (lay_cut2 h0) (c_t0 hZ) (by decide) hb_1 dX0_lengthOf_7 ?_
  refine g_aload_n hC dX0_lengthOf_8 rfl rfl ?_
  refine g_getr (r := (k0 + 2)) hC (lay_cut h0) (gc_k0 hZ) iwX0 2 (by decide) rfl rfl (wc wd_136) dX0_lengthOf_9 ?_
  refine g_iload_n hC dX0_lengthOf_12 rfl rfl ?_
  obtain ⟨hb_2, h⟩ := h
  refine g_iald hC 0 (lay_cut2 h0) (c_t0 hZ) (by decide) hb_2 dX0_lengthOf_13 ?_
  refine g_isub hC dX0_lengthOf_14 ?_
  exact g_iret hC hR dX0_lengthOf_15 ⟨rfl, h⟩
abbrev wX2_byteAt : List Cond := Cond.code yX2_byteAt cX2_byteAt 3 (some .int) :: gTs
abbrev rmX2_byteAt : Room := { frames := 1, cells := 0, slots := 0, locals := 21 }
theorem kwX2_byteAt {c0 : Cond} {rm : Room} (h1 : rmX2_byteAt.frames + 1 ≤ rm.frames) (h2 : 8 + (3 + 11) + rmX2_byteAt.locals ≤ rm.locals) : gCw (c0 :: gTs) rm yX2_byteAt cX2_byteAt 3 (some .int) wX2_byteAt rmX2_byteAt 2 := gCw_of wd_391 wd_40 h1 h2 (by decide +kernel)
def fX2_byteAt (x1 : Int) (x2 : Int) (M : gMem) (Q : Int → Prop) : Prop :=
  (fX2_startOf x1 M (fun r_1 =>
  ((0 ≤ (r_1 + x2) ∧ (r_1 + x2) < 4800) ∧ Q (band (Int.bmod (M 2 (r_1 + x2)) 256) 255))))
set_option maxHeartbeats 4000000 in
set_option maxRecDepth 100000 in
theorem ctX2_byteAt {l : Launch} {z : gZ} (hZ : gZc z) {x1 : Int} {x2 : Int}  {M : gMem} {Q : Int → Prop} (h : fX2_byteAt x1 x2 M Q) : gMI l z cL yX2_byteAt wX2_byteAt rmX2_byteAt [(vr z 1), (vi x1), (vi x2)] M (fun r M' => M = M' ∧ Q r) := by
  refine g_metI .int (by decide) rfl rfl (gCat_all (And.intro rfl (And.intro rfl (And.intro rfl trivial)))) (Nat.le_of_ble_eq_true rfl) ?_
  intro y hC hR
  replace h : (fX2_startOf x1 M (fun r_1 =>
  ((0 ≤ (r_1 + x2) ∧ (r_1 + x2) < 4800) ∧ Q (band (Int.bmod (M 2 (r_1 + x2)) 256) 255)))) := h
  refine g_lc (lc' := [some (vr z 1), some (vi x1), some (vi x2)]) rfl ?_
  refine g_aload_n hC dX2_byteAt_0 rfl rfl ?_
  refine g_getr (r := 2) hC rfl (gc_k2 hZ) iwX2 0 (by decide) rfl rfl (wc wd_66) dX2_byteAt_1 ?_
  refine g_aload_n hC dX2_byteAt_4 rfl rfl ?_
  refine g_iload_n hC dX2_byteAt_5 rfl rfl ?_
  refine g_calli (g_runV (As := [(vi x1)]) (rest := [(vr z 2)]) hC rfl (ctX2_startOf hZ  h) rfl (gc_k2 hZ) (kwX2_startOf (by decide) (by decide)) rfl (wc wd_356) (wc wd_357) (wc wd_358) rfl (Nat.le_of_ble_eq_true rfl) rfl dX2_byteAt_6) (fun r_1 M_2 h => ?_)
  obtain ⟨rfl, h⟩ := h
  refine g_iload_n hC dX2_byteAt_9 rfl rfl ?_
  refine g_iadd hC dX2_byteAt_10 ?_
  obtain ⟨hb_3, h⟩ := h
  refine g_bald hC 1 rfl (c_t1 hZ) (by decide) hb_3 dX2_byteAt_11 ?_
  refine g_sipush hC dX2_byteAt_12 (by decide) ?_
  refine g_iand hC dX2_byteAt_15 ?_
  exact g_iret hC hR dX2_byteAt_16 ⟨rfl, h⟩
abbrev wX0_addUp : List Cond := Cond.code yX0_addUp cX0_addUp 6 none :: gTs
abbrev rmX0_addUp : Room := { frames := 2, cells := 0, slots := 0, locals := 43 }
theorem kwX0_addUp {c0 : Cond} {rm : Room} (h1 : rmX0_addUp.frames + 1 ≤ rm.frames) (h2 : 8 + (6 + 11) + rmX0_addUp.locals ≤ rm.locals) : gCw (c0 :: gTs) rm yX0_addUp cX0_addUp 6 none wX0_addUp rmX0_addUp 2 := gCw_of wd_433 wd_43 h1 h2 (by decide +kernel)
def fX0_addUp_L5 (k0 : Nat) (k1 : Nat) (M : gMem) : Nat → Int → Int → (Int → Prop) → (gMem → Prop) → Prop
  | 0, _, _, _, _ => False
  | n5 + 1, x3, x4, K25, Q =>
    (rg x4 ∧ rg (M k1 3) ∧ (x4 < (M k1 3) →
    fX0_addUp_L5 k0 k1 M n5 (x3 * 31) (x4 + 1) K25 Q) ∧
    (¬ x4 < (M k1 3) →
    K25 x3))
set_option maxHeartbeats 4000000 in
set_option maxRecDepth 100000 in
theorem ctX0_addUp_L5 {y : gY} {z : gZ} {l : Launch} {k0 : Nat} {k1 : Nat} {x2 : Int} {M : gMem} {Q : gMem → Prop} {K25 : Int → Prop} (hC : gC y z l cX0_addUp RX0 6 wX0_addUp rmX0_addUp) (hR : gRV y z cL Q) (hZ : gZc z) (h0 : k0 = 13 ∨ k0 = 16) (h1 : 7 ≤ k1 ∧ k1 < 13) (hK25 : ∀ (x3 : Int), K25 x3 → gW y z cL 25 [some (vr z k0), some (vr z k1), some (vi x2), some (vi x3), none, none] [] M) :
    ∀ (n : Nat) (x3 : Int) (x4 : Int), fX0_addUp_L5 k0 k1 M n x3 x4 K25 Q → gW y z cL 5 [some (vr z k0), some (vr z k1), some (vi x2), some (vi x3), some (vi x4), none] [] M := by
  intro n
  induction n with
  | zero => intro x3 x4 h; exact False.elim h
  | succ n5 ih =>
    intro x3 x4 h
    replace h : (rg x4 ∧ rg (M k1 3) ∧ (x4 < (M k1 3) →
    fX0_addUp_L5 k0 k1 M n5 (x3 * 31) (x4 + 1) K25 Q) ∧
    (¬ x4 < (M k1 3) →
    K25 x3)) := h
    refine g_iload hC dX0_addUp_5 rfl ?_
    refine g_aload_n hC dX0_addUp_7 rfl rfl ?_
    refine g_geti (ji := 3) hC (lay_rule h1) (gc_k4 hZ) iwX4 3 (by decide) rfl rfl (wc wd_111) dX0_addUp_8 rfl ?_
    obtain ⟨hr_1, hr_2, hA, hB⟩ := h
    refine g_cge hC 25 hr_1 hr_2 dX0_addUp_11 (by decide) (fun hc_3 => ?_) (fun hc_3 => ?_)
    · replace h := hA hc_3
      clear hA hB
      refine g_iload_n hC dX0_addUp_14 rfl rfl ?_
      refine g_bipush hC dX0_addUp_15 (by decide) ?_
      refine g_imul hC dX0_addUp_17 ?_
      refine g_istore_n2 (lc' := [some (vr z k0), some (vr z k1), some (vi x2), some (vi (x3 * 31)), some (vi x4), none]) hC dX0_addUp_18 rfl (Nat.le_of_ble_eq_true rfl) rfl ?_
      refine g_iinc2 (lc' := [some (vr z k0), some (vr z k1), some (vi x2), some (vi (x3 * 31)), some (vi (x4 + 1)), none]) hC dX0_addUp_19 rfl rfl ?_
      refine g_goto hC 5 dX0_addUp_22 (by decide) ?_
      exact g_subk (ih (x3 * 31) (x4 + 1) h) (And.intro rfl (And.intro rfl (And.intro rfl (And.intro rfl (And.intro rfl trivial)))))
    · replace h := hB hc_3
      clear hA hB
      exact g_subk (hK25 x3 h) (And.intro rfl (And.intro rfl (And.intro rfl (And.intro rfl trivial))))
def fX0_addUp_L31 (k0 : Nat) (k1 : Nat) (x2 : Int) (x3 : Int) : Nat → Int → Int → gMem → (gMem → Prop) → Prop
  | 0, _, _, _, _ => False
  | n31 + 1, x4, x5, M, Q =>
    ((0 ≤ x2 ∧ x2 < 8) ∧ (rg x5 ∧ rg (M 3 x2) ∧ (x5 < (M 3 x2) →
    (fX2_byteAt x2 x5 M (fun r_9 =>
      (rg x5 ∧ rg (M k1 3) ∧ (x5 < (M k1 3) →
      ((0 ≤ x5 ∧ x5 < 600) ∧ ∀ M_15, M_15 = gSt M (k0 + 1) x5 (band (((x4 * 31) + r_9) + 1) 65535) → fX0_addUp_L31 k0 k1 x2 x3 n31 (((x4 * 31) + r_9) + 1) (x5 + 1) M_15 Q)) ∧
      (¬ x5 < (M k1 3) →
      (fX2_byteAt x2 (x5 - (M k1 3)) M (fun r_16 =>
        ((0 ≤ x5 ∧ x5 < 600) ∧ ∀ M_19, M_19 = gSt M (k0 + 1) x5 (band ((((x4 * 31) + r_9) + 1) - (x3 * (r_16 + 1))) 65535) → fX0_addUp_L31 k0 k1 x2 x3 n31 ((((x4 * 31) + r_9) + 1) - (x3 * (r_16 + 1))) (x5 + 1) M_19 Q)))))))) ∧
    (¬ x5 < (M 3 x2) →
    Q M)))
set_option maxHeartbeats 4000000 in
set_option maxRecDepth 100000 in
theorem ctX0_addUp_L31 {y : gY} {z : gZ} {l : Launch} {k0 : Nat} {k1 : Nat} {x2 : Int} {x3 : Int} {Q : gMem → Prop}  (hC : gC y z l cX0_addUp RX0 6 wX0_addUp rmX0_addUp) (hR : gRV y z cL Q) (hZ : gZc z) (h0 : k0 = 13 ∨ k0 = 16) (h1 : 7 ≤ k1 ∧ k1 < 13) :
    ∀ (n : Nat) (x4 : Int) (x5 : Int) (M : gMem), fX0_addUp_L31 k0 k1 x2 x3 n x4 x5 M Q → gW y z cL 31 [some (vr z k0), some (vr z k1), some (vi x2), some (vi x3), some (vi x4), some (vi x5)] [] M := by
  intro n
  induction n with
  | zero => intro x4 x5 M h; exact False.elim h
  | succ n31 ih =>
    intro x4 x5 M h
    replace h : ((0 ≤ x2 ∧ x2 < 8) ∧ (rg x5 ∧ rg (M 3 x2) ∧ (x5 < (M 3 x2) →
    (fX2_byteAt x2 x5 M (fun r_9 =>
      (rg x5 ∧ rg (M k1 3) ∧ (x5 < (M k1 3) →
      ((0 ≤ x5 ∧ x5 < 600) ∧ ∀ M_15, M_15 = gSt M (k0 + 1) x5 (band (((x4 * 31) + r_9) + 1) 65535) → fX0_addUp_L31 k0 k1 x2 x3 n31 (((x4 * 31) + r_9) + 1) (x5 + 1) M_15 Q)) ∧
      (¬ x5 < (M k1 3) →
      (fX2_byteAt x2 (x5 - (M k1 3)) M (fun r_16 =>
        ((0 ≤ x5 ∧ x5 < 600) ∧ ∀ M_19, M_19 = gSt M (k0 + 1) x5 (band ((((x4 * 31) + r_9) + 1) - (x3 * (r_16 + 1))) 65535) → fX0_addUp_L31 k0 k1 x2 x3 n31 ((((x4 * 31) + r_9) + 1) - (x3 * (r_16 + 1))) (x5 + 1) M_19 Q)))))))) ∧
    (¬ x5 < (M 3 x2) →
    Q M))) := h
    refine g_iload hC dX0_addUp_31 rfl ?_
    refine g_aload_n hC dX0_addUp_33 rfl rfl ?_
    refine g_getr (r := 1) hC (lay_cut h0) (gc_k0 hZ) iwX0 0 (by decide) rfl rfl (wc wd_133) dX0_addUp_34 ?_
    refine g_getr (r := 3) hC rfl (gc_k2 hZ) iwX2 1 (by decide) rfl rfl (wc wd_73) dX0_addUp_37 ?_
    refine g_iload_n hC dX0_addUp_40 rfl rfl ?_
    obtain ⟨hb_5, h⟩ := h
    refine g_iald hC 0 rfl (c_t0 hZ) (by decide) hb_5 dX0_addUp_41 ?_
    obtain ⟨hr_6, hr_7, hA, hB⟩ := h
    refine g_cge hC 116 hr_6 hr_7 dX0_addUp_42 (by decide) (fun hc_8 => ?_) (fun hc_8 => ?_)
    · replace h := hA hc_8
      clear hA hB
      refine g_iload hC dX0_addUp_45 rfl ?_
      refine g_bipush hC dX0_addUp_47 (by decide) ?_
      refine g_imul hC dX0_addUp_49 ?_
      refine g_aload_n hC dX0_addUp_50 rfl rfl ?_
      refine g_getr (r := 1) hC (lay_cut h0) (gc_k0 hZ) iwX0 0 (by decide) rfl rfl (wc wd_133) dX0_addUp_51 ?_
      refine g_iload_n hC dX0_addUp_54 rfl rfl ?_
      refine g_iload hC dX0_addUp_55 rfl ?_
      refine g_calli (g_runV (As := [(vi x2), (vi x5)]) (rest := [(vi (x4 * 31))]) hC rfl (ctX2_byteAt hZ  h) rfl (gc_k2 hZ) (kwX2_byteAt (by decide) (by decide)) rfl (wc wd_434) (wc wd_389) (wc wd_390) rfl (Nat.le_of_ble_eq_true rfl) rfl dX0_addUp_57) (fun r_9 M_10 h => ?_)
      obtain ⟨rfl, h⟩ := h
      refine g_iadd hC dX0_addUp_60 ?_
      refine g_iconst hC dX0_addUp_61 ?_
      refine g_iadd hC dX0_addUp_62 ?_
      refine g_istore2 (lc' := [some (vr z k0), some (vr z k1), some (vi x2), some (vi x3), some (vi (((x4 * 31) + r_9) + 1)), some (vi x5)]) hC dX0_addUp_63 (Nat.le_of_ble_eq_true rfl) rfl ?_
      refine g_iload hC dX0_addUp_65 rfl ?_
      refine g_aload_n hC dX0_addUp_67 rfl rfl ?_
      refine g_geti (ji := 3) hC (lay_rule h1) (gc_k4 hZ) iwX4 3 (by decide) rfl rfl (wc wd_111) dX0_addUp_68 rfl ?_
      obtain ⟨hr_11, hr_12, hA, hB⟩ := h
      refine g_clt hC 98 hr_11 hr_12 dX0_addUp_71 (by decide) (fun hc_13 => ?_) (fun hc_13 => ?_)
      · replace h := hA hc_13
        clear hA hB
        refine g_aload_n hC dX0_addUp_98 rfl rfl ?_
        refine g_getr (r := (k0 + 1)) hC (lay_cut h0) (gc_k0 hZ) iwX0 1 (by decide) rfl rfl (wc wd_134) dX0_addUp_99 ?_
        refine g_iload hC dX0_addUp_102 rfl ?_
        refine g_iload hC dX0_addUp_104 rfl ?_
        refine g_ldc hC (n := 65535) dX0_addUp_106 (wc wd_435) (by decide) ?_
        refine g_iand hC dX0_addUp_108 ?_
        obtain ⟨hb_14, h⟩ := h
        obtain ⟨M_15, hM_15⟩ : ∃ M9, M9 = gSt M (k0 + 1) x5 (band (((x4 * 31) + r_9) + 1) 65535) := ⟨_, rfl⟩
        replace h := h M_15 hM_15
        refine g_iast hC 0 (lay_cut1 h0) (c_t0 hZ) (by decide) hb_14 dX0_addUp_109 hM_15 ?_
        refine g_iinc2 (lc' := [some (vr z k0), some (vr z k1), some (vi x2), some (vi x3), some (vi (((x4 * 31) + r_9) + 1)), some (vi (x5 + 1))]) hC dX0_addUp_110 rfl rfl ?_
        refine g_goto hC 31 dX0_addUp_113 (by decide) ?_
        exact g_subk (ih (((x4 * 31) + r_9) + 1) (x5 + 1) M_15 h) (And.intro rfl (And.intro rfl (And.intro rfl (And.intro rfl (And.intro rfl (And.intro rfl trivial))))))
      · replace h := hB hc_13
        clear hA hB
        refine g_iload hC dX0_addUp_74 rfl ?_
        refine g_iload_n hC dX0_addUp_76 rfl rfl ?_
        refine g_aload_n hC dX0_addUp_77 rfl rfl ?_
        refine g_getr (r := 1) hC (lay_cut h0) (gc_k0 hZ) iwX0 0 (by decide) rfl rfl (wc wd_133) dX0_addUp_78 ?_
        refine g_iload_n hC dX0_addUp_81 rfl rfl ?_
        refine g_iload hC dX0_addUp_82 rfl ?_
        refine g_aload_n hC dX0_addUp_84 rfl rfl ?_
        refine g_geti (ji := 3) hC (lay_rule h1) (gc_k4 hZ) iwX4 3 (by decide) rfl rfl (wc wd_111) dX0_addUp_85 rfl ?_
        refine g_isub hC dX0_addUp_88 ?_
        refine g_calli (g_runV (As := [(vi x2), (vi (x5 - (M k1 3)))]) (rest := [(vi x3), (vi (((x4 * 31) + r_9) + 1))]) hC rfl (ctX2_byteAt hZ  h) rfl (gc_k2 hZ) (kwX2_byteAt (by decide) (by decide)) rfl (wc wd_434) (wc wd_389) (wc wd_390) rfl (Nat.le_of_ble_eq_true rfl) rfl dX0_addUp_89) (fun r_16 M_17 h => ?_)
        obtain ⟨rfl, h⟩ := h
        refine g_iconst hC dX0_addUp_92 ?_
        refine g_iadd hC dX0_addUp_93 ?_
        refine g_imul hC dX0_addUp_94 ?_
        refine g_isub hC dX0_addUp_95 ?_
        refine g_istore2 (lc' := [some (vr z k0), some (vr z k1), some (vi x2), some (vi x3), some (vi ((((x4 * 31) + r_9) + 1) - (x3 * (r_16 + 1)))), some (vi x5)]) hC dX0_addUp_96 (Nat.le_of_ble_eq_true rfl) rfl ?_
        refine g_aload_n hC dX0_addUp_98 rfl rfl ?_
        refine g_getr (r := (k0 + 1)) hC (lay_cut h0) (gc_k0 hZ) iwX0 1 (by decide) rfl rfl (wc wd_134) dX0_addUp_99 ?_
        refine g_iload hC dX0_addUp_102 rfl ?_
        refine g_iload hC dX0_addUp_104 rfl ?_
        refine g_ldc hC (n := 65535) dX0_addUp_106 (wc wd_435) (by decide) ?_
        refine g_iand hC dX0_addUp_108 ?_
        obtain ⟨hb_18, h⟩ := h
        obtain ⟨M_19, hM_19⟩ : ∃ M9, M9 = gSt M (k0 + 1) x5 (band ((((x4 * 31) + r_9) + 1) - (x3 * (r_16 + 1))) 65535) := ⟨_, rfl⟩
        replace h := h M_19 hM_19
        refine g_iast hC 0 (lay_cut1 h0) (c_t0 hZ) (by decide) hb_18 dX0_addUp_109 hM_19 ?_
        refine g_iinc2 (lc' := [some (vr z k0), some (vr z k1), some (vi x2), some (vi x3), some (vi ((((x4 * 31) + r_9) + 1) - (x3 * (r_16 + 1)))), some (vi (x5 + 1))]) hC dX0_addUp_110 rfl rfl ?_
        refine g_goto hC 31 dX0_addUp_113 (by decide) ?_
        exact g_subk (ih ((((x4 * 31) + r_9) + 1) - (x3 * (r_16 + 1))) (x5 + 1) M_19 h) (And.intro rfl (And.intro rfl (And.intro rfl (And.intro rfl (And.intro rfl (And.intro rfl trivial))))))
    · replace h := hB hc_8
      clear hA hB
      exact g_vret hC hR dX0_addUp_116 h
def fX0_addUp (k0 : Nat) (k1 : Nat) (x2 : Int) (M : gMem) (Q : gMem → Prop) : Prop :=
  ∃ n_21, fX0_addUp_L5 k0 k1 M n_21 1 0 (fun x3_4 =>
  ∃ n_20, fX0_addUp_L31 k0 k1 x2 x3_4 n_20 0 0 M Q) Q
set_option maxHeartbeats 4000000 in
set_option maxRecDepth 100000 in
theorem ctX0_addUp {l : Launch} {z : gZ} (hZ : gZc z) {k0 : Nat} {k1 : Nat} {x2 : Int} (h0 : k0 = 13 ∨ k0 = 16) (h1 : 7 ≤ k1 ∧ k1 < 13) {M : gMem} {Q : gMem → Prop} (h : fX0_addUp k0 k1 x2 M Q) : gMV l z cL yX0_addUp wX0_addUp rmX0_addUp [(vr z k0), (vr z k1), (vi x2)] M Q := by
  refine g_metV (by decide) rfl rfl (gCat_all (And.intro rfl (And.intro rfl (And.intro rfl trivial)))) (Nat.le_of_ble_eq_true rfl) ?_
  intro y hC hR
  replace h : ∃ n_21, fX0_addUp_L5 k0 k1 M n_21 1 0 (fun x3_4 =>
  ∃ n_20, fX0_addUp_L31 k0 k1 x2 x3_4 n_20 0 0 M Q) Q := h
  refine g_lc (lc' := [some (vr z k0), some (vr z k1), some (vi x2), none, none, none]) rfl ?_
  refine g_iconst hC dX0_addUp_0 ?_
  refine g_istore_n2 (lc' := [some (vr z k0), some (vr z k1), some (vi x2), some (vi 1), none, none]) hC dX0_addUp_1 rfl (Nat.le_of_ble_eq_true rfl) rfl ?_
  refine g_iconst hC dX0_addUp_2 ?_
  refine g_istore2 (lc' := [some (vr z k0), some (vr z k1), some (vi x2), some (vi 1), some (vi 0), none]) hC dX0_addUp_3 (Nat.le_of_ble_eq_true rfl) rfl ?_
  obtain ⟨n_21, h⟩ := h
  refine g_subk (ctX0_addUp_L5 hC hR hZ h0 h1 ?_ n_21 1 0 h) (And.intro rfl (And.intro rfl (And.intro rfl (And.intro rfl (And.intro rfl trivial)))))
  intro x3_4 h
  refine g_iconst hC dX0_addUp_25 ?_
  refine g_istore2 (lc' := [some (vr z k0), some (vr z k1), some (vi x2), some (vi x3_4), some (vi 0), none]) hC dX0_addUp_26 (Nat.le_of_ble_eq_true rfl) rfl ?_
  refine g_iconst hC dX0_addUp_28 ?_
  refine g_istore2 (lc' := [some (vr z k0), some (vr z k1), some (vi x2), some (vi x3_4), some (vi 0), some (vi 0)]) hC dX0_addUp_29 (Nat.le_of_ble_eq_true rfl) rfl ?_
  obtain ⟨n_20, h⟩ := h
  refine g_subk (ctX0_addUp_L31 hC hR hZ h0 h1 n_20 0 0 M h) (And.intro rfl (And.intro rfl (And.intro rfl (And.intro rfl (And.intro rfl (And.intro rfl trivial))))))
abbrev wX4_hasWindow : List Cond := Cond.code yX4_hasWindow cX4_hasWindow 1 (some .boolean) :: gTs
abbrev rmX4_hasWindow : Room := { frames := 0, cells := 0, slots := 0, locals := 0 }
theorem kwX4_hasWindow {c0 : Cond} {rm : Room} (h1 : rmX4_hasWindow.frames + 1 ≤ rm.frames) (h2 : 8 + (1 + 11) + rmX4_hasWindow.locals ≤ rm.locals) : gCw (c0 :: gTs) rm yX4_hasWindow cX4_hasWindow 1 (some .boolean) wX4_hasWindow rmX4_hasWindow 0 := gCw_of wd_429 wd_42 h1 h2 (by decide +kernel)
def fX4_hasWindow (k0 : Nat) (M : gMem) (Q : Int → Prop) : Prop :=
  (rg (M k0 0) ∧ ((M k0 0) = 1 →
  Q 1) ∧
  (¬ (M k0 0) = 1 →
  (rg (M k0 0) ∧ ((M k0 0) = 2 →
    Q 1) ∧
    (¬ (M k0 0) = 2 →
    Q 0))))
set_option maxHeartbeats 4000000 in
set_option maxRecDepth 100000 in
theorem ctX4_hasWindow {l : Launch} {z : gZ} (hZ : gZc z) {k0 : Nat} (h0 : 7 ≤ k0 ∧ k0 < 13) {M : gMem} {Q : Int → Prop} (h : fX4_hasWindow k0 M Q) : gMI l z cL yX4_hasWindow wX4_hasWindow rmX4_hasWindow [(vr z k0)] M (fun r M' => M = M' ∧ Q r) := by
  refine g_metI .boolean (by decide) rfl rfl (gCat_all (And.intro rfl trivial)) (Nat.le_of_ble_eq_true rfl) ?_
  intro y hC hR
  replace h : (rg (M k0 0) ∧ ((M k0 0) = 1 →
  Q 1) ∧
  (¬ (M k0 0) = 1 →
  (rg (M k0 0) ∧ ((M k0 0) = 2 →
    Q 1) ∧
    (¬ (M k0 0) = 2 →
    Q 0)))) := h
  refine g_lc (lc' := [some (vr z k0)]) rfl ?_
  refine g_aload_n hC dX4_hasWindow_0 rfl rfl ?_
  refine g_geti (ji := 0) hC (lay_rule h0) (gc_k4 hZ) iwX4 0 (by decide) rfl rfl (wc wd_104) dX4_hasWindow_1 rfl ?_
  refine g_iconst hC dX4_hasWindow_4 ?_
  obtain ⟨hr_1, hA, hB⟩ := h
  refine g_ceq hC 16 hr_1 (by decide) dX4_hasWindow_5 (by decide) (fun hc_2 => ?_) (fun hc_2 => ?_)
  · replace h := hA hc_2
    clear hA hB
    refine g_iconst hC dX4_hasWindow_16 ?_
    refine g_goto hC 21 dX4_hasWindow_17 (by decide) ?_
    exact g_zret hC hR (by decide) dX4_hasWindow_21 ⟨rfl, h⟩
  · replace h := hB hc_2
    clear hA hB
    refine g_aload_n hC dX4_hasWindow_8 rfl rfl ?_
    refine g_geti (ji := 0) hC (lay_rule h0) (gc_k4 hZ) iwX4 0 (by decide) rfl rfl (wc wd_104) dX4_hasWindow_9 rfl ?_
    refine g_iconst hC dX4_hasWindow_12 ?_
    obtain ⟨hr_3, hA, hB⟩ := h
    refine g_cne hC 20 hr_3 (by decide) dX4_hasWindow_13 (by decide) (fun hc_4 => ?_) (fun hc_4 => ?_)
    · replace h := hA hc_4
      clear hA hB
      refine g_iconst hC dX4_hasWindow_16 ?_
      refine g_goto hC 21 dX4_hasWindow_17 (by decide) ?_
      exact g_zret hC hR (by decide) dX4_hasWindow_21 ⟨rfl, h⟩
    · replace h := hB hc_4
      clear hA hB
      refine g_iconst hC dX4_hasWindow_20 ?_
      exact g_zret hC hR (by decide) dX4_hasWindow_21 ⟨rfl, h⟩
abbrev wX4_hasSign : List Cond := Cond.code yX4_hasSign cX4_hasSign 4 (some .boolean) :: gTs
abbrev rmX4_hasSign : Room := { frames := 0, cells := 0, slots := 0, locals := 0 }
theorem kwX4_hasSign {c0 : Cond} {rm : Room} (h1 : rmX4_hasSign.frames + 1 ≤ rm.frames) (h2 : 8 + (4 + 11) + rmX4_hasSign.locals ≤ rm.locals) : gCw (c0 :: gTs) rm yX4_hasSign cX4_hasSign 4 (some .boolean) wX4_hasSign rmX4_hasSign 2 := gCw_of wd_460 wd_42 h1 h2 (by decide +kernel)
def fX4_hasSign (k0 : Nat) (x1 : Int) (x2 : Int) (M : gMem) (Q : Int → Prop) : Prop :=
  ((0 ≤ x2 ∧ x2 < 32) ∧ (rg x1 ∧ (rg (band (shr x1 4) ((shl 1 x2) - 1)) ∧ rg (band (M k0 5) ((shl 1 x2) - 1)) ∧ ((band (shr x1 4) ((shl 1 x2) - 1)) = (band (M k0 5) ((shl 1 x2) - 1)) →
  Q 1) ∧
  (¬ (band (shr x1 4) ((shl 1 x2) - 1)) = (band (M k0 5) ((shl 1 x2) - 1)) →
  Q 0))))
set_option maxHeartbeats 4000000 in
set_option maxRecDepth 100000 in
theorem ctX4_hasSign {l : Launch} {z : gZ} (hZ : gZc z) {k0 : Nat} {x1 : Int} {x2 : Int} (h0 : 7 ≤ k0 ∧ k0 < 13) {M : gMem} {Q : Int → Prop} (h : fX4_hasSign k0 x1 x2 M Q) : gMI l z cL yX4_hasSign wX4_hasSign rmX4_hasSign [(vr z k0), (vi x1), (vi x2)] M (fun r M' => M = M' ∧ Q r) := by
  refine g_metI .boolean (by decide) rfl rfl (gCat_all (And.intro rfl (And.intro rfl (And.intro rfl trivial)))) (Nat.le_of_ble_eq_true rfl) ?_
  intro y hC hR
  replace h : ((0 ≤ x2 ∧ x2 < 32) ∧ (rg x1 ∧ (rg (band (shr x1 4) ((shl 1 x2) - 1)) ∧ rg (band (M k0 5) ((shl 1 x2) - 1)) ∧ ((band (shr x1 4) ((shl 1 x2) - 1)) = (band (M k0 5) ((shl 1 x2) - 1)) →
  Q 1) ∧
  (¬ (band (shr x1 4) ((shl 1 x2) - 1)) = (band (M k0 5) ((shl 1 x2) - 1)) →
  Q 0)))) := h
  refine g_lc (lc' := [some (vr z k0), some (vi x1), some (vi x2), none]) rfl ?_
  refine g_iconst hC dX4_hasSign_0 ?_
  refine g_iload_n hC dX4_hasSign_1 rfl rfl ?_
  obtain ⟨hr_1, h⟩ := h
  refine g_ishl hC hr_1 dX4_hasSign_2 ?_
  refine g_iconst hC dX4_hasSign_3 ?_
  refine g_isub hC dX4_hasSign_4 ?_
  refine g_istore_n2 (lc' := [some (vr z k0), some (vi x1), some (vi x2), some (vi ((shl 1 x2) - 1))]) hC dX4_hasSign_5 rfl (Nat.le_of_ble_eq_true rfl) rfl ?_
  refine g_iload_n hC dX4_hasSign_6 rfl rfl ?_
  refine g_iconst hC dX4_hasSign_7 ?_
  obtain ⟨hr_2, h⟩ := h
  refine g_ishr hC hr_2 (by decide) dX4_hasSign_8 ?_
  refine g_iload_n hC dX4_hasSign_9 rfl rfl ?_
  refine g_iand hC dX4_hasSign_10 ?_
  refine g_aload_n hC dX4_hasSign_11 rfl rfl ?_
  refine g_geti (ji := 5) hC (lay_rule h0) (gc_k4 hZ) iwX4 5 (by decide) rfl rfl (wc wd_113) dX4_hasSign_12 rfl ?_
  refine g_iload_n hC dX4_hasSign_15 rfl rfl ?_
  refine g_iand hC dX4_hasSign_16 ?_
  obtain ⟨hr_3, hr_4, hA, hB⟩ := h
  refine g_cne hC 24 hr_3 hr_4 dX4_hasSign_17 (by decide) (fun hc_5 => ?_) (fun hc_5 => ?_)
  · replace h := hA hc_5
    clear hA hB
    refine g_iconst hC dX4_hasSign_20 ?_
    refine g_goto hC 25 dX4_hasSign_21 (by decide) ?_
    exact g_zret hC hR (by decide) dX4_hasSign_25 ⟨rfl, h⟩
  · replace h := hB hc_5
    clear hA hB
    refine g_iconst hC dX4_hasSign_24 ?_
    exact g_zret hC hR (by decide) dX4_hasSign_25 ⟨rfl, h⟩
abbrev wX4_endsBehind : List Cond := Cond.code yX4_endsBehind cX4_endsBehind 3 (some .boolean) :: gTs
abbrev rmX4_endsBehind : Room := { frames := 1, cells := 0, slots := 0, locals := 23 }
theorem kwX4_endsBehind {c0 : Cond} {rm : Room} (h1 : rmX4_endsBehind.frames + 1 ≤ rm.frames) (h2 : 8 + (3 + 11) + rmX4_endsBehind.locals ≤ rm.locals) : gCw (c0 :: gTs) rm yX4_endsBehind cX4_endsBehind 3 (some .boolean) wX4_endsBehind rmX4_endsBehind 2 := gCw_of wd_456 wd_42 h1 h2 (by decide +kernel)
def fX4_endsBehind (k0 : Nat) (x1 : Int) (x2 : Int) (M : gMem) (Q : Int → Prop) : Prop :=
  (rg (M k0 0) ∧ ((M k0 0) = 1 →
  (fX4_hasSign k0 x2 (M k0 4) M (fun r_2 =>
    (r_2 = 0 ∨ r_2 = 1) ∧ Q r_2))) ∧
((M k0 0) = 2 →
  (fX4_hasSign k0 x2 (M k0 4) M (fun r_4 =>
    (r_4 = 0 ∨ r_4 = 1) ∧ Q r_4))) ∧
((M k0 0) = 3 →
  (rg x1 ∧ rg (M k0 5) ∧ (x1 = (M k0 5) →
    Q 1) ∧
    (¬ x1 = (M k0 5) →
    Q 0))) ∧
(((M k0 0) < 1 ∨ 3 < (M k0 0)) →
  Q 0))
set_option maxHeartbeats 4000000 in
set_option maxRecDepth 100000 in
theorem ctX4_endsBehind {l : Launch} {z : gZ} (hZ : gZc z) {k0 : Nat} {x1 : Int} {x2 : Int} (h0 : 7 ≤ k0 ∧ k0 < 13) {M : gMem} {Q : Int → Prop} (h : fX4_endsBehind k0 x1 x2 M Q) : gMI l z cL yX4_endsBehind wX4_endsBehind rmX4_endsBehind [(vr z k0), (vi x1), (vi x2)] M (fun r M' => M = M' ∧ Q r) := by
  refine g_metI .boolean (by decide) rfl rfl (gCat_all (And.intro rfl (And.intro rfl (And.intro rfl trivial)))) (Nat.le_of_ble_eq_true rfl) ?_
  intro y hC hR
  replace h : (rg (M k0 0) ∧ ((M k0 0) = 1 →
  (fX4_hasSign k0 x2 (M k0 4) M (fun r_2 =>
    (r_2 = 0 ∨ r_2 = 1) ∧ Q r_2))) ∧
((M k0 0) = 2 →
  (fX4_hasSign k0 x2 (M k0 4) M (fun r_4 =>
    (r_4 = 0 ∨ r_4 = 1) ∧ Q r_4))) ∧
((M k0 0) = 3 →
  (rg x1 ∧ rg (M k0 5) ∧ (x1 = (M k0 5) →
    Q 1) ∧
    (¬ x1 = (M k0 5) →
    Q 0))) ∧
(((M k0 0) < 1 ∨ 3 < (M k0 0)) →
  Q 0)) := h
  refine g_lc (lc' := [some (vr z k0), some (vi x1), some (vi x2)]) rfl ?_
  refine g_aload_n hC dX4_endsBehind_0 rfl rfl ?_
  refine g_geti (ji := 0) hC (lay_rule h0) (gc_k4 hZ) iwX4 0 (by decide) rfl rfl (wc wd_104) dX4_endsBehind_1 rfl ?_
  obtain ⟨hr_1, hs0, hs1, hs2, hD⟩ := h
  have hq : ((M k0 0) < 1 ∨ 3 < (M k0 0)) ∨ (M k0 0) = 1 ∨ (M k0 0) = 2 ∨ (M k0 0) = 3 := by omega
  rcases hq with hq | hq | hq | hq
  · have h := hD hq
    refine g_tswOut hC 56 hr_1 dX4_endsBehind_4 hq (by decide) ?_
    refine g_iconst hC dX4_endsBehind_56 ?_
    exact g_zret hC hR (by decide) dX4_endsBehind_57 ⟨rfl, h⟩
  · have h := hs0 hq
    refine g_tswIn (off := 28) hC 32 hr_1 dX4_endsBehind_4 (by omega) (by omega) (by rw [hq]; rfl) (by decide) ?_
    refine g_aload_n hC dX4_endsBehind_32 rfl rfl ?_
    refine g_iload_n hC dX4_endsBehind_33 rfl rfl ?_
    refine g_aload_n hC dX4_endsBehind_34 rfl rfl ?_
    refine g_geti (ji := 4) hC (lay_rule h0) (gc_k4 hZ) iwX4 4 (by decide) rfl rfl (wc wd_112) dX4_endsBehind_35 rfl ?_
    refine g_calli (g_runV (As := [(vi x2), (vi (M k0 4))]) (rest := []) hC rfl (ctX4_hasSign hZ h0 h) (lay_rule h0) (gc_k4 hZ) (kwX4_hasSign (by decide) (by decide)) rfl (wc wd_457) (wc wd_459) (wc wd_3) rfl (Nat.le_of_ble_eq_true rfl) rfl dX4_endsBehind_38) (fun r_2 M_3 h => ?_)
    obtain ⟨rfl, h⟩ := h
    exact g_zret hC hR h.1 dX4_endsBehind_41 ⟨rfl, h.2⟩
  · have h := hs1 hq
    refine g_tswIn (off := 28) hC 32 hr_1 dX4_endsBehind_4 (by omega) (by omega) (by rw [hq]; rfl) (by decide) ?_
    refine g_aload_n hC dX4_endsBehind_32 rfl rfl ?_
    refine g_iload_n hC dX4_endsBehind_33 rfl rfl ?_
    refine g_aload_n hC dX4_endsBehind_34 rfl rfl ?_
    refine g_geti (ji := 4) hC (lay_rule h0) (gc_k4 hZ) iwX4 4 (by decide) rfl rfl (wc wd_112) dX4_endsBehind_35 rfl ?_
    refine g_calli (g_runV (As := [(vi x2), (vi (M k0 4))]) (rest := []) hC rfl (ctX4_hasSign hZ h0 h) (lay_rule h0) (gc_k4 hZ) (kwX4_hasSign (by decide) (by decide)) rfl (wc wd_457) (wc wd_459) (wc wd_3) rfl (Nat.le_of_ble_eq_true rfl) rfl dX4_endsBehind_38) (fun r_4 M_5 h => ?_)
    obtain ⟨rfl, h⟩ := h
    exact g_zret hC hR h.1 dX4_endsBehind_41 ⟨rfl, h.2⟩
  · have h := hs2 hq
    refine g_tswIn (off := 38) hC 42 hr_1 dX4_endsBehind_4 (by omega) (by omega) (by rw [hq]; rfl) (by decide) ?_
    refine g_iload_n hC dX4_endsBehind_42 rfl rfl ?_
    refine g_aload_n hC dX4_endsBehind_43 rfl rfl ?_
    refine g_geti (ji := 5) hC (lay_rule h0) (gc_k4 hZ) iwX4 5 (by decide) rfl rfl (wc wd_113) dX4_endsBehind_44 rfl ?_
    obtain ⟨hr_6, hr_7, hA, hB⟩ := h
    refine g_cne hC 54 hr_6 hr_7 dX4_endsBehind_47 (by decide) (fun hc_8 => ?_) (fun hc_8 => ?_)
    · replace h := hA hc_8
      clear hA hB
      refine g_iconst hC dX4_endsBehind_50 ?_
      refine g_goto hC 55 dX4_endsBehind_51 (by decide) ?_
      exact g_zret hC hR (by decide) dX4_endsBehind_55 ⟨rfl, h⟩
    · replace h := hB hc_8
      clear hA hB
      refine g_iconst hC dX4_endsBehind_54 ?_
      exact g_zret hC hR (by decide) dX4_endsBehind_55 ⟨rfl, h⟩
abbrev wX4_mayEndBehind : List Cond := Cond.code yX4_mayEndBehind cX4_mayEndBehind 2 (some .boolean) :: gTs
abbrev rmX4_mayEndBehind : Room := { frames := 1, cells := 0, slots := 0, locals := 23 }
theorem kwX4_mayEndBehind {c0 : Cond} {rm : Room} (h1 : rmX4_mayEndBehind.frames + 1 ≤ rm.frames) (h2 : 8 + (2 + 11) + rmX4_mayEndBehind.locals ≤ rm.locals) : gCw (c0 :: gTs) rm yX4_mayEndBehind cX4_mayEndBehind 2 (some .boolean) wX4_mayEndBehind rmX4_mayEndBehind 1 := gCw_of wd_464 wd_42 h1 h2 (by decide +kernel)
def fX4_mayEndBehind (k0 : Nat) (x1 : Int) (M : gMem) (Q : Int → Prop) : Prop :=
  (rg (M k0 0) ∧ ((M k0 0) = 2 →
  (rg ((M k0 4) - 1) ∧ (fX4_hasSign k0 x1 (max ((M k0 4) - 1) 0) M (fun r_4 =>
    (rg r_4 ∧ (r_4 = 0 →
    Q 0) ∧
    (¬ r_4 = 0 →
    Q 1)))))) ∧
  (¬ (M k0 0) = 2 →
  Q 0))
set_option maxHeartbeats 4000000 in
set_option maxRecDepth 100000 in
theorem ctX4_mayEndBehind {l : Launch} {z : gZ} (hZ : gZc z) {k0 : Nat} {x1 : Int} (h0 : 7 ≤ k0 ∧ k0 < 13) {M : gMem} {Q : Int → Prop} (h : fX4_mayEndBehind k0 x1 M Q) : gMI l z cL yX4_mayEndBehind wX4_mayEndBehind rmX4_mayEndBehind [(vr z k0), (vi x1)] M (fun r M' => M = M' ∧ Q r) := by
  refine g_metI .boolean (by decide) rfl rfl (gCat_all (And.intro rfl (And.intro rfl trivial))) (Nat.le_of_ble_eq_true rfl) ?_
  intro y hC hR
  replace h : (rg (M k0 0) ∧ ((M k0 0) = 2 →
  (rg ((M k0 4) - 1) ∧ (fX4_hasSign k0 x1 (max ((M k0 4) - 1) 0) M (fun r_4 =>
    (rg r_4 ∧ (r_4 = 0 →
    Q 0) ∧
    (¬ r_4 = 0 →
    Q 1)))))) ∧
  (¬ (M k0 0) = 2 →
  Q 0)) := h
  refine g_lc (lc' := [some (vr z k0), some (vi x1)]) rfl ?_
  refine g_aload_n hC dX4_mayEndBehind_0 rfl rfl ?_
  refine g_geti (ji := 0) hC (lay_rule h0) (gc_k4 hZ) iwX4 0 (by decide) rfl rfl (wc wd_104) dX4_mayEndBehind_1 rfl ?_
  refine g_iconst hC dX4_mayEndBehind_4 ?_
  obtain ⟨hr_1, hA, hB⟩ := h
  refine g_cne hC 30 hr_1 (by decide) dX4_mayEndBehind_5 (by decide) (fun hc_2 => ?_) (fun hc_2 => ?_)
  · replace h := hA hc_2
    clear hA hB
    refine g_aload_n hC dX4_mayEndBehind_8 rfl rfl ?_
    refine g_iload_n hC dX4_mayEndBehind_9 rfl rfl ?_
    refine g_aload_n hC dX4_mayEndBehind_10 rfl rfl ?_
    refine g_geti (ji := 4) hC (lay_rule h0) (gc_k4 hZ) iwX4 4 (by decide) rfl rfl (wc wd_112) dX4_mayEndBehind_11 rfl ?_
    refine g_iconst hC dX4_mayEndBehind_14 ?_
    refine g_isub hC dX4_mayEndBehind_15 ?_
    refine g_iconst hC dX4_mayEndBehind_16 ?_
    obtain ⟨hr_3, h⟩ := h
    refine g_max hC rfl hr_3 (by decide) (wc wd_465) (wc wd_466) (wc wd_51) (wc wd_467) (by decide) (Nat.le_of_ble_eq_true rfl) dX4_mayEndBehind_17 ?_
    refine g_calli (g_runV (As := [(vi x1), (vi (max ((M k0 4) - 1) 0))]) (rest := []) hC rfl (ctX4_hasSign hZ h0 h) (lay_rule h0) (gc_k4 hZ) (kwX4_hasSign (by decide) (by decide)) rfl (wc wd_457) (wc wd_459) (wc wd_3) rfl (Nat.le_of_ble_eq_true rfl) rfl dX4_mayEndBehind_20) (fun r_4 M_5 h => ?_)
    obtain ⟨rfl, h⟩ := h
    obtain ⟨hr_6, hA, hB⟩ := h
    refine g_ieq hC 30 hr_6 dX4_mayEndBehind_23 (by decide) (fun hc_7 => ?_) (fun hc_7 => ?_)
    · replace h := hA hc_7
      clear hA hB
      refine g_iconst hC dX4_mayEndBehind_30 ?_
      exact g_zret hC hR (by decide) dX4_mayEndBehind_31 ⟨rfl, h⟩
    · replace h := hB hc_7
      clear hA hB
      refine g_iconst hC dX4_mayEndBehind_26 ?_
      refine g_goto hC 31 dX4_mayEndBehind_27 (by decide) ?_
      exact g_zret hC hR (by decide) dX4_mayEndBehind_31 ⟨rfl, h⟩
  · replace h := hB hc_2
    clear hA hB
    refine g_iconst hC dX4_mayEndBehind_30 ?_
    exact g_zret hC hR (by decide) dX4_mayEndBehind_31 ⟨rfl, h⟩
abbrev wX0_endOfPiece : List Cond := Cond.code yX0_endOfPiece cX0_endOfPiece 7 (some .int) :: gTs
abbrev rmX0_endOfPiece : Room := { frames := 2, cells := 0, slots := 0, locals := 45 }
theorem kwX0_endOfPiece {c0 : Cond} {rm : Room} (h1 : rmX0_endOfPiece.frames + 1 ≤ rm.frames) (h2 : 8 + (7 + 11) + rmX0_endOfPiece.locals ≤ rm.locals) : gCw (c0 :: gTs) rm yX0_endOfPiece cX0_endOfPiece 7 (some .int) wX0_endOfPiece rmX0_endOfPiece 2 := gCw_of wd_449 wd_43 h1 h2 (by decide +kernel)
def fX0_endOfPiece_L37 (k0 : Nat) (k1 : Nat) (x4 : Int) (M : gMem) : Nat → Int → Int → (Int → Prop) → (Int → Prop) → Prop
  | 0, _, _, _, _ => False
  | n37 + 1, x5, x6, K104, Q =>
    (rg x6 ∧ rg x4 ∧ (x4 < x6 →
    K104 x5) ∧
    (¬ x4 < x6 →
    (fX2_byteAt (M k0 4) (x6 - 1) M (fun r_7 =>
      ((0 ≤ (x6 - 1) ∧ (x6 - 1) < 600) ∧ (fX4_endsBehind k1 r_7 (M (k0 + 1) (x6 - 1)) M (fun r_10 =>
      (rg r_10 ∧ (r_10 = 0 →
      ((0 ≤ (x6 - 1) ∧ (x6 - 1) < 600) ∧ (fX4_mayEndBehind k1 (M (k0 + 1) (x6 - 1)) M (fun r_15 =>
        (rg r_15 ∧ (r_15 = 0 →
        fX0_endOfPiece_L37 k0 k1 x4 M n37 x5 (x6 + 1) K104 Q) ∧
        (¬ r_15 = 0 →
        fX0_endOfPiece_L37 k0 k1 x4 M n37 x6 (x6 + 1) K104 Q)))))) ∧
      (¬ r_10 = 0 →
      Q x6)))))))))
set_option maxHeartbeats 4000000 in
set_option maxRecDepth 100000 in
theorem ctX0_endOfPiece_L37 {y : gY} {z : gZ} {l : Launch} {k0 : Nat} {k1 : Nat} {x3 : Int} {x4 : Int} {M : gMem} {Q : Int → Prop} {K104 : Int → Prop} (hC : gC y z l cX0_endOfPiece RX0 7 wX0_endOfPiece rmX0_endOfPiece) (hR : gRI y z cL .int (fun r M' => M = M' ∧ Q r)) (hZ : gZc z) (h0 : k0 = 13 ∨ k0 = 16) (h1 : 7 ≤ k1 ∧ k1 < 13) (hK104 : ∀ (x5 : Int), K104 x5 → gW y z cL 104 [none, none, none, some (vi x3), some (vi x4), some (vi x5), none] [] M) :
    ∀ (n : Nat) (x5 : Int) (x6 : Int), fX0_endOfPiece_L37 k0 k1 x4 M n x5 x6 K104 Q → gW y z cL 37 [some (vr z k0), some (vr z k1), none, some (vi x3), some (vi x4), some (vi x5), some (vi x6)] [] M := by
  intro n
  induction n with
  | zero => intro x5 x6 h; exact False.elim h
  | succ n37 ih =>
    intro x5 x6 h
    replace h : (rg x6 ∧ rg x4 ∧ (x4 < x6 →
    K104 x5) ∧
    (¬ x4 < x6 →
    (fX2_byteAt (M k0 4) (x6 - 1) M (fun r_7 =>
      ((0 ≤ (x6 - 1) ∧ (x6 - 1) < 600) ∧ (fX4_endsBehind k1 r_7 (M (k0 + 1) (x6 - 1)) M (fun r_10 =>
      (rg r_10 ∧ (r_10 = 0 →
      ((0 ≤ (x6 - 1) ∧ (x6 - 1) < 600) ∧ (fX4_mayEndBehind k1 (M (k0 + 1) (x6 - 1)) M (fun r_15 =>
        (rg r_15 ∧ (r_15 = 0 →
        fX0_endOfPiece_L37 k0 k1 x4 M n37 x5 (x6 + 1) K104 Q) ∧
        (¬ r_15 = 0 →
        fX0_endOfPiece_L37 k0 k1 x4 M n37 x6 (x6 + 1) K104 Q)))))) ∧
      (¬ r_10 = 0 →
      Q x6))))))))) := h
    refine g_iload hC dX0_endOfPiece_37 rfl ?_
    refine g_iload hC dX0_endOfPiece_39 rfl ?_
    obtain ⟨hr_4, hr_5, hA, hB⟩ := h
    refine g_cgt hC 104 hr_4 hr_5 dX0_endOfPiece_41 (by decide) (fun hc_6 => ?_) (fun hc_6 => ?_)
    · replace h := hA hc_6
      clear hA hB
      exact g_subk (hK104 x5 h) (And.intro rfl (And.intro rfl (And.intro rfl trivial)))
    · replace h := hB hc_6
      clear hA hB
      refine g_aload_n hC dX0_endOfPiece_44 rfl rfl ?_
      refine g_aload_n hC dX0_endOfPiece_45 rfl rfl ?_
      refine g_getr (r := 1) hC (lay_cut h0) (gc_k0 hZ) iwX0 0 (by decide) rfl rfl (wc wd_133) dX0_endOfPiece_46 ?_
      refine g_aload_n hC dX0_endOfPiece_49 rfl rfl ?_
      refine g_geti (ji := 4) hC (lay_cut h0) (gc_k0 hZ) iwX0 4 (by decide) rfl rfl (wc wd_142) dX0_endOfPiece_50 rfl ?_
      refine g_iload hC dX0_endOfPiece_53 rfl ?_
      refine g_iconst hC dX0_endOfPiece_55 ?_
      refine g_isub hC dX0_endOfPiece_56 ?_
      refine g_calli (g_runV (As := [(vi (M k0 4)), (vi (x6 - 1))]) (rest := [(vr z k1)]) hC rfl (ctX2_byteAt hZ  h) rfl (gc_k2 hZ) (kwX2_byteAt (by decide) (by decide)) rfl (wc wd_434) (wc wd_389) (wc wd_390) rfl (Nat.le_of_ble_eq_true rfl) rfl dX0_endOfPiece_57) (fun r_7 M_8 h => ?_)
      obtain ⟨rfl, h⟩ := h
      refine g_aload_n hC dX0_endOfPiece_60 rfl rfl ?_
      refine g_getr (r := (k0 + 1)) hC (lay_cut h0) (gc_k0 hZ) iwX0 1 (by decide) rfl rfl (wc wd_134) dX0_endOfPiece_61 ?_
      refine g_iload hC dX0_endOfPiece_64 rfl ?_
      refine g_iconst hC dX0_endOfPiece_66 ?_
      refine g_isub hC dX0_endOfPiece_67 ?_
      obtain ⟨hb_9, h⟩ := h
      refine g_iald hC 0 (lay_cut1 h0) (c_t0 hZ) (by decide) hb_9 dX0_endOfPiece_68 ?_
      refine g_calli (g_runV (As := [(vi r_7), (vi (M (k0 + 1) (x6 - 1)))]) (rest := []) hC rfl (ctX4_endsBehind hZ h1 h) (lay_rule h1) (gc_k4 hZ) (kwX4_endsBehind (by decide) (by decide)) rfl (wc wd_453) (wc wd_454) (wc wd_455) rfl (Nat.le_of_ble_eq_true rfl) rfl dX0_endOfPiece_69) (fun r_10 M_11 h => ?_)
      obtain ⟨rfl, h⟩ := h
      obtain ⟨hr_12, hA, hB⟩ := h
      refine g_ieq hC 78 hr_12 dX0_endOfPiece_72 (by decide) (fun hc_13 => ?_) (fun hc_13 => ?_)
      · replace h := hA hc_13
        clear hA hB
        refine g_aload_n hC dX0_endOfPiece_78 rfl rfl ?_
        refine g_aload_n hC dX0_endOfPiece_79 rfl rfl ?_
        refine g_getr (r := (k0 + 1)) hC (lay_cut h0) (gc_k0 hZ) iwX0 1 (by decide) rfl rfl (wc wd_134) dX0_endOfPiece_80 ?_
        refine g_iload hC dX0_endOfPiece_83 rfl ?_
        refine g_iconst hC dX0_endOfPiece_85 ?_
        refine g_isub hC dX0_endOfPiece_86 ?_
        obtain ⟨hb_14, h⟩ := h
        refine g_iald hC 0 (lay_cut1 h0) (c_t0 hZ) (by decide) hb_14 dX0_endOfPiece_87 ?_
        refine g_calli (g_runV (As := [(vi (M (k0 + 1) (x6 - 1)))]) (rest := []) hC rfl (ctX4_mayEndBehind hZ h1 h) (lay_rule h1) (gc_k4 hZ) (kwX4_mayEndBehind (by decide) (by decide)) rfl (wc wd_461) (wc wd_462) (wc wd_463) rfl (Nat.le_of_ble_eq_true rfl) rfl dX0_endOfPiece_88) (fun r_15 M_16 h => ?_)
        obtain ⟨rfl, h⟩ := h
        obtain ⟨hr_17, hA, hB⟩ := h
        refine g_ieq hC 98 hr_17 dX0_endOfPiece_91 (by decide) (fun hc_18 => ?_) (fun hc_18 => ?_)
        · replace h := hA hc_18
          clear hA hB
          refine g_iinc2 (lc' := [some (vr z k0), some (vr z k1), none, some (vi x3), some (vi x4), some (vi x5), some (vi (x6 + 1))]) hC dX0_endOfPiece_98 rfl rfl ?_
          refine g_goto hC 37 dX0_endOfPiece_101 (by decide) ?_
          exact g_subk (ih x5 (x6 + 1) h) (And.intro rfl (And.intro rfl (And.intro rfl (And.intro rfl (And.intro rfl (And.intro rfl trivial))))))
        · replace h := hB hc_18
          clear hA hB
          refine g_iload hC dX0_endOfPiece_94 rfl ?_
          refine g_istore2 (lc' := [some (vr z k0), some (vr z k1), none, some (vi x3), some (vi x4), some (vi x6), some (vi x6)]) hC dX0_endOfPiece_96 (Nat.le_of_ble_eq_true rfl) rfl ?_
          refine g_iinc2 (lc' := [some (vr z k0), some (vr z k1), none, some (vi x3), some (vi x4), some (vi x6), some (vi (x6 + 1))]) hC dX0_endOfPiece_98 rfl rfl ?_
          refine g_goto hC 37 dX0_endOfPiece_101 (by decide) ?_
          exact g_subk (ih x6 (x6 + 1) h) (And.intro rfl (And.intro rfl (And.intro rfl (And.intro rfl (And.intro rfl (And.intro rfl trivial))))))
      · replace h := hB hc_13
        clear hA hB
        refine g_iload hC dX0_endOfPiece_75 rfl ?_
        exact g_iret hC hR dX0_endOfPiece_77 ⟨rfl, h⟩
def fX0_endOfPiece (k0 : Nat) (k1 : Nat) (x2 : Int) (M : gMem) (Q : Int → Prop) : Prop :=
  ((0 ≤ (M k0 4) ∧ (M k0 4) < 8) ∧ (rg (x2 + (M k1 2)) ∧ rg (M 3 (M k0 4)) ∧ ∃ n_23, fX0_endOfPiece_L37 k0 k1 (min (x2 + (M k1 2)) (M 3 (M k0 4))) M n_23 (min (x2 + (M k1 2)) (M 3 (M k0 4))) (x2 + (M k1 1)) (fun x5_19 =>
  (rg (min (x2 + (M k1 2)) (M 3 (M k0 4))) ∧ rg (x2 + (M k1 2)) ∧ ((min (x2 + (M k1 2)) (M 3 (M k0 4))) = (x2 + (M k1 2)) →
    Q x5_19) ∧
    (¬ (min (x2 + (M k1 2)) (M 3 (M k0 4))) = (x2 + (M k1 2)) →
    Q (min (x2 + (M k1 2)) (M 3 (M k0 4)))))) Q))
set_option maxHeartbeats 4000000 in
set_option maxRecDepth 100000 in
theorem ctX0_endOfPiece {l : Launch} {z : gZ} (hZ : gZc z) {k0 : Nat} {k1 : Nat} {x2 : Int} (h0 : k0 = 13 ∨ k0 = 16) (h1 : 7 ≤ k1 ∧ k1 < 13) {M : gMem} {Q : Int → Prop} (h : fX0_endOfPiece k0 k1 x2 M Q) : gMI l z cL yX0_endOfPiece wX0_endOfPiece rmX0_endOfPiece [(vr z k0), (vr z k1), (vi x2)] M (fun r M' => M = M' ∧ Q r) := by
  refine g_metI .int (by decide) rfl rfl (gCat_all (And.intro rfl (And.intro rfl (And.intro rfl trivial)))) (Nat.le_of_ble_eq_true rfl) ?_
  intro y hC hR
  replace h : ((0 ≤ (M k0 4) ∧ (M k0 4) < 8) ∧ (rg (x2 + (M k1 2)) ∧ rg (M 3 (M k0 4)) ∧ ∃ n_23, fX0_endOfPiece_L37 k0 k1 (min (x2 + (M k1 2)) (M 3 (M k0 4))) M n_23 (min (x2 + (M k1 2)) (M 3 (M k0 4))) (x2 + (M k1 1)) (fun x5_19 =>
  (rg (min (x2 + (M k1 2)) (M 3 (M k0 4))) ∧ rg (x2 + (M k1 2)) ∧ ((min (x2 + (M k1 2)) (M 3 (M k0 4))) = (x2 + (M k1 2)) →
    Q x5_19) ∧
    (¬ (min (x2 + (M k1 2)) (M 3 (M k0 4))) = (x2 + (M k1 2)) →
    Q (min (x2 + (M k1 2)) (M 3 (M k0 4)))))) Q)) := h
  refine g_lc (lc' := [some (vr z k0), some (vr z k1), some (vi x2), none, none, none, none]) rfl ?_
  refine g_iload_n hC dX0_endOfPiece_0 rfl rfl ?_
  refine g_aload_n hC dX0_endOfPiece_1 rfl rfl ?_
  refine g_geti (ji := 2) hC (lay_rule h1) (gc_k4 hZ) iwX4 2 (by decide) rfl rfl (wc wd_109) dX0_endOfPiece_2 rfl ?_
  refine g_iadd hC dX0_endOfPiece_5 ?_
  refine g_istore_n2 (lc' := [some (vr z k0), some (vr z k1), some (vi x2), some (vi (x2 + (M k1 2))), none, none, none]) hC dX0_endOfPiece_6 rfl (Nat.le_of_ble_eq_true rfl) rfl ?_
  refine g_iload_n hC dX0_endOfPiece_7 rfl rfl ?_
  refine g_aload_n hC dX0_endOfPiece_8 rfl rfl ?_
  refine g_getr (r := 1) hC (lay_cut h0) (gc_k0 hZ) iwX0 0 (by decide) rfl rfl (wc wd_133) dX0_endOfPiece_9 ?_
  refine g_getr (r := 3) hC rfl (gc_k2 hZ) iwX2 1 (by decide) rfl rfl (wc wd_73) dX0_endOfPiece_12 ?_
  refine g_aload_n hC dX0_endOfPiece_15 rfl rfl ?_
  refine g_geti (ji := 4) hC (lay_cut h0) (gc_k0 hZ) iwX0 4 (by decide) rfl rfl (wc wd_142) dX0_endOfPiece_16 rfl ?_
  obtain ⟨hb_1, h⟩ := h
  refine g_iald hC 0 rfl (c_t0 hZ) (by decide) hb_1 dX0_endOfPiece_19 ?_
  obtain ⟨hr_2, hr_3, h⟩ := h
  refine g_min hC rfl hr_2 hr_3 (wc wd_450) (wc wd_451) (wc wd_51) (wc wd_452) (by decide) (Nat.le_of_ble_eq_true rfl) dX0_endOfPiece_20 ?_
  refine g_istore2 (lc' := [some (vr z k0), some (vr z k1), some (vi x2), some (vi (x2 + (M k1 2))), some (vi (min (x2 + (M k1 2)) (M 3 (M k0 4)))), none, none]) hC dX0_endOfPiece_23 (Nat.le_of_ble_eq_true rfl) rfl ?_
  refine g_iload hC dX0_endOfPiece_25 rfl ?_
  refine g_istore2 (lc' := [some (vr z k0), some (vr z k1), some (vi x2), some (vi (x2 + (M k1 2))), some (vi (min (x2 + (M k1 2)) (M 3 (M k0 4)))), some (vi (min (x2 + (M k1 2)) (M 3 (M k0 4)))), none]) hC dX0_endOfPiece_27 (Nat.le_of_ble_eq_true rfl) rfl ?_
  refine g_iload_n hC dX0_endOfPiece_29 rfl rfl ?_
  refine g_aload_n hC dX0_endOfPiece_30 rfl rfl ?_
  refine g_geti (ji := 1) hC (lay_rule h1) (gc_k4 hZ) iwX4 1 (by decide) rfl rfl (wc wd_107) dX0_endOfPiece_31 rfl ?_
  refine g_iadd hC dX0_endOfPiece_34 ?_
  refine g_istore2 (lc' := [some (vr z k0), some (vr z k1), some (vi x2), some (vi (x2 + (M k1 2))), some (vi (min (x2 + (M k1 2)) (M 3 (M k0 4)))), some (vi (min (x2 + (M k1 2)) (M 3 (M k0 4)))), some (vi (x2 + (M k1 1)))]) hC dX0_endOfPiece_35 (Nat.le_of_ble_eq_true rfl) rfl ?_
  obtain ⟨n_23, h⟩ := h
  refine g_subk (ctX0_endOfPiece_L37 hC hR hZ h0 h1 ?_ n_23 (min (x2 + (M k1 2)) (M 3 (M k0 4))) (x2 + (M k1 1)) h) (And.intro rfl (And.intro rfl (And.intro rfl (And.intro rfl (And.intro rfl (And.intro rfl trivial))))))
  intro x5_19 h
  refine g_iload hC dX0_endOfPiece_104 rfl ?_
  refine g_iload_n hC dX0_endOfPiece_106 rfl rfl ?_
  obtain ⟨hr_20, hr_21, hA, hB⟩ := h
  refine g_cne hC 115 hr_20 hr_21 dX0_endOfPiece_107 (by decide) (fun hc_22 => ?_) (fun hc_22 => ?_)
  · replace h := hA hc_22
    clear hA hB
    refine g_iload hC dX0_endOfPiece_110 rfl ?_
    refine g_goto hC 117 dX0_endOfPiece_112 (by decide) ?_
    exact g_iret hC hR dX0_endOfPiece_117 ⟨rfl, h⟩
  · replace h := hB hc_22
    clear hA hB
    refine g_iload hC dX0_endOfPiece_115 rfl ?_
    exact g_iret hC hR dX0_endOfPiece_117 ⟨rfl, h⟩
abbrev wX0_divide : List Cond := Cond.code yX0_divide cX0_divide 3 none :: gTs
abbrev rmX0_divide : Room := { frames := 3, cells := 0, slots := 0, locals := 71 }
theorem kwX0_divide {c0 : Cond} {rm : Room} (h1 : rmX0_divide.frames + 1 ≤ rm.frames) (h2 : 8 + (3 + 11) + rmX0_divide.locals ≤ rm.locals) : gCw (c0 :: gTs) rm yX0_divide cX0_divide 3 none wX0_divide rmX0_divide 2 := gCw_of wd_443 wd_43 h1 h2 (by decide +kernel)
def fX0_divide_L23 (k0 : Nat) (k1 : Nat) (x2 : Int) : Nat → gMem → (gMem → Prop) → Prop
  | 0, _, _ => False
  | n23 + 1, M, Q =>
    (rg (M k0 3) ∧ ((M k0 3) < 600 →
    ((0 ≤ (M k0 3) ∧ (M k0 3) < 601) ∧ ((0 ≤ x2 ∧ x2 < 8) ∧ (rg (M (k0 + 2) (M k0 3)) ∧ rg (M 3 x2) ∧ ((M (k0 + 2) (M k0 3)) < (M 3 x2) →
      ((0 ≤ (M k0 3) ∧ (M k0 3) < 601) ∧ (fX0_endOfPiece k0 k1 (M (k0 + 2) (M k0 3)) M (fun r_15 =>
        ((0 ≤ ((M k0 3) + 1) ∧ ((M k0 3) + 1) < 601) ∧ ∀ M_18, M_18 = gSt M (k0 + 2) ((M k0 3) + 1) r_15 → (∀ M_19, M_19 = gSt M_18 k0 3 ((M_18 k0 3) + 1) → fX0_divide_L23 k0 k1 x2 n23 M_19 Q)))))) ∧
      (¬ (M (k0 + 2) (M k0 3)) < (M 3 x2) →
      Q M))))) ∧
    (¬ (M k0 3) < 600 →
    Q M))
set_option maxHeartbeats 4000000 in
set_option maxRecDepth 100000 in
theorem ctX0_divide_L23 {y : gY} {z : gZ} {l : Launch} {k0 : Nat} {k1 : Nat} {x2 : Int} {Q : gMem → Prop}  (hC : gC y z l cX0_divide RX0 3 wX0_divide rmX0_divide) (hR : gRV y z cL Q) (hZ : gZc z) (h0 : k0 = 13 ∨ k0 = 16) (h1 : 7 ≤ k1 ∧ k1 < 13) :
    ∀ (n : Nat) (M : gMem), fX0_divide_L23 k0 k1 x2 n M Q → gW y z cL 23 [some (vr z k0), some (vr z k1), some (vi x2)] [] M := by
  intro n
  induction n with
  | zero => intro M h; exact False.elim h
  | succ n23 ih =>
    intro M h
    replace h : (rg (M k0 3) ∧ ((M k0 3) < 600 →
    ((0 ≤ (M k0 3) ∧ (M k0 3) < 601) ∧ ((0 ≤ x2 ∧ x2 < 8) ∧ (rg (M (k0 + 2) (M k0 3)) ∧ rg (M 3 x2) ∧ ((M (k0 + 2) (M k0 3)) < (M 3 x2) →
      ((0 ≤ (M k0 3) ∧ (M k0 3) < 601) ∧ (fX0_endOfPiece k0 k1 (M (k0 + 2) (M k0 3)) M (fun r_15 =>
        ((0 ≤ ((M k0 3) + 1) ∧ ((M k0 3) + 1) < 601) ∧ ∀ M_18, M_18 = gSt M (k0 + 2) ((M k0 3) + 1) r_15 → (∀ M_19, M_19 = gSt M_18 k0 3 ((M_18 k0 3) + 1) → fX0_divide_L23 k0 k1 x2 n23 M_19 Q)))))) ∧
      (¬ (M (k0 + 2) (M k0 3)) < (M 3 x2) →
      Q M))))) ∧
    (¬ (M k0 3) < 600 →
    Q M)) := h
    refine g_aload_n hC dX0_divide_23 rfl rfl ?_
    refine g_geti (ji := 3) hC (lay_cut h0) (gc_k0 hZ) iwX0 3 (by decide) rfl rfl (wc wd_140) dX0_divide_24 rfl ?_
    refine g_sipush hC dX0_divide_27 (by decide) ?_
    obtain ⟨hr_7, hA, hB⟩ := h
    refine g_cge hC 92 hr_7 (by decide) dX0_divide_30 (by decide) (fun hc_8 => ?_) (fun hc_8 => ?_)
    · replace h := hA hc_8
      clear hA hB
      refine g_aload_n hC dX0_divide_33 rfl rfl ?_
      refine g_getr (r := (k0 + 2)) hC (lay_cut h0) (gc_k0 hZ) iwX0 2 (by decide) rfl rfl (wc wd_136) dX0_divide_34 ?_
      refine g_aload_n hC dX0_divide_37 rfl rfl ?_
      refine g_geti (ji := 3) hC (lay_cut h0) (gc_k0 hZ) iwX0 3 (by decide) rfl rfl (wc wd_140) dX0_divide_38 rfl ?_
      obtain ⟨hb_9, h⟩ := h
      refine g_iald hC 0 (lay_cut2 h0) (c_t0 hZ) (by decide) hb_9 dX0_divide_41 ?_
      refine g_aload_n hC dX0_divide_42 rfl rfl ?_
      refine g_getr (r := 1) hC (lay_cut h0) (gc_k0 hZ) iwX0 0 (by decide) rfl rfl (wc wd_133) dX0_divide_43 ?_
      refine g_getr (r := 3) hC rfl (gc_k2 hZ) iwX2 1 (by decide) rfl rfl (wc wd_73) dX0_divide_46 ?_
      refine g_iload_n hC dX0_divide_49 rfl rfl ?_
      obtain ⟨hb_10, h⟩ := h
      refine g_iald hC 0 rfl (c_t0 hZ) (by decide) hb_10 dX0_divide_50 ?_
      obtain ⟨hr_11, hr_12, hA, hB⟩ := h
      refine g_cge hC 92 hr_11 hr_12 dX0_divide_51 (by decide) (fun hc_13 => ?_) (fun hc_13 => ?_)
      · replace h := hA hc_13
        clear hA hB
        refine g_aload_n hC dX0_divide_54 rfl rfl ?_
        refine g_getr (r := (k0 + 2)) hC (lay_cut h0) (gc_k0 hZ) iwX0 2 (by decide) rfl rfl (wc wd_136) dX0_divide_55 ?_
        refine g_aload_n hC dX0_divide_58 rfl rfl ?_
        refine g_geti (ji := 3) hC (lay_cut h0) (gc_k0 hZ) iwX0 3 (by decide) rfl rfl (wc wd_140) dX0_divide_59 rfl ?_
        refine g_iconst hC dX0_divide_62 ?_
        refine g_iadd hC dX0_divide_63 ?_
        refine g_aload_n hC dX0_divide_64 rfl rfl ?_
        refine g_aload_n hC dX0_divide_65 rfl rfl ?_
        refine g_aload_n hC dX0_divide_66 rfl rfl ?_
        refine g_getr (r := (k0 + 2)) hC (lay_cut h0) (gc_k0 hZ) iwX0 2 (by decide) rfl rfl (wc wd_136) dX0_divide_67 ?_
        refine g_aload_n hC dX0_divide_70 rfl rfl ?_
        refine g_geti (ji := 3) hC (lay_cut h0) (gc_k0 hZ) iwX0 3 (by decide) rfl rfl (wc wd_140) dX0_divide_71 rfl ?_
        obtain ⟨hb_14, h⟩ := h
        refine g_iald hC 0 (lay_cut2 h0) (c_t0 hZ) (by decide) hb_14 dX0_divide_74 ?_
        refine g_calli (g_runV (As := [(vr z k1), (vi (M (k0 + 2) (M k0 3)))]) (rest := [(vi ((M k0 3) + 1)), (vr z (k0 + 2))]) hC rfl (ctX0_endOfPiece hZ h0 h1 h) (lay_cut h0) (gc_k0 hZ) (kwX0_endOfPiece (by decide) (by decide)) rfl (wc wd_446) (wc wd_448) (wc wd_2) rfl (Nat.le_of_ble_eq_true rfl) rfl dX0_divide_75) (fun r_15 M_16 h => ?_)
        obtain ⟨rfl, h⟩ := h
        obtain ⟨hb_17, h⟩ := h
        obtain ⟨M_18, hM_18⟩ : ∃ M9, M9 = gSt M (k0 + 2) ((M k0 3) + 1) r_15 := ⟨_, rfl⟩
        replace h := h M_18 hM_18
        refine g_iast hC 0 (lay_cut2 h0) (c_t0 hZ) (by decide) hb_17 dX0_divide_78 hM_18 ?_
        refine g_aload_n hC dX0_divide_79 rfl rfl ?_
        refine g_dup hC dX0_divide_80 rfl ?_
        refine g_geti (ji := 3) hC (lay_cut h0) (gc_k0 hZ) iwX0 3 (by decide) rfl rfl (wc wd_140) dX0_divide_81 rfl ?_
        refine g_iconst hC dX0_divide_84 ?_
        refine g_iadd hC dX0_divide_85 ?_
        obtain ⟨M_19, hM_19⟩ : ∃ M9, M9 = gSt M_18 k0 3 ((M_18 k0 3) + 1) := ⟨_, rfl⟩
        replace h := h M_19 hM_19
        refine g_puti (ji := 3) hC (lay_cut h0) (gc_k0 hZ) iwX0 tyX0_ok nmX0 3 (by decide) rfl rfl (wc wd_140) rfl rfl dX0_divide_86 rfl hM_19 ?_
        refine g_goto hC 23 dX0_divide_89 (by decide) ?_
        exact g_subk (ih M_19 h) (And.intro rfl (And.intro rfl (And.intro rfl trivial)))
      · replace h := hB hc_13
        clear hA hB
        exact g_vret hC hR dX0_divide_92 h
    · replace h := hB hc_8
      clear hA hB
      exact g_vret hC hR dX0_divide_92 h
def fX0_divide (k0 : Nat) (k1 : Nat) (x2 : Int) (M : gMem) (Q : gMem → Prop) : Prop :=
  (fX4_hasWindow k1 M (fun r_1 =>
  (rg r_1 ∧ (r_1 = 0 →
  (∀ M_5, M_5 = gSt M k0 4 x2 → (∀ M_6, M_6 = gSt M_5 k0 3 0 → ∃ n_20, fX0_divide_L23 k0 k1 x2 n_20 M_6 Q))) ∧
  (¬ r_1 = 0 →
  (fX0_addUp k0 k1 x2 M (fun M_21 =>
    (∀ M_22, M_22 = gSt M_21 k0 4 x2 → (∀ M_23, M_23 = gSt M_22 k0 3 0 → ∃ n_24, fX0_divide_L23 k0 k1 x2 n_24 M_23 Q))))))))
set_option maxHeartbeats 4000000 in
set_option maxRecDepth 100000 in
theorem ctX0_divide {l : Launch} {z : gZ} (hZ : gZc z) {k0 : Nat} {k1 : Nat} {x2 : Int} (h0 : k0 = 13 ∨ k0 = 16) (h1 : 7 ≤ k1 ∧ k1 < 13) {M : gMem} {Q : gMem → Prop} (h : fX0_divide k0 k1 x2 M Q) : gMV l z cL yX0_divide wX0_divide rmX0_divide [(vr z k0), (vr z k1), (vi x2)] M Q := by
  refine g_metV (by decide) rfl rfl (gCat_all (And.intro rfl (And.intro rfl (And.intro rfl trivial)))) (Nat.le_of_ble_eq_true rfl) ?_
  intro y hC hR
  replace h : (fX4_hasWindow k1 M (fun r_1 =>
  (rg r_1 ∧ (r_1 = 0 →
  (∀ M_5, M_5 = gSt M k0 4 x2 → (∀ M_6, M_6 = gSt M_5 k0 3 0 → ∃ n_20, fX0_divide_L23 k0 k1 x2 n_20 M_6 Q))) ∧
  (¬ r_1 = 0 →
  (fX0_addUp k0 k1 x2 M (fun M_21 =>
    (∀ M_22, M_22 = gSt M_21 k0 4 x2 → (∀ M_23, M_23 = gSt M_22 k0 3 0 → ∃ n_24, fX0_divide_L23 k0 k1 x2 n_24 M_23 Q)))))))) := h
  refine g_lc (lc' := [some (vr z k0), some (vr z k1), some (vi x2)]) rfl ?_
  refine g_aload_n hC dX0_divide_0 rfl rfl ?_
  refine g_calli (g_runV (As := []) (rest := []) hC rfl (ctX4_hasWindow hZ h1 h) (lay_rule h1) (gc_k4 hZ) (kwX4_hasWindow (by decide) (by decide)) rfl (wc wd_444) (wc wd_427) (wc wd_428) rfl (Nat.le_of_ble_eq_true rfl) rfl dX0_divide_1) (fun r_1 M_2 h => ?_)
  obtain ⟨rfl, h⟩ := h
  obtain ⟨hr_3, hA, hB⟩ := h
  refine g_ieq hC 13 hr_3 dX0_divide_4 (by decide) (fun hc_4 => ?_) (fun hc_4 => ?_)
  · replace h := hA hc_4
    clear hA hB
    refine g_aload_n hC dX0_divide_13 rfl rfl ?_
    refine g_iload_n hC dX0_divide_14 rfl rfl ?_
    obtain ⟨M_5, hM_5⟩ : ∃ M9, M9 = gSt M k0 4 x2 := ⟨_, rfl⟩
    replace h := h M_5 hM_5
    refine g_puti (ji := 4) hC (lay_cut h0) (gc_k0 hZ) iwX0 tyX0_ok nmX0 4 (by decide) rfl rfl (wc wd_142) rfl rfl dX0_divide_15 rfl hM_5 ?_
    refine g_aload_n hC dX0_divide_18 rfl rfl ?_
    refine g_iconst hC dX0_divide_19 ?_
    obtain ⟨M_6, hM_6⟩ : ∃ M9, M9 = gSt M_5 k0 3 0 := ⟨_, rfl⟩
    replace h := h M_6 hM_6
    refine g_puti (ji := 3) hC (lay_cut h0) (gc_k0 hZ) iwX0 tyX0_ok nmX0 3 (by decide) rfl rfl (wc wd_140) rfl rfl dX0_divide_20 rfl hM_6 ?_
    obtain ⟨n_20, h⟩ := h
    refine g_subk (ctX0_divide_L23 hC hR hZ h0 h1 n_20 M_6 h) (And.intro rfl (And.intro rfl (And.intro rfl trivial)))
  · replace h := hB hc_4
    clear hA hB
    refine g_aload_n hC dX0_divide_7 rfl rfl ?_
    refine g_aload_n hC dX0_divide_8 rfl rfl ?_
    refine g_iload_n hC dX0_divide_9 rfl rfl ?_
    refine g_callv (g_runV (As := [(vr z k1), (vi x2)]) (rest := []) hC rfl (ctX0_addUp hZ h0 h1 h) (lay_cut h0) (gc_k0 hZ) (kwX0_addUp (by decide) (by decide)) rfl (wc wd_445) (wc wd_431) (wc wd_432) rfl (Nat.le_of_ble_eq_true rfl) rfl dX0_divide_10) (fun M_21 h => ?_)
    refine g_aload_n hC dX0_divide_13 rfl rfl ?_
    refine g_iload_n hC dX0_divide_14 rfl rfl ?_
    obtain ⟨M_22, hM_22⟩ : ∃ M9, M9 = gSt M_21 k0 4 x2 := ⟨_, rfl⟩
    replace h := h M_22 hM_22
    refine g_puti (ji := 4) hC (lay_cut h0) (gc_k0 hZ) iwX0 tyX0_ok nmX0 4 (by decide) rfl rfl (wc wd_142) rfl rfl dX0_divide_15 rfl hM_22 ?_
    refine g_aload_n hC dX0_divide_18 rfl rfl ?_
    refine g_iconst hC dX0_divide_19 ?_
    obtain ⟨M_23, hM_23⟩ : ∃ M9, M9 = gSt M_22 k0 3 0 := ⟨_, rfl⟩
    replace h := h M_23 hM_23
    refine g_puti (ji := 3) hC (lay_cut h0) (gc_k0 hZ) iwX0 tyX0_ok nmX0 3 (by decide) rfl rfl (wc wd_140) rfl rfl dX0_divide_20 rfl hM_23 ?_
    obtain ⟨n_24, h⟩ := h
    refine g_subk (ctX0_divide_L23 hC hR hZ h0 h1 n_24 M_23 h) (And.intro rfl (And.intro rfl (And.intro rfl trivial)))
abbrev wJ7_fill_53178 : List Cond := Cond.code yJ7_fill_53178 cJ7_fill_53178 4 none :: gTs
abbrev rmJ7_fill_53178 : Room := { frames := 0, cells := 0, slots := 0, locals := 0 }
theorem kwJ7_fill_53178 {c0 : Cond} {rm : Room} (h1 : rmJ7_fill_53178.frames + 1 ≤ rm.frames) (h2 : 8 + (4 + 11) + rmJ7_fill_53178.locals ≤ rm.locals) : gCw (c0 :: gTs) rm yJ7_fill_53178 cJ7_fill_53178 4 none wJ7_fill_53178 rmJ7_fill_53178 2 := gCw_of wd_184 wd_46 h1 h2 (by decide +kernel)
def fJ7_fill_53178_L5 (k0 n0 : Nat) (x1 : Int) (x3 : Int) : Nat → Int → gMem → (gMem → Prop) → Prop
  | 0, _, _, _ => False
  | n5 + 1, x2, M, Q =>
    (rg x2 ∧ rg x3 ∧ (x2 < x3 →
    ((0 ≤ x2 ∧ x2 < n0) ∧ ∀ M_5, M_5 = gSt M k0 x2 x1 → fJ7_fill_53178_L5 k0 n0 x1 x3 n5 (x2 + 1) M_5 Q)) ∧
    (¬ x2 < x3 →
    Q M))
set_option maxHeartbeats 4000000 in
set_option maxRecDepth 100000 in
theorem ctJ7_fill_53178_L5 {y : gY} {z : gZ} {l : Launch} {L : gLay} {k0 n0 : Nat} {x1 : Int} {x3 : Int} {Q : gMem → Prop}  (hC : gC y z l cJ7_fill_53178 RJ7 4 wJ7_fill_53178 rmJ7_fill_53178) (hR : gRV y z L Q) (ht : z.2.2.1[0]? = some (z.2.2.2.2.1 0, .int)) (h0 : L[k0]? = some (.inl (0, n0))) (hn0 : n0 < 2147483648) :
    ∀ (n : Nat) (x2 : Int) (M : gMem), fJ7_fill_53178_L5 k0 n0 x1 x3 n x2 M Q → gW y z L 5 [some (vr z k0), some (vi x1), some (vi x2), some (vi x3)] [] M := by
  intro n
  induction n with
  | zero => intro x2 M h; exact False.elim h
  | succ n5 ih =>
    intro x2 M h
    replace h : (rg x2 ∧ rg x3 ∧ (x2 < x3 →
    ((0 ≤ x2 ∧ x2 < n0) ∧ ∀ M_5, M_5 = gSt M k0 x2 x1 → fJ7_fill_53178_L5 k0 n0 x1 x3 n5 (x2 + 1) M_5 Q)) ∧
    (¬ x2 < x3 →
    Q M)) := h
    refine g_iload_n hC dJ7_fill_53178_5 rfl rfl ?_
    refine g_iload_n hC dJ7_fill_53178_6 rfl rfl ?_
    obtain ⟨hr_1, hr_2, hA, hB⟩ := h
    refine g_cge hC 20 hr_1 hr_2 dJ7_fill_53178_7 (by decide) (fun hc_3 => ?_) (fun hc_3 => ?_)
    · replace h := hA hc_3
      clear hA hB
      refine g_aload_n hC dJ7_fill_53178_10 rfl rfl ?_
      refine g_iload_n hC dJ7_fill_53178_11 rfl rfl ?_
      refine g_iload_n hC dJ7_fill_53178_12 rfl rfl ?_
      obtain ⟨hb_4, h⟩ := h
      obtain ⟨M_5, hM_5⟩ : ∃ M9, M9 = gSt M k0 x2 x1 := ⟨_, rfl⟩
      replace h := h M_5 hM_5
      refine g_iast hC 0 h0 ht hn0 hb_4 dJ7_fill_53178_13 hM_5 ?_
      refine g_iinc2 (lc' := [some (vr z k0), some (vi x1), some (vi (x2 + 1)), some (vi x3)]) hC dJ7_fill_53178_14 rfl rfl ?_
      refine g_goto hC 5 dJ7_fill_53178_17 (by decide) ?_
      exact g_subk (ih (x2 + 1) M_5 h) (And.intro rfl (And.intro rfl (And.intro rfl (And.intro rfl trivial))))
    · replace h := hB hc_3
      clear hA hB
      exact g_vret hC hR dJ7_fill_53178_20 h
def fJ7_fill_53178 (k0 n0 : Nat) (x1 : Int) (M : gMem) (Q : gMem → Prop) : Prop :=
  ∃ n_6, fJ7_fill_53178_L5 k0 n0 x1 (n0 : Int) n_6 0 M Q
set_option maxHeartbeats 4000000 in
set_option maxRecDepth 100000 in
theorem ctJ7_fill_53178 {l : Launch} {z : gZ} {L : gLay} (ht : z.2.2.1[0]? = some (z.2.2.2.2.1 0, .int)) {k0 n0 : Nat} {x1 : Int} (h0 : L[k0]? = some (.inl (0, n0))) (hn0 : n0 < 2147483648) {M : gMem} {Q : gMem → Prop} (h : fJ7_fill_53178 k0 n0 x1 M Q) : gMV l z L yJ7_fill_53178 wJ7_fill_53178 rmJ7_fill_53178 [(vr z k0), (vi x1)] M Q := by
  refine g_metV (by decide) rfl rfl (gCat_all (And.intro rfl (And.intro rfl trivial))) (Nat.le_of_ble_eq_true rfl) ?_
  intro y hC hR
  replace h : ∃ n_6, fJ7_fill_53178_L5 k0 n0 x1 (n0 : Int) n_6 0 M Q := h
  refine g_lc (lc' := [some (vr z k0), some (vi x1), none, none]) rfl ?_
  refine g_iconst hC dJ7_fill_53178_0 ?_
  refine g_istore_n2 (lc' := [some (vr z k0), some (vi x1), some (vi 0), none]) hC dJ7_fill_53178_1 rfl (Nat.le_of_ble_eq_true rfl) rfl ?_
  refine g_aload_n hC dJ7_fill_53178_2 rfl rfl ?_
  refine g_alen hC 0 h0 ht dJ7_fill_53178_3 ?_
  refine g_istore_n2 (lc' := [some (vr z k0), some (vi x1), some (vi 0), some (vi (n0 : Int))]) hC dJ7_fill_53178_4 rfl (Nat.le_of_ble_eq_true rfl) rfl ?_
  obtain ⟨n_6, h⟩ := h
  refine g_subk (ctJ7_fill_53178_L5 hC hR ht h0 hn0 n_6 0 M h) (And.intro rfl (And.intro rfl (And.intro rfl (And.intro rfl trivial))))
