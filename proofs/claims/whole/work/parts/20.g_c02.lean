abbrev wX3_addPair : List Cond := Cond.code yX3_addPair cX3_addPair 5 none :: gTs
abbrev rmX3_addPair : Room := { frames := 2, cells := 0, slots := 0, locals := 44 }
theorem kwX3_addPair {c0 : Cond} {rm : Room} (h1 : rmX3_addPair.frames + 1 ≤ rm.frames) (h2 : 8 + (5 + 11) + rmX3_addPair.locals ≤ rm.locals) : gCw (c0 :: gTs) rm yX3_addPair cX3_addPair 5 none wX3_addPair rmX3_addPair 2 := gCw_of wd_662 wd_48 h1 h2 (by decide +kernel)
def fX3_addPair (x1 : Int) (x2 : Int) (M : gMem) (Q : gMem → Prop) : Prop :=
  (fX3_countOnceMore ((shl x1 11) + x2) M (fun r_1 M_2 =>
  (rg r_1 ∧ rg (M_2 41 5) ∧ ((M_2 41 5) < r_1 →
  (∀ M_6, M_6 = gSt M_2 41 5 r_1 → (∀ M_7, M_7 = gSt M_6 41 4 ((shl x1 11) + x2) → (∀ M_8, M_8 = gSt M_7 41 6 x1 → (∀ M_9, M_9 = gSt M_8 41 7 x2 → Q M_9))))) ∧
  (¬ (M_2 41 5) < r_1 →
  (rg r_1 ∧ rg (M_2 41 5) ∧ (r_1 = (M_2 41 5) →
    (rg ((shl x1 11) + x2) ∧ rg (M_2 41 4) ∧ (((shl x1 11) + x2) < (M_2 41 4) →
      (∀ M_16, M_16 = gSt M_2 41 5 r_1 → (∀ M_17, M_17 = gSt M_16 41 4 ((shl x1 11) + x2) → (∀ M_18, M_18 = gSt M_17 41 6 x1 → (∀ M_19, M_19 = gSt M_18 41 7 x2 → Q M_19))))) ∧
      (¬ ((shl x1 11) + x2) < (M_2 41 4) →
      Q M_2))) ∧
    (¬ r_1 = (M_2 41 5) →
    Q M_2))))))
set_option maxHeartbeats 4000000 in
set_option maxRecDepth 100000 in
theorem ctX3_addPair {l : Launch} {z : gZ} (hZ : gZc z) {x1 : Int} {x2 : Int}  {M : gMem} {Q : gMem → Prop} (h : fX3_addPair x1 x2 M Q) : gMV l z cL yX3_addPair wX3_addPair rmX3_addPair [(vr z 41), (vi x1), (vi x2)] M Q := by
  refine g_metV (by decide) rfl rfl (gCat_all (And.intro rfl (And.intro rfl (And.intro rfl trivial)))) (Nat.le_of_ble_eq_true rfl) ?_
  intro y hC hR
  replace h : (fX3_countOnceMore ((shl x1 11) + x2) M (fun r_1 M_2 =>
  (rg r_1 ∧ rg (M_2 41 5) ∧ ((M_2 41 5) < r_1 →
  (∀ M_6, M_6 = gSt M_2 41 5 r_1 → (∀ M_7, M_7 = gSt M_6 41 4 ((shl x1 11) + x2) → (∀ M_8, M_8 = gSt M_7 41 6 x1 → (∀ M_9, M_9 = gSt M_8 41 7 x2 → Q M_9))))) ∧
  (¬ (M_2 41 5) < r_1 →
  (rg r_1 ∧ rg (M_2 41 5) ∧ (r_1 = (M_2 41 5) →
    (rg ((shl x1 11) + x2) ∧ rg (M_2 41 4) ∧ (((shl x1 11) + x2) < (M_2 41 4) →
      (∀ M_16, M_16 = gSt M_2 41 5 r_1 → (∀ M_17, M_17 = gSt M_16 41 4 ((shl x1 11) + x2) → (∀ M_18, M_18 = gSt M_17 41 6 x1 → (∀ M_19, M_19 = gSt M_18 41 7 x2 → Q M_19))))) ∧
      (¬ ((shl x1 11) + x2) < (M_2 41 4) →
      Q M_2))) ∧
    (¬ r_1 = (M_2 41 5) →
    Q M_2)))))) := h
  refine g_lc (lc' := [some (vr z 41), some (vi x1), some (vi x2), none, none]) rfl ?_
  refine g_iload_n hC dX3_addPair_0 rfl rfl ?_
  refine g_bipush hC dX3_addPair_1 (by decide) ?_
  refine g_ishl hC (by decide) dX3_addPair_3 ?_
  refine g_iload_n hC dX3_addPair_4 rfl rfl ?_
  refine g_iadd hC dX3_addPair_5 ?_
  refine g_istore_n2 (lc' := [some (vr z 41), some (vi x1), some (vi x2), some (vi ((shl x1 11) + x2)), none]) hC dX3_addPair_6 rfl (Nat.le_of_ble_eq_true rfl) rfl ?_
  refine g_aload_n hC dX3_addPair_7 rfl rfl ?_
  refine g_iload_n hC dX3_addPair_8 rfl rfl ?_
  refine g_calli (g_runV (As := [(vi ((shl x1 11) + x2))]) (rest := []) hC rfl (ctX3_countOnceMore hZ  h) rfl (gc_k3 hZ) (kwX3_countOnceMore (by decide) (by decide)) rfl (wc wd_663) (wc wd_665) (wc wd_18) rfl (Nat.le_of_ble_eq_true rfl) rfl dX3_addPair_9) (fun r_1 M_2 h => ?_)
  refine g_istore2 (lc' := [some (vr z 41), some (vi x1), some (vi x2), some (vi ((shl x1 11) + x2)), some (vi r_1)]) hC dX3_addPair_12 (Nat.le_of_ble_eq_true rfl) rfl ?_
  refine g_iload hC dX3_addPair_14 rfl ?_
  refine g_aload_n hC dX3_addPair_16 rfl rfl ?_
  refine g_geti (ji := 5) hC rfl (gc_k3 hZ) iwX3 5 (by decide) rfl rfl (wc wd_247) dX3_addPair_17 rfl ?_
  obtain ⟨hr_3, hr_4, hA, hB⟩ := h
  refine g_cgt hC 40 hr_3 hr_4 dX3_addPair_20 (by decide) (fun hc_5 => ?_) (fun hc_5 => ?_)
  · replace h := hA hc_5
    clear hA hB
    refine g_aload_n hC dX3_addPair_40 rfl rfl ?_
    refine g_iload hC dX3_addPair_41 rfl ?_
    obtain ⟨M_6, hM_6⟩ : ∃ M9, M9 = gSt M_2 41 5 r_1 := ⟨_, rfl⟩
    replace h := h M_6 hM_6
    refine g_puti (ji := 5) hC rfl (gc_k3 hZ) iwX3 tyX3_ok nmX3 5 (by decide) rfl rfl (wc wd_247) rfl rfl dX3_addPair_43 rfl hM_6 ?_
    refine g_aload_n hC dX3_addPair_46 rfl rfl ?_
    refine g_iload_n hC dX3_addPair_47 rfl rfl ?_
    obtain ⟨M_7, hM_7⟩ : ∃ M9, M9 = gSt M_6 41 4 ((shl x1 11) + x2) := ⟨_, rfl⟩
    replace h := h M_7 hM_7
    refine g_puti (ji := 4) hC rfl (gc_k3 hZ) iwX3 tyX3_ok nmX3 4 (by decide) rfl rfl (wc wd_246) rfl rfl dX3_addPair_48 rfl hM_7 ?_
    refine g_aload_n hC dX3_addPair_51 rfl rfl ?_
    refine g_iload_n hC dX3_addPair_52 rfl rfl ?_
    obtain ⟨M_8, hM_8⟩ : ∃ M9, M9 = gSt M_7 41 6 x1 := ⟨_, rfl⟩
    replace h := h M_8 hM_8
    refine g_puti (ji := 6) hC rfl (gc_k3 hZ) iwX3 tyX3_ok nmX3 6 (by decide) rfl rfl (wc wd_249) rfl rfl dX3_addPair_53 rfl hM_8 ?_
    refine g_aload_n hC dX3_addPair_56 rfl rfl ?_
    refine g_iload_n hC dX3_addPair_57 rfl rfl ?_
    obtain ⟨M_9, hM_9⟩ : ∃ M9, M9 = gSt M_8 41 7 x2 := ⟨_, rfl⟩
    replace h := h M_9 hM_9
    refine g_puti (ji := 7) hC rfl (gc_k3 hZ) iwX3 tyX3_ok nmX3 7 (by decide) rfl rfl (wc wd_251) rfl rfl dX3_addPair_58 rfl hM_9 ?_
    exact g_vret hC hR dX3_addPair_61 h
  · replace h := hB hc_5
    clear hA hB
    refine g_iload hC dX3_addPair_23 rfl ?_
    refine g_aload_n hC dX3_addPair_25 rfl rfl ?_
    refine g_geti (ji := 5) hC rfl (gc_k3 hZ) iwX3 5 (by decide) rfl rfl (wc wd_247) dX3_addPair_26 rfl ?_
    obtain ⟨hr_10, hr_11, hA, hB⟩ := h
    refine g_cne hC 61 hr_10 hr_11 dX3_addPair_29 (by decide) (fun hc_12 => ?_) (fun hc_12 => ?_)
    · replace h := hA hc_12
      clear hA hB
      refine g_iload_n hC dX3_addPair_32 rfl rfl ?_
      refine g_aload_n hC dX3_addPair_33 rfl rfl ?_
      refine g_geti (ji := 4) hC rfl (gc_k3 hZ) iwX3 4 (by decide) rfl rfl (wc wd_246) dX3_addPair_34 rfl ?_
      obtain ⟨hr_13, hr_14, hA, hB⟩ := h
      refine g_cge hC 61 hr_13 hr_14 dX3_addPair_37 (by decide) (fun hc_15 => ?_) (fun hc_15 => ?_)
      · replace h := hA hc_15
        clear hA hB
        refine g_aload_n hC dX3_addPair_40 rfl rfl ?_
        refine g_iload hC dX3_addPair_41 rfl ?_
        obtain ⟨M_16, hM_16⟩ : ∃ M9, M9 = gSt M_2 41 5 r_1 := ⟨_, rfl⟩
        replace h := h M_16 hM_16
        refine g_puti (ji := 5) hC rfl (gc_k3 hZ) iwX3 tyX3_ok nmX3 5 (by decide) rfl rfl (wc wd_247) rfl rfl dX3_addPair_43 rfl hM_16 ?_
        refine g_aload_n hC dX3_addPair_46 rfl rfl ?_
        refine g_iload_n hC dX3_addPair_47 rfl rfl ?_
        obtain ⟨M_17, hM_17⟩ : ∃ M9, M9 = gSt M_16 41 4 ((shl x1 11) + x2) := ⟨_, rfl⟩
        replace h := h M_17 hM_17
        refine g_puti (ji := 4) hC rfl (gc_k3 hZ) iwX3 tyX3_ok nmX3 4 (by decide) rfl rfl (wc wd_246) rfl rfl dX3_addPair_48 rfl hM_17 ?_
        refine g_aload_n hC dX3_addPair_51 rfl rfl ?_
        refine g_iload_n hC dX3_addPair_52 rfl rfl ?_
        obtain ⟨M_18, hM_18⟩ : ∃ M9, M9 = gSt M_17 41 6 x1 := ⟨_, rfl⟩
        replace h := h M_18 hM_18
        refine g_puti (ji := 6) hC rfl (gc_k3 hZ) iwX3 tyX3_ok nmX3 6 (by decide) rfl rfl (wc wd_249) rfl rfl dX3_addPair_53 rfl hM_18 ?_
        refine g_aload_n hC dX3_addPair_56 rfl rfl ?_
        refine g_iload_n hC dX3_addPair_57 rfl rfl ?_
        obtain ⟨M_19, hM_19⟩ : ∃ M9, M9 = gSt M_18 41 7 x2 := ⟨_, rfl⟩
        replace h := h M_19 hM_19
        refine g_puti (ji := 7) hC rfl (gc_k3 hZ) iwX3 tyX3_ok nmX3 7 (by decide) rfl rfl (wc wd_251) rfl rfl dX3_addPair_58 rfl hM_19 ?_
        exact g_vret hC hR dX3_addPair_61 h
      · replace h := hB hc_15
        clear hA hB
        exact g_vret hC hR dX3_addPair_61 h
    · replace h := hB hc_12
      clear hA hB
      exact g_vret hC hR dX3_addPair_61 h
abbrev wX4_become : List Cond := Cond.code yX4_become cX4_become 5 none :: gTs
abbrev rmX4_become : Room := { frames := 0, cells := 0, slots := 0, locals := 0 }
theorem kwX4_become {c0 : Cond} {rm : Room} (h1 : rmX4_become.frames + 1 ≤ rm.frames) (h2 : 8 + (5 + 11) + rmX4_become.locals ≤ rm.locals) : gCw (c0 :: gTs) rm yX4_become cX4_become 5 none wX4_become rmX4_become 4 := gCw_of wd_402 wd_42 h1 h2 (by decide +kernel)
def fX4_become (k0 : Nat) (x1 : Int) (x2 : Int) (x3 : Int) (x4 : Int) (M : gMem) (Q : gMem → Prop) : Prop :=
  (∀ M_1, M_1 = gSt M k0 0 x1 → (∀ M_2, M_2 = gSt M_1 k0 1 x2 → (∀ M_3, M_3 = gSt M_2 k0 2 x3 → (∀ M_4, M_4 = gSt M_3 k0 5 x4 → Q M_4))))
set_option maxHeartbeats 4000000 in
set_option maxRecDepth 100000 in
theorem ctX4_become {l : Launch} {z : gZ} (hZ : gZc z) {k0 : Nat} {x1 : Int} {x2 : Int} {x3 : Int} {x4 : Int} (h0 : 7 ≤ k0 ∧ k0 < 13) {M : gMem} {Q : gMem → Prop} (h : fX4_become k0 x1 x2 x3 x4 M Q) : gMV l z cL yX4_become wX4_become rmX4_become [(vr z k0), (vi x1), (vi x2), (vi x3), (vi x4)] M Q := by
  refine g_metV (by decide) rfl rfl (gCat_all (And.intro rfl (And.intro rfl (And.intro rfl (And.intro rfl (And.intro rfl trivial)))))) (Nat.le_of_ble_eq_true rfl) ?_
  intro y hC hR
  replace h : (∀ M_1, M_1 = gSt M k0 0 x1 → (∀ M_2, M_2 = gSt M_1 k0 1 x2 → (∀ M_3, M_3 = gSt M_2 k0 2 x3 → (∀ M_4, M_4 = gSt M_3 k0 5 x4 → Q M_4)))) := h
  refine g_lc (lc' := [some (vr z k0), some (vi x1), some (vi x2), some (vi x3), some (vi x4)]) rfl ?_
  refine g_aload_n hC dX4_become_0 rfl rfl ?_
  refine g_iload_n hC dX4_become_1 rfl rfl ?_
  obtain ⟨M_1, hM_1⟩ : ∃ M9, M9 = gSt M k0 0 x1 := ⟨_, rfl⟩
  replace h := h M_1 hM_1
  refine g_puti (ji := 0) hC (lay_rule h0) (gc_k4 hZ) iwX4 tyX4_ok nmX4 0 (by decide) rfl rfl (wc wd_104) rfl rfl dX4_become_2 rfl hM_1 ?_
  refine g_aload_n hC dX4_become_5 rfl rfl ?_
  refine g_iload_n hC dX4_become_6 rfl rfl ?_
  obtain ⟨M_2, hM_2⟩ : ∃ M9, M9 = gSt M_1 k0 1 x2 := ⟨_, rfl⟩
  replace h := h M_2 hM_2
  refine g_puti (ji := 1) hC (lay_rule h0) (gc_k4 hZ) iwX4 tyX4_ok nmX4 1 (by decide) rfl rfl (wc wd_106) rfl rfl dX4_become_7 rfl hM_2 ?_
  refine g_aload_n hC dX4_become_10 rfl rfl ?_
  refine g_iload_n hC dX4_become_11 rfl rfl ?_
  obtain ⟨M_3, hM_3⟩ : ∃ M9, M9 = gSt M_2 k0 2 x3 := ⟨_, rfl⟩
  replace h := h M_3 hM_3
  refine g_puti (ji := 2) hC (lay_rule h0) (gc_k4 hZ) iwX4 tyX4_ok nmX4 2 (by decide) rfl rfl (wc wd_108) rfl rfl dX4_become_12 rfl hM_3 ?_
  refine g_aload_n hC dX4_become_15 rfl rfl ?_
  refine g_iload hC dX4_become_16 rfl ?_
  obtain ⟨M_4, hM_4⟩ : ∃ M9, M9 = gSt M_3 k0 5 x4 := ⟨_, rfl⟩
  replace h := h M_4 hM_4
  refine g_puti (ji := 5) hC (lay_rule h0) (gc_k4 hZ) iwX4 tyX4_ok nmX4 5 (by decide) rfl rfl (wc wd_113) rfl rfl dX4_become_18 rfl hM_4 ?_
  exact g_vret hC hR dX4_become_21 h
abbrev wX4_roll : List Cond := Cond.code yX4_roll cX4_roll 3 none :: gTs
abbrev rmX4_roll : Room := { frames := 0, cells := 0, slots := 0, locals := 0 }
theorem kwX4_roll {c0 : Cond} {rm : Room} (h1 : rmX4_roll.frames + 1 ≤ rm.frames) (h2 : 8 + (3 + 11) + rmX4_roll.locals ≤ rm.locals) : gCw (c0 :: gTs) rm yX4_roll cX4_roll 3 none wX4_roll rmX4_roll 2 := gCw_of wd_413 wd_42 h1 h2 (by decide +kernel)
def fX4_roll (k0 : Nat) (x1 : Int) (x2 : Int) (M : gMem) (Q : gMem → Prop) : Prop :=
  (∀ M_1, M_1 = gSt M k0 3 x1 → (∀ M_2, M_2 = gSt M_1 k0 4 x2 → Q M_2))
set_option maxHeartbeats 4000000 in
set_option maxRecDepth 100000 in
theorem ctX4_roll {l : Launch} {z : gZ} (hZ : gZc z) {k0 : Nat} {x1 : Int} {x2 : Int} (h0 : 7 ≤ k0 ∧ k0 < 13) {M : gMem} {Q : gMem → Prop} (h : fX4_roll k0 x1 x2 M Q) : gMV l z cL yX4_roll wX4_roll rmX4_roll [(vr z k0), (vi x1), (vi x2)] M Q := by
  refine g_metV (by decide) rfl rfl (gCat_all (And.intro rfl (And.intro rfl (And.intro rfl trivial)))) (Nat.le_of_ble_eq_true rfl) ?_
  intro y hC hR
  replace h : (∀ M_1, M_1 = gSt M k0 3 x1 → (∀ M_2, M_2 = gSt M_1 k0 4 x2 → Q M_2)) := h
  refine g_lc (lc' := [some (vr z k0), some (vi x1), some (vi x2)]) rfl ?_
  refine g_aload_n hC dX4_roll_0 rfl rfl ?_
  refine g_iload_n hC dX4_roll_1 rfl rfl ?_
  obtain ⟨M_1, hM_1⟩ : ∃ M9, M9 = gSt M k0 3 x1 := ⟨_, rfl⟩
  replace h := h M_1 hM_1
  refine g_puti (ji := 3) hC (lay_rule h0) (gc_k4 hZ) iwX4 tyX4_ok nmX4 3 (by decide) rfl rfl (wc wd_110) rfl rfl dX4_roll_2 rfl hM_1 ?_
  refine g_aload_n hC dX4_roll_5 rfl rfl ?_
  refine g_iload_n hC dX4_roll_6 rfl rfl ?_
  obtain ⟨M_2, hM_2⟩ : ∃ M9, M9 = gSt M_1 k0 4 x2 := ⟨_, rfl⟩
  replace h := h M_2 hM_2
  refine g_puti (ji := 4) hC (lay_rule h0) (gc_k4 hZ) iwX4 tyX4_ok nmX4 4 (by decide) rfl rfl (wc wd_112) rfl rfl dX4_roll_7 rfl hM_2 ?_
  exact g_vret hC hR dX4_roll_10 h
abbrev wX5_printOf : List Cond := Cond.code yX5_printOf cX5_printOf 5 (some .int) :: gTs
abbrev rmX5_printOf : Room := { frames := 0, cells := 0, slots := 0, locals := 0 }
theorem kwX5_printOf {c0 : Cond} {rm : Room} (h1 : rmX5_printOf.frames + 1 ≤ rm.frames) (h2 : 8 + (5 + 11) + rmX5_printOf.locals ≤ rm.locals) : gCw (c0 :: gTs) rm yX5_printOf cX5_printOf 5 (some .int) wX5_printOf rmX5_printOf 2 := gCw_of wd_554 wd_45 h1 h2 (by decide +kernel)
def fX5_printOf_L5  (x1 : Int) (x2 : Int) (M : gMem) : Nat → Int → Int → (Int → Prop) → (Int → Prop) → Prop
  | 0, _, _, _, _ => False
  | n5 + 1, x3, x4, K41, Q =>
    (rg x4 ∧ rg x2 ∧ (x4 < x2 →
    ((0 ≤ (x1 + x4) ∧ (x1 + x4) < 4800) ∧ fX5_printOf_L5 x1 x2 M n5 (x3 + ((band (Int.bmod (M 2 (x1 + x4)) 256) 255) * (x4 + 1))) (x4 + 1) K41 Q)) ∧
    (¬ x4 < x2 →
    K41 x3))
set_option maxHeartbeats 4000000 in
set_option maxRecDepth 100000 in
theorem ctX5_printOf_L5 {y : gY} {z : gZ} {l : Launch} {x1 : Int} {x2 : Int} {M : gMem} {Q : Int → Prop} {K41 : Int → Prop} (hC : gC y z l cX5_printOf RX5 5 wX5_printOf rmX5_printOf) (hR : gRI y z cL .int (fun r M' => M = M' ∧ Q r)) (hZ : gZc z)  (hK41 : ∀ (x3 : Int), K41 x3 → gW y z cL 41 [none, none, none, some (vi x3), none] [] M) :
    ∀ (n : Nat) (x3 : Int) (x4 : Int), fX5_printOf_L5 x1 x2 M n x3 x4 K41 Q → gW y z cL 5 [some (vr z 22), some (vi x1), some (vi x2), some (vi x3), some (vi x4)] [] M := by
  intro n
  induction n with
  | zero => intro x3 x4 h; exact False.elim h
  | succ n5 ih =>
    intro x3 x4 h
    replace h : (rg x4 ∧ rg x2 ∧ (x4 < x2 →
    ((0 ≤ (x1 + x4) ∧ (x1 + x4) < 4800) ∧ fX5_printOf_L5 x1 x2 M n5 (x3 + ((band (Int.bmod (M 2 (x1 + x4)) 256) 255) * (x4 + 1))) (x4 + 1) K41 Q)) ∧
    (¬ x4 < x2 →
    K41 x3)) := h
    refine g_iload hC dX5_printOf_5 rfl ?_
    refine g_iload_n hC dX5_printOf_7 rfl rfl ?_
    obtain ⟨hr_1, hr_2, hA, hB⟩ := h
    refine g_cge hC 41 hr_1 hr_2 dX5_printOf_8 (by decide) (fun hc_3 => ?_) (fun hc_3 => ?_)
    · replace h := hA hc_3
      clear hA hB
      refine g_iload_n hC dX5_printOf_11 rfl rfl ?_
      refine g_aload_n hC dX5_printOf_12 rfl rfl ?_
      refine g_getr (r := 1) hC rfl (gc_k5 hZ) iwX5 0 (by decide) rfl rfl (wc wd_185) dX5_printOf_13 ?_
      refine g_getr (r := 2) hC rfl (gc_k2 hZ) iwX2 0 (by decide) rfl rfl (wc wd_68) dX5_printOf_16 ?_
      refine g_iload_n hC dX5_printOf_19 rfl rfl ?_
      refine g_iload hC dX5_printOf_20 rfl ?_
      refine g_iadd hC dX5_printOf_22 ?_
      obtain ⟨hb_4, h⟩ := h
      refine g_bald hC 1 rfl (c_t1 hZ) (by decide) hb_4 dX5_printOf_23 ?_
      refine g_sipush hC dX5_printOf_24 (by decide) ?_
      refine g_iand hC dX5_printOf_27 ?_
      refine g_iload hC dX5_printOf_28 rfl ?_
      refine g_iconst hC dX5_printOf_30 ?_
      refine g_iadd hC dX5_printOf_31 ?_
      refine g_imul hC dX5_printOf_32 ?_
      refine g_iadd hC dX5_printOf_33 ?_
      refine g_istore_n2 (lc' := [some (vr z 22), some (vi x1), some (vi x2), some (vi (x3 + ((band (Int.bmod (M 2 (x1 + x4)) 256) 255) * (x4 + 1)))), some (vi x4)]) hC dX5_printOf_34 rfl (Nat.le_of_ble_eq_true rfl) rfl ?_
      refine g_iinc2 (lc' := [some (vr z 22), some (vi x1), some (vi x2), some (vi (x3 + ((band (Int.bmod (M 2 (x1 + x4)) 256) 255) * (x4 + 1)))), some (vi (x4 + 1))]) hC dX5_printOf_35 rfl rfl ?_
      refine g_goto hC 5 dX5_printOf_38 (by decide) ?_
      exact g_subk (ih (x3 + ((band (Int.bmod (M 2 (x1 + x4)) 256) 255) * (x4 + 1))) (x4 + 1) h) (And.intro rfl (And.intro rfl (And.intro rfl (And.intro rfl (And.intro rfl trivial)))))
    · replace h := hB hc_3
      clear hA hB
      exact g_subk (hK41 x3 h) (And.intro rfl trivial)
def fX5_printOf (x1 : Int) (x2 : Int) (M : gMem) (Q : Int → Prop) : Prop :=
  ∃ n_6, fX5_printOf_L5 x1 x2 M n_6 0 0 (fun x3_5 =>
  Q (band x3_5 255)) Q
set_option maxHeartbeats 4000000 in
set_option maxRecDepth 100000 in
theorem ctX5_printOf {l : Launch} {z : gZ} (hZ : gZc z) {x1 : Int} {x2 : Int}  {M : gMem} {Q : Int → Prop} (h : fX5_printOf x1 x2 M Q) : gMI l z cL yX5_printOf wX5_printOf rmX5_printOf [(vr z 22), (vi x1), (vi x2)] M (fun r M' => M = M' ∧ Q r) := by
  refine g_metI .int (by decide) rfl rfl (gCat_all (And.intro rfl (And.intro rfl (And.intro rfl trivial)))) (Nat.le_of_ble_eq_true rfl) ?_
  intro y hC hR
  replace h : ∃ n_6, fX5_printOf_L5 x1 x2 M n_6 0 0 (fun x3_5 =>
  Q (band x3_5 255)) Q := h
  refine g_lc (lc' := [some (vr z 22), some (vi x1), some (vi x2), none, none]) rfl ?_
  refine g_iconst hC dX5_printOf_0 ?_
  refine g_istore_n2 (lc' := [some (vr z 22), some (vi x1), some (vi x2), some (vi 0), none]) hC dX5_printOf_1 rfl (Nat.le_of_ble_eq_true rfl) rfl ?_
  refine g_iconst hC dX5_printOf_2 ?_
  refine g_istore2 (lc' := [some (vr z 22), some (vi x1), some (vi x2), some (vi 0), some (vi 0)]) hC dX5_printOf_3 (Nat.le_of_ble_eq_true rfl) rfl ?_
  obtain ⟨n_6, h⟩ := h
  refine g_subk (ctX5_printOf_L5 hC hR hZ ?_ n_6 0 0 h) (And.intro rfl (And.intro rfl (And.intro rfl (And.intro rfl (And.intro rfl trivial)))))
  intro x3_5 h
  refine g_iload_n hC dX5_printOf_41 rfl rfl ?_
  refine g_sipush hC dX5_printOf_42 (by decide) ?_
  refine g_iand hC dX5_printOf_45 ?_
  exact g_iret hC hR dX5_printOf_46 ⟨rfl, h⟩
abbrev wX5_findAlike : List Cond := Cond.code yX5_findAlike cX5_findAlike 6 (some .int) :: gTs
abbrev rmX5_findAlike : Room := { frames := 1, cells := 0, slots := 0, locals := 25 }
theorem kwX5_findAlike {c0 : Cond} {rm : Room} (h1 : rmX5_findAlike.frames + 1 ≤ rm.frames) (h2 : 8 + (6 + 11) + rmX5_findAlike.locals ≤ rm.locals) : gCw (c0 :: gTs) rm yX5_findAlike cX5_findAlike 6 (some .int) wX5_findAlike rmX5_findAlike 3 := gCw_of wd_558 wd_45 h1 h2 (by decide +kernel)
def fX5_findAlike_L6  (x1 : Int) (x2 : Int) (x3 : Int) : Nat → Int → Int → gMem → (Int → gMem → Prop) → Prop
  | 0, _, _, _, _ => False
  | n6 + 1, x4, x5, M, Q =>
    (rg x5 ∧ (300 < x5 →
    Q (-1) M) ∧
    (¬ 300 < x5 →
    (rg x4 ∧ rg (M 22 9) ∧ (x4 < (M 22 9) →
      ((0 ≤ x5 ∧ x5 < 301) ∧ (rg (M 27 x5) ∧ (0 < (M 27 x5) →
        ((0 ≤ x5 ∧ x5 < 301) ∧ (rg (M 26 x5) ∧ rg x1 ∧ ((M 26 x5) = x1 →
          ((0 ≤ x5 ∧ x5 < 301) ∧ (rg (M 25 x5) ∧ rg x3 ∧ ((M 25 x5) = x3 →
            ((0 ≤ x5 ∧ x5 < 301) ∧ (fX8_areAlike 23 5400 (M 24 x5) 2 4800 x2 x3 M (fun r_18 =>
              (rg r_18 ∧ (r_18 = 0 →
              (∀ M_22, M_22 = gSt M 22 11 ((M 22 11) + 1) → fX5_findAlike_L6 x1 x2 x3 n6 (x4 + 1) (x5 + 1) M_22 Q)) ∧
              (¬ r_18 = 0 →
              Q x5 M)))))) ∧
            (¬ (M 25 x5) = x3 →
            fX5_findAlike_L6 x1 x2 x3 n6 (x4 + 1) (x5 + 1) M Q)))) ∧
          (¬ (M 26 x5) = x1 →
          fX5_findAlike_L6 x1 x2 x3 n6 (x4 + 1) (x5 + 1) M Q)))) ∧
        (¬ 0 < (M 27 x5) →
        fX5_findAlike_L6 x1 x2 x3 n6 x4 (x5 + 1) M Q)))) ∧
      (¬ x4 < (M 22 9) →
      Q (-1) M))))
set_option maxHeartbeats 4000000 in
set_option maxRecDepth 100000 in
theorem ctX5_findAlike_L6 {y : gY} {z : gZ} {l : Launch} {x1 : Int} {x2 : Int} {x3 : Int} {Q : Int → gMem → Prop}  (hC : gC y z l cX5_findAlike RX5 6 wX5_findAlike rmX5_findAlike) (hR : gRI y z cL .int Q) (hZ : gZc z)  :
    ∀ (n : Nat) (x4 : Int) (x5 : Int) (M : gMem), fX5_findAlike_L6 x1 x2 x3 n x4 x5 M Q → gW y z cL 6 [some (vr z 22), some (vi x1), some (vi x2), some (vi x3), some (vi x4), some (vi x5)] [] M := by
  intro n
  induction n with
  | zero => intro x4 x5 M h; exact False.elim h
  | succ n6 ih =>
    intro x4 x5 M h
    replace h : (rg x5 ∧ (300 < x5 →
    Q (-1) M) ∧
    (¬ 300 < x5 →
    (rg x4 ∧ rg (M 22 9) ∧ (x4 < (M 22 9) →
      ((0 ≤ x5 ∧ x5 < 301) ∧ (rg (M 27 x5) ∧ (0 < (M 27 x5) →
        ((0 ≤ x5 ∧ x5 < 301) ∧ (rg (M 26 x5) ∧ rg x1 ∧ ((M 26 x5) = x1 →
          ((0 ≤ x5 ∧ x5 < 301) ∧ (rg (M 25 x5) ∧ rg x3 ∧ ((M 25 x5) = x3 →
            ((0 ≤ x5 ∧ x5 < 301) ∧ (fX8_areAlike 23 5400 (M 24 x5) 2 4800 x2 x3 M (fun r_18 =>
              (rg r_18 ∧ (r_18 = 0 →
              (∀ M_22, M_22 = gSt M 22 11 ((M 22 11) + 1) → fX5_findAlike_L6 x1 x2 x3 n6 (x4 + 1) (x5 + 1) M_22 Q)) ∧
              (¬ r_18 = 0 →
              Q x5 M)))))) ∧
            (¬ (M 25 x5) = x3 →
            fX5_findAlike_L6 x1 x2 x3 n6 (x4 + 1) (x5 + 1) M Q)))) ∧
          (¬ (M 26 x5) = x1 →
          fX5_findAlike_L6 x1 x2 x3 n6 (x4 + 1) (x5 + 1) M Q)))) ∧
        (¬ 0 < (M 27 x5) →
        fX5_findAlike_L6 x1 x2 x3 n6 x4 (x5 + 1) M Q)))) ∧
      (¬ x4 < (M 22 9) →
      Q (-1) M)))) := h
    refine g_iload hC dX5_findAlike_6 rfl ?_
    refine g_sipush hC dX5_findAlike_8 (by decide) ?_
    obtain ⟨hr_1, hA, hB⟩ := h
    refine g_cgt hC 103 hr_1 (by decide) dX5_findAlike_11 (by decide) (fun hc_2 => ?_) (fun hc_2 => ?_)
    · replace h := hA hc_2
      clear hA hB
      refine g_iconst hC dX5_findAlike_103 ?_
      exact g_iret hC hR dX5_findAlike_104 h
    · replace h := hB hc_2
      clear hA hB
      refine g_iload hC dX5_findAlike_14 rfl ?_
      refine g_aload_n hC dX5_findAlike_16 rfl rfl ?_
      refine g_geti (ji := 9) hC rfl (gc_k5 hZ) iwX5 9 (by decide) rfl rfl (wc wd_199) dX5_findAlike_17 rfl ?_
      obtain ⟨hr_3, hr_4, hA, hB⟩ := h
      refine g_cge hC 103 hr_3 hr_4 dX5_findAlike_20 (by decide) (fun hc_5 => ?_) (fun hc_5 => ?_)
      · replace h := hA hc_5
        clear hA hB
        refine g_aload_n hC dX5_findAlike_23 rfl rfl ?_
        refine g_getr (r := 27) hC rfl (gc_k5 hZ) iwX5 5 (by decide) rfl rfl (wc wd_192) dX5_findAlike_24 ?_
        refine g_iload hC dX5_findAlike_27 rfl ?_
        obtain ⟨hb_6, h⟩ := h
        refine g_iald hC 0 rfl (c_t0 hZ) (by decide) hb_6 dX5_findAlike_29 ?_
        obtain ⟨hr_7, hA, hB⟩ := h
        refine g_ile hC 97 hr_7 dX5_findAlike_30 (by decide) (fun hc_8 => ?_) (fun hc_8 => ?_)
        · replace h := hA hc_8
          clear hA hB
          refine g_iinc2 (lc' := [some (vr z 22), some (vi x1), some (vi x2), some (vi x3), some (vi (x4 + 1)), some (vi x5)]) hC dX5_findAlike_33 rfl rfl ?_
          refine g_aload_n hC dX5_findAlike_36 rfl rfl ?_
          refine g_getr (r := 26) hC rfl (gc_k5 hZ) iwX5 4 (by decide) rfl rfl (wc wd_190) dX5_findAlike_37 ?_
          refine g_iload hC dX5_findAlike_40 rfl ?_
          obtain ⟨hb_9, h⟩ := h
          refine g_iald hC 0 rfl (c_t0 hZ) (by decide) hb_9 dX5_findAlike_42 ?_
          refine g_iload_n hC dX5_findAlike_43 rfl rfl ?_
          obtain ⟨hr_10, hr_11, hA, hB⟩ := h
          refine g_cne hC 97 hr_10 hr_11 dX5_findAlike_44 (by decide) (fun hc_12 => ?_) (fun hc_12 => ?_)
          · replace h := hA hc_12
            clear hA hB
            refine g_aload_n hC dX5_findAlike_47 rfl rfl ?_
            refine g_getr (r := 25) hC rfl (gc_k5 hZ) iwX5 3 (by decide) rfl rfl (wc wd_188) dX5_findAlike_48 ?_
            refine g_iload hC dX5_findAlike_51 rfl ?_
            obtain ⟨hb_13, h⟩ := h
            refine g_iald hC 0 rfl (c_t0 hZ) (by decide) hb_13 dX5_findAlike_53 ?_
            refine g_iload_n hC dX5_findAlike_54 rfl rfl ?_
            obtain ⟨hr_14, hr_15, hA, hB⟩ := h
            refine g_cne hC 97 hr_14 hr_15 dX5_findAlike_55 (by decide) (fun hc_16 => ?_) (fun hc_16 => ?_)
            · replace h := hA hc_16
              clear hA hB
              refine g_aload_n hC dX5_findAlike_58 rfl rfl ?_
              refine g_getr (r := 23) hC rfl (gc_k5 hZ) iwX5 1 (by decide) rfl rfl (wc wd_186) dX5_findAlike_59 ?_
              refine g_aload_n hC dX5_findAlike_62 rfl rfl ?_
              refine g_getr (r := 24) hC rfl (gc_k5 hZ) iwX5 2 (by decide) rfl rfl (wc wd_187) dX5_findAlike_63 ?_
              refine g_iload hC dX5_findAlike_66 rfl ?_
              obtain ⟨hb_17, h⟩ := h
              refine g_iald hC 0 rfl (c_t0 hZ) (by decide) hb_17 dX5_findAlike_68 ?_
              refine g_aload_n hC dX5_findAlike_69 rfl rfl ?_
              refine g_getr (r := 1) hC rfl (gc_k5 hZ) iwX5 0 (by decide) rfl rfl (wc wd_185) dX5_findAlike_70 ?_
              refine g_getr (r := 2) hC rfl (gc_k2 hZ) iwX2 0 (by decide) rfl rfl (wc wd_68) dX5_findAlike_73 ?_
              refine g_iload_n hC dX5_findAlike_76 rfl rfl ?_
              refine g_iload_n hC dX5_findAlike_77 rfl rfl ?_
              refine g_calli (g_runSN (As := [(vr z 23), (vi (M 24 x5)), (vr z 2), (vi x2), (vi x3)]) (rest := []) (host := "CutStore") hC rfl (ctX8_areAlike hZ rfl (by decide) rfl (by decide) h) (kwX8_areAlike (by decide) (by decide)) (gc_ns559 hZ) (wc wd_491) rfl (Nat.le_of_ble_eq_true rfl) rfl dX5_findAlike_78) (fun r_18 M_19 h => ?_)
              obtain ⟨rfl, h⟩ := h
              obtain ⟨hr_20, hA, hB⟩ := h
              refine g_ieq hC 87 hr_20 dX5_findAlike_81 (by decide) (fun hc_21 => ?_) (fun hc_21 => ?_)
              · replace h := hA hc_21
                clear hA hB
                refine g_aload_n hC dX5_findAlike_87 rfl rfl ?_
                refine g_dup hC dX5_findAlike_88 rfl ?_
                refine g_geti (ji := 11) hC rfl (gc_k5 hZ) iwX5 11 (by decide) rfl rfl (wc wd_203) dX5_findAlike_89 rfl ?_
                refine g_iconst hC dX5_findAlike_92 ?_
                refine g_iadd hC dX5_findAlike_93 ?_
                obtain ⟨M_22, hM_22⟩ : ∃ M9, M9 = gSt M 22 11 ((M 22 11) + 1) := ⟨_, rfl⟩
                replace h := h M_22 hM_22
                refine g_puti (ji := 11) hC rfl (gc_k5 hZ) iwX5 tyX5_ok nmX5 11 (by decide) rfl rfl (wc wd_203) rfl rfl dX5_findAlike_94 rfl hM_22 ?_
                refine g_iinc2 (lc' := [some (vr z 22), some (vi x1), some (vi x2), some (vi x3), some (vi (x4 + 1)), some (vi (x5 + 1))]) hC dX5_findAlike_97 rfl rfl ?_
                refine g_goto hC 6 dX5_findAlike_100 (by decide) ?_
                exact g_subk (ih (x4 + 1) (x5 + 1) M_22 h) (And.intro rfl (And.intro rfl (And.intro rfl (And.intro rfl (And.intro rfl (And.intro rfl trivial))))))
              · replace h := hB hc_21
                clear hA hB
                refine g_iload hC dX5_findAlike_84 rfl ?_
                exact g_iret hC hR dX5_findAlike_86 h
            · replace h := hB hc_16
              clear hA hB
              refine g_iinc2 (lc' := [some (vr z 22), some (vi x1), some (vi x2), some (vi x3), some (vi (x4 + 1)), some (vi (x5 + 1))]) hC dX5_findAlike_97 rfl rfl ?_
              refine g_goto hC 6 dX5_findAlike_100 (by decide) ?_
              exact g_subk (ih (x4 + 1) (x5 + 1) M h) (And.intro rfl (And.intro rfl (And.intro rfl (And.intro rfl (And.intro rfl (And.intro rfl trivial))))))
          · replace h := hB hc_12
            clear hA hB
            refine g_iinc2 (lc' := [some (vr z 22), some (vi x1), some (vi x2), some (vi x3), some (vi (x4 + 1)), some (vi (x5 + 1))]) hC dX5_findAlike_97 rfl rfl ?_
            refine g_goto hC 6 dX5_findAlike_100 (by decide) ?_
            exact g_subk (ih (x4 + 1) (x5 + 1) M h) (And.intro rfl (And.intro rfl (And.intro rfl (And.intro rfl (And.intro rfl (And.intro rfl trivial))))))
        · replace h := hB hc_8
          clear hA hB
          refine g_iinc2 (lc' := [some (vr z 22), some (vi x1), some (vi x2), some (vi x3), some (vi x4), some (vi (x5 + 1))]) hC dX5_findAlike_97 rfl rfl ?_
          refine g_goto hC 6 dX5_findAlike_100 (by decide) ?_
          exact g_subk (ih x4 (x5 + 1) M h) (And.intro rfl (And.intro rfl (And.intro rfl (And.intro rfl (And.intro rfl (And.intro rfl trivial))))))
      · replace h := hB hc_5
        clear hA hB
        refine g_iconst hC dX5_findAlike_103 ?_
        exact g_iret hC hR dX5_findAlike_104 h
def fX5_findAlike (x1 : Int) (x2 : Int) (x3 : Int) (M : gMem) (Q : Int → gMem → Prop) : Prop :=
  ∃ n_23, fX5_findAlike_L6 x1 x2 x3 n_23 0 1 M Q
set_option maxHeartbeats 4000000 in
set_option maxRecDepth 100000 in
theorem ctX5_findAlike {l : Launch} {z : gZ} (hZ : gZc z) {x1 : Int} {x2 : Int} {x3 : Int}  {M : gMem} {Q : Int → gMem → Prop} (h : fX5_findAlike x1 x2 x3 M Q) : gMI l z cL yX5_findAlike wX5_findAlike rmX5_findAlike [(vr z 22), (vi x1), (vi x2), (vi x3)] M Q := by
  refine g_metI .int (by decide) rfl rfl (gCat_all (And.intro rfl (And.intro rfl (And.intro rfl (And.intro rfl trivial))))) (Nat.le_of_ble_eq_true rfl) ?_
  intro y hC hR
  replace h : ∃ n_23, fX5_findAlike_L6 x1 x2 x3 n_23 0 1 M Q := h
  refine g_lc (lc' := [some (vr z 22), some (vi x1), some (vi x2), some (vi x3), none, none]) rfl ?_
  refine g_iconst hC dX5_findAlike_0 ?_
  refine g_istore2 (lc' := [some (vr z 22), some (vi x1), some (vi x2), some (vi x3), some (vi 0), none]) hC dX5_findAlike_1 (Nat.le_of_ble_eq_true rfl) rfl ?_
  refine g_iconst hC dX5_findAlike_3 ?_
  refine g_istore2 (lc' := [some (vr z 22), some (vi x1), some (vi x2), some (vi x3), some (vi 0), some (vi 1)]) hC dX5_findAlike_4 (Nat.le_of_ble_eq_true rfl) rfl ?_
  obtain ⟨n_23, h⟩ := h
  refine g_subk (ctX5_findAlike_L6 hC hR hZ  n_23 0 1 M h) (And.intro rfl (And.intro rfl (And.intro rfl (And.intro rfl (And.intro rfl (And.intro rfl trivial))))))
abbrev wX5_leastFree : List Cond := Cond.code yX5_leastFree cX5_leastFree 2 (some .int) :: gTs
abbrev rmX5_leastFree : Room := { frames := 0, cells := 0, slots := 0, locals := 0 }
theorem kwX5_leastFree {c0 : Cond} {rm : Room} (h1 : rmX5_leastFree.frames + 1 ≤ rm.frames) (h2 : 8 + (2 + 11) + rmX5_leastFree.locals ≤ rm.locals) : gCw (c0 :: gTs) rm yX5_leastFree cX5_leastFree 2 (some .int) wX5_leastFree rmX5_leastFree 0 := gCw_of wd_563 wd_45 h1 h2 (by decide +kernel)
def fX5_leastFree_L2  (M : gMem) : Nat → Int → (Int → Prop) → Prop
  | 0, _, _ => False
  | n2 + 1, x1, Q =>
    (rg x1 ∧ (300 < x1 →
    Q (-1)) ∧
    (¬ 300 < x1 →
    ((0 ≤ x1 ∧ x1 < 301) ∧ (rg (M 27 x1) ∧ ((M 27 x1) = 0 →
      Q x1) ∧
      (¬ (M 27 x1) = 0 →
      fX5_leastFree_L2 M n2 (x1 + 1) Q)))))
set_option maxHeartbeats 4000000 in
set_option maxRecDepth 100000 in
theorem ctX5_leastFree_L2 {y : gY} {z : gZ} {l : Launch}  {M : gMem} {Q : Int → Prop}  (hC : gC y z l cX5_leastFree RX5 2 wX5_leastFree rmX5_leastFree) (hR : gRI y z cL .int (fun r M' => M = M' ∧ Q r)) (hZ : gZc z)  :
    ∀ (n : Nat) (x1 : Int), fX5_leastFree_L2 M n x1 Q → gW y z cL 2 [some (vr z 22), some (vi x1)] [] M := by
  intro n
  induction n with
  | zero => intro x1 h; exact False.elim h
  | succ n2 ih =>
    intro x1 h
    replace h : (rg x1 ∧ (300 < x1 →
    Q (-1)) ∧
    (¬ 300 < x1 →
    ((0 ≤ x1 ∧ x1 < 301) ∧ (rg (M 27 x1) ∧ ((M 27 x1) = 0 →
      Q x1) ∧
      (¬ (M 27 x1) = 0 →
      fX5_leastFree_L2 M n2 (x1 + 1) Q))))) := h
    refine g_iload_n hC dX5_leastFree_2 rfl rfl ?_
    refine g_sipush hC dX5_leastFree_3 (by decide) ?_
    obtain ⟨hr_1, hA, hB⟩ := h
    refine g_cgt hC 26 hr_1 (by decide) dX5_leastFree_6 (by decide) (fun hc_2 => ?_) (fun hc_2 => ?_)
    · replace h := hA hc_2
      clear hA hB
      refine g_iconst hC dX5_leastFree_26 ?_
      exact g_iret hC hR dX5_leastFree_27 ⟨rfl, h⟩
    · replace h := hB hc_2
      clear hA hB
      refine g_aload_n hC dX5_leastFree_9 rfl rfl ?_
      refine g_getr (r := 27) hC rfl (gc_k5 hZ) iwX5 5 (by decide) rfl rfl (wc wd_192) dX5_leastFree_10 ?_
      refine g_iload_n hC dX5_leastFree_13 rfl rfl ?_
      obtain ⟨hb_3, h⟩ := h
      refine g_iald hC 0 rfl (c_t0 hZ) (by decide) hb_3 dX5_leastFree_14 ?_
      obtain ⟨hr_4, hA, hB⟩ := h
      refine g_ine hC 20 hr_4 dX5_leastFree_15 (by decide) (fun hc_5 => ?_) (fun hc_5 => ?_)
      · replace h := hA hc_5
        clear hA hB
        refine g_iload_n hC dX5_leastFree_18 rfl rfl ?_
        exact g_iret hC hR dX5_leastFree_19 ⟨rfl, h⟩
      · replace h := hB hc_5
        clear hA hB
        refine g_iinc2 (lc' := [some (vr z 22), some (vi (x1 + 1))]) hC dX5_leastFree_20 rfl rfl ?_
        refine g_goto hC 2 dX5_leastFree_23 (by decide) ?_
        exact g_subk (ih (x1 + 1) h) (And.intro rfl (And.intro rfl trivial))
def fX5_leastFree  (M : gMem) (Q : Int → Prop) : Prop :=
  ∃ n_6, fX5_leastFree_L2 M n_6 1 Q
set_option maxHeartbeats 4000000 in
set_option maxRecDepth 100000 in
theorem ctX5_leastFree {l : Launch} {z : gZ} (hZ : gZc z)   {M : gMem} {Q : Int → Prop} (h : fX5_leastFree  M Q) : gMI l z cL yX5_leastFree wX5_leastFree rmX5_leastFree [(vr z 22)] M (fun r M' => M = M' ∧ Q r) := by
  refine g_metI .int (by decide) rfl rfl (gCat_all (And.intro rfl trivial)) (Nat.le_of_ble_eq_true rfl) ?_
  intro y hC hR
  replace h : ∃ n_6, fX5_leastFree_L2 M n_6 1 Q := h
  refine g_lc (lc' := [some (vr z 22), none]) rfl ?_
  refine g_iconst hC dX5_leastFree_0 ?_
  refine g_istore_n2 (lc' := [some (vr z 22), some (vi 1)]) hC dX5_leastFree_1 rfl (Nat.le_of_ble_eq_true rfl) rfl ?_
  obtain ⟨n_6, h⟩ := h
  refine g_subk (ctX5_leastFree_L2 hC hR hZ  n_6 1 h) (And.intro rfl (And.intro rfl trivial))
abbrev wX5_addPiece : List Cond := Cond.code yX5_addPiece cX5_addPiece 5 none :: gTs
abbrev rmX5_addPiece : Room := { frames := 1, cells := 0, slots := 0, locals := 26 }
theorem kwX5_addPiece {c0 : Cond} {rm : Room} (h1 : rmX5_addPiece.frames + 1 ≤ rm.frames) (h2 : 8 + (5 + 11) + rmX5_addPiece.locals ≤ rm.locals) : gCw (c0 :: gTs) rm yX5_addPiece cX5_addPiece 5 none wX5_addPiece rmX5_addPiece 4 := gCw_of wd_567 wd_45 h1 h2 (by decide +kernel)
def fX5_addPiece (x1 : Int) (x2 : Int) (x3 : Int) (x4 : Int) (M : gMem) (Q : gMem → Prop) : Prop :=
  (0 ≤ x3 ∧ 0 ≤ (M 22 10) ∧ 0 ≤ x4 ∧ x3 + x4 ≤ 4800 ∧ (M 22 10) + x4 ≤ 5400 ∧ ∀ M_1, M_1 = gCp M 2 23 x3 (M 22 10) x4 → ((0 ≤ x1 ∧ x1 < 301) ∧ ∀ M_8, M_8 = gSt M_1 24 x1 (M_1 22 10) → ((0 ≤ x1 ∧ x1 < 301) ∧ ∀ M_10, M_10 = gSt M_8 25 x1 x4 → ((0 ≤ x1 ∧ x1 < 301) ∧ ∀ M_12, M_12 = gSt M_10 26 x1 x2 → (∀ M_13, M_13 = gSt M_12 22 10 ((M_12 22 10) + x4) → (∀ M_14, M_14 = gSt M_13 22 9 ((M_13 22 9) + 1) → Q M_14))))))
set_option maxHeartbeats 4000000 in
set_option maxRecDepth 100000 in
theorem ctX5_addPiece {l : Launch} {z : gZ} (hZ : gZc z) {x1 : Int} {x2 : Int} {x3 : Int} {x4 : Int}  {M : gMem} {Q : gMem → Prop} (h : fX5_addPiece x1 x2 x3 x4 M Q) : gMV l z cL yX5_addPiece wX5_addPiece rmX5_addPiece [(vr z 22), (vi x1), (vi x2), (vi x3), (vi x4)] M Q := by
  refine g_metV (by decide) rfl rfl (gCat_all (And.intro rfl (And.intro rfl (And.intro rfl (And.intro rfl (And.intro rfl trivial)))))) (Nat.le_of_ble_eq_true rfl) ?_
  intro y hC hR
  replace h : (0 ≤ x3 ∧ 0 ≤ (M 22 10) ∧ 0 ≤ x4 ∧ x3 + x4 ≤ 4800 ∧ (M 22 10) + x4 ≤ 5400 ∧ ∀ M_1, M_1 = gCp M 2 23 x3 (M 22 10) x4 → ((0 ≤ x1 ∧ x1 < 301) ∧ ∀ M_8, M_8 = gSt M_1 24 x1 (M_1 22 10) → ((0 ≤ x1 ∧ x1 < 301) ∧ ∀ M_10, M_10 = gSt M_8 25 x1 x4 → ((0 ≤ x1 ∧ x1 < 301) ∧ ∀ M_12, M_12 = gSt M_10 26 x1 x2 → (∀ M_13, M_13 = gSt M_12 22 10 ((M_12 22 10) + x4) → (∀ M_14, M_14 = gSt M_13 22 9 ((M_13 22 9) + 1) → Q M_14)))))) := h
  refine g_lc (lc' := [some (vr z 22), some (vi x1), some (vi x2), some (vi x3), some (vi x4)]) rfl ?_
  refine g_aload_n hC dX5_addPiece_0 rfl rfl ?_
  refine g_getr (r := 1) hC rfl (gc_k5 hZ) iwX5 0 (by decide) rfl rfl (wc wd_185) dX5_addPiece_1 ?_
  refine g_getr (r := 2) hC rfl (gc_k2 hZ) iwX2 0 (by decide) rfl rfl (wc wd_68) dX5_addPiece_4 ?_
  refine g_iload_n hC dX5_addPiece_7 rfl rfl ?_
  refine g_aload_n hC dX5_addPiece_8 rfl rfl ?_
  refine g_getr (r := 23) hC rfl (gc_k5 hZ) iwX5 1 (by decide) rfl rfl (wc wd_186) dX5_addPiece_9 ?_
  refine g_aload_n hC dX5_addPiece_12 rfl rfl ?_
  refine g_geti (ji := 10) hC rfl (gc_k5 hZ) iwX5 10 (by decide) rfl rfl (wc wd_201) dX5_addPiece_13 rfl ?_
  refine g_iload hC dX5_addPiece_16 rfl ?_
  obtain ⟨ha_2, ha_3, ha_4, ha_5, ha_6, h⟩ := h
  obtain ⟨M_1, hM_1⟩ : ∃ M9, M9 = gCp M 2 23 x3 (M 22 10) x4 := ⟨_, rfl⟩
  replace h := h M_1 hM_1
  refine g_acopy hC rfl 1 (Or.inr ⟨rfl, rfl⟩) rfl rfl (c_t1 hZ) (by decide) (by decide) ha_2 ha_3 ha_4 ha_5 ha_6 (wc wd_568) (wc wd_362) (wc wd_361) (wc wd_50) (by decide) (Nat.le_of_ble_eq_true rfl) dX5_addPiece_18 hM_1 ?_
  refine g_aload_n hC dX5_addPiece_21 rfl rfl ?_
  refine g_getr (r := 24) hC rfl (gc_k5 hZ) iwX5 2 (by decide) rfl rfl (wc wd_187) dX5_addPiece_22 ?_
  refine g_iload_n hC dX5_addPiece_25 rfl rfl ?_
  refine g_aload_n hC dX5_addPiece_26 rfl rfl ?_
  refine g_geti (ji := 10) hC rfl (gc_k5 hZ) iwX5 10 (by decide) rfl rfl (wc wd_201) dX5_addPiece_27 rfl ?_
  obtain ⟨hb_7, h⟩ := h
  obtain ⟨M_8, hM_8⟩ : ∃ M9, M9 = gSt M_1 24 x1 (M_1 22 10) := ⟨_, rfl⟩
  replace h := h M_8 hM_8
  refine g_iast hC 0 rfl (c_t0 hZ) (by decide) hb_7 dX5_addPiece_30 hM_8 ?_
  refine g_aload_n hC dX5_addPiece_31 rfl rfl ?_
  refine g_getr (r := 25) hC rfl (gc_k5 hZ) iwX5 3 (by decide) rfl rfl (wc wd_188) dX5_addPiece_32 ?_
  refine g_iload_n hC dX5_addPiece_35 rfl rfl ?_
  refine g_iload hC dX5_addPiece_36 rfl ?_
  obtain ⟨hb_9, h⟩ := h
  obtain ⟨M_10, hM_10⟩ : ∃ M9, M9 = gSt M_8 25 x1 x4 := ⟨_, rfl⟩
  replace h := h M_10 hM_10
  refine g_iast hC 0 rfl (c_t0 hZ) (by decide) hb_9 dX5_addPiece_38 hM_10 ?_
  refine g_aload_n hC dX5_addPiece_39 rfl rfl ?_
  refine g_getr (r := 26) hC rfl (gc_k5 hZ) iwX5 4 (by decide) rfl rfl (wc wd_190) dX5_addPiece_40 ?_
  refine g_iload_n hC dX5_addPiece_43 rfl rfl ?_
  refine g_iload_n hC dX5_addPiece_44 rfl rfl ?_
  obtain ⟨hb_11, h⟩ := h
  obtain ⟨M_12, hM_12⟩ : ∃ M9, M9 = gSt M_10 26 x1 x2 := ⟨_, rfl⟩
  replace h := h M_12 hM_12
  refine g_iast hC 0 rfl (c_t0 hZ) (by decide) hb_11 dX5_addPiece_45 hM_12 ?_
  refine g_aload_n hC dX5_addPiece_46 rfl rfl ?_
  refine g_dup hC dX5_addPiece_47 rfl ?_
  refine g_geti (ji := 10) hC rfl (gc_k5 hZ) iwX5 10 (by decide) rfl rfl (wc wd_201) dX5_addPiece_48 rfl ?_
  refine g_iload hC dX5_addPiece_51 rfl ?_
  refine g_iadd hC dX5_addPiece_53 ?_
  obtain ⟨M_13, hM_13⟩ : ∃ M9, M9 = gSt M_12 22 10 ((M_12 22 10) + x4) := ⟨_, rfl⟩
  replace h := h M_13 hM_13
  refine g_puti (ji := 10) hC rfl (gc_k5 hZ) iwX5 tyX5_ok nmX5 10 (by decide) rfl rfl (wc wd_201) rfl rfl dX5_addPiece_54 rfl hM_13 ?_
  refine g_aload_n hC dX5_addPiece_57 rfl rfl ?_
  refine g_dup hC dX5_addPiece_58 rfl ?_
  refine g_geti (ji := 9) hC rfl (gc_k5 hZ) iwX5 9 (by decide) rfl rfl (wc wd_199) dX5_addPiece_59 rfl ?_
  refine g_iconst hC dX5_addPiece_62 ?_
  refine g_iadd hC dX5_addPiece_63 ?_
  obtain ⟨M_14, hM_14⟩ : ∃ M9, M9 = gSt M_13 22 9 ((M_13 22 9) + 1) := ⟨_, rfl⟩
  replace h := h M_14 hM_14
  refine g_puti (ji := 9) hC rfl (gc_k5 hZ) iwX5 tyX5_ok nmX5 9 (by decide) rfl rfl (wc wd_199) rfl rfl dX5_addPiece_64 rfl hM_14 ?_
  exact g_vret hC hR dX5_addPiece_67 h
abbrev wX5_share : List Cond := Cond.code yX5_share cX5_share 5 (some .int) :: gTs
abbrev rmX5_share : Room := { frames := 2, cells := 0, slots := 0, locals := 50 }
theorem kwX5_share {c0 : Cond} {rm : Room} (h1 : rmX5_share.frames + 1 ≤ rm.frames) (h2 : 8 + (5 + 11) + rmX5_share.locals ≤ rm.locals) : gCw (c0 :: gTs) rm yX5_share cX5_share 5 (some .int) wX5_share rmX5_share 2 := gCw_of wd_550 wd_45 h1 h2 (by decide +kernel)
def fX5_share (x1 : Int) (x2 : Int) (M : gMem) (Q : Int → gMem → Prop) : Prop :=
  (fX5_printOf x1 x2 M (fun r_1 =>
  (fX5_findAlike r_1 x1 x2 M (fun r_3 M_4 =>
  (rg r_3 ∧ (r_3 = (-1) →
  (fX5_leastFree M_4 (fun r_7 =>
    (rg r_7 ∧ (r_7 = (-1) →
    Q r_7 M_4) ∧
    (¬ r_7 = (-1) →
    (fX5_addPiece r_7 r_1 x1 x2 M_4 (fun M_11 =>
      Q r_7 M_11))))))) ∧
  (¬ r_3 = (-1) →
  Q r_3 M_4))))))
set_option maxHeartbeats 4000000 in
set_option maxRecDepth 100000 in
theorem ctX5_share {l : Launch} {z : gZ} (hZ : gZc z) {x1 : Int} {x2 : Int}  {M : gMem} {Q : Int → gMem → Prop} (h : fX5_share x1 x2 M Q) : gMI l z cL yX5_share wX5_share rmX5_share [(vr z 22), (vi x1), (vi x2)] M Q := by
  refine g_metI .int (by decide) rfl rfl (gCat_all (And.intro rfl (And.intro rfl (And.intro rfl trivial)))) (Nat.le_of_ble_eq_true rfl) ?_
  intro y hC hR
  replace h : (fX5_printOf x1 x2 M (fun r_1 =>
  (fX5_findAlike r_1 x1 x2 M (fun r_3 M_4 =>
  (rg r_3 ∧ (r_3 = (-1) →
  (fX5_leastFree M_4 (fun r_7 =>
    (rg r_7 ∧ (r_7 = (-1) →
    Q r_7 M_4) ∧
    (¬ r_7 = (-1) →
    (fX5_addPiece r_7 r_1 x1 x2 M_4 (fun M_11 =>
      Q r_7 M_11))))))) ∧
  (¬ r_3 = (-1) →
  Q r_3 M_4)))))) := h
  refine g_lc (lc' := [some (vr z 22), some (vi x1), some (vi x2), none, none]) rfl ?_
  refine g_aload_n hC dX5_share_0 rfl rfl ?_
  refine g_iload_n hC dX5_share_1 rfl rfl ?_
  refine g_iload_n hC dX5_share_2 rfl rfl ?_
  refine g_calli (g_runV (As := [(vi x1), (vi x2)]) (rest := []) hC rfl (ctX5_printOf hZ  h) rfl (gc_k5 hZ) (kwX5_printOf (by decide) (by decide)) rfl (wc wd_551) (wc wd_553) (wc wd_10) rfl (Nat.le_of_ble_eq_true rfl) rfl dX5_share_3) (fun r_1 M_2 h => ?_)
  obtain ⟨rfl, h⟩ := h
  refine g_istore_n2 (lc' := [some (vr z 22), some (vi x1), some (vi x2), some (vi r_1), none]) hC dX5_share_6 rfl (Nat.le_of_ble_eq_true rfl) rfl ?_
  refine g_aload_n hC dX5_share_7 rfl rfl ?_
  refine g_iload_n hC dX5_share_8 rfl rfl ?_
  refine g_iload_n hC dX5_share_9 rfl rfl ?_
  refine g_iload_n hC dX5_share_10 rfl rfl ?_
  refine g_calli (g_runV (As := [(vi r_1), (vi x1), (vi x2)]) (rest := []) hC rfl (ctX5_findAlike hZ  h) rfl (gc_k5 hZ) (kwX5_findAlike (by decide) (by decide)) rfl (wc wd_555) (wc wd_557) (wc wd_11) rfl (Nat.le_of_ble_eq_true rfl) rfl dX5_share_11) (fun r_3 M_4 h => ?_)
  refine g_istore2 (lc' := [some (vr z 22), some (vi x1), some (vi x2), some (vi r_1), some (vi r_3)]) hC dX5_share_14 (Nat.le_of_ble_eq_true rfl) rfl ?_
  refine g_iload hC dX5_share_16 rfl ?_
  refine g_iconst hC dX5_share_18 ?_
  obtain ⟨hr_5, hA, hB⟩ := h
  refine g_cne hC 43 hr_5 (by decide) dX5_share_19 (by decide) (fun hc_6 => ?_) (fun hc_6 => ?_)
  · replace h := hA hc_6
    clear hA hB
    refine g_aload_n hC dX5_share_22 rfl rfl ?_
    refine g_calli (g_runV (As := []) (rest := []) hC rfl (ctX5_leastFree hZ  h) rfl (gc_k5 hZ) (kwX5_leastFree (by decide) (by decide)) rfl (wc wd_560) (wc wd_562) (wc wd_12) rfl (Nat.le_of_ble_eq_true rfl) rfl dX5_share_23) (fun r_7 M_8 h => ?_)
    obtain ⟨rfl, h⟩ := h
    refine g_istore2 (lc' := [some (vr z 22), some (vi x1), some (vi x2), some (vi r_1), some (vi r_7)]) hC dX5_share_26 (Nat.le_of_ble_eq_true rfl) rfl ?_
    refine g_iload hC dX5_share_28 rfl ?_
    refine g_iconst hC dX5_share_30 ?_
    obtain ⟨hr_9, hA, hB⟩ := h
    refine g_ceq hC 43 hr_9 (by decide) dX5_share_31 (by decide) (fun hc_10 => ?_) (fun hc_10 => ?_)
    · replace h := hA hc_10
      clear hA hB
      refine g_iload hC dX5_share_43 rfl ?_
      exact g_iret hC hR dX5_share_45 h
    · replace h := hB hc_10
      clear hA hB
      refine g_aload_n hC dX5_share_34 rfl rfl ?_
      refine g_iload hC dX5_share_35 rfl ?_
      refine g_iload_n hC dX5_share_37 rfl rfl ?_
      refine g_iload_n hC dX5_share_38 rfl rfl ?_
      refine g_iload_n hC dX5_share_39 rfl rfl ?_
      refine g_callv (g_runV (As := [(vi r_7), (vi r_1), (vi x1), (vi x2)]) (rest := []) hC rfl (ctX5_addPiece hZ  h) rfl (gc_k5 hZ) (kwX5_addPiece (by decide) (by decide)) rfl (wc wd_564) (wc wd_566) (wc wd_13) rfl (Nat.le_of_ble_eq_true rfl) rfl dX5_share_40) (fun M_11 h => ?_)
      refine g_iload hC dX5_share_43 rfl ?_
      exact g_iret hC hR dX5_share_45 h
  · replace h := hB hc_6
    clear hA hB
    refine g_iload hC dX5_share_43 rfl ?_
    exact g_iret hC hR dX5_share_45 h
abbrev wX5_removePiece : List Cond := Cond.code yX5_removePiece cX5_removePiece 4 none :: gTs
abbrev rmX5_removePiece : Room := { frames := 1, cells := 0, slots := 0, locals := 26 }
theorem kwX5_removePiece {c0 : Cond} {rm : Room} (h1 : rmX5_removePiece.frames + 1 ≤ rm.frames) (h2 : 8 + (4 + 11) + rmX5_removePiece.locals ≤ rm.locals) : gCw (c0 :: gTs) rm yX5_removePiece cX5_removePiece 4 none wX5_removePiece rmX5_removePiece 1 := gCw_of wd_576 wd_45 h1 h2 (by decide +kernel)
def fX5_removePiece_L40  (x1 : Int) (x2 : Int) : Nat → Int → gMem → (gMem → Prop) → (gMem → Prop) → Prop
  | 0, _, _, _, _ => False
  | n40 + 1, x3, M, K87, Q =>
    (rg x3 ∧ (300 < x3 →
    K87 M) ∧
    (¬ 300 < x3 →
    ((0 ≤ x3 ∧ x3 < 301) ∧ (rg (M 27 x3) ∧ (0 < (M 27 x3) →
      ((0 ≤ x3 ∧ x3 < 301) ∧ (rg (M 24 x3) ∧ rg x2 ∧ ((M 24 x3) < x2 →
        fX5_removePiece_L40 x1 x2 n40 (x3 + 1) M K87 Q) ∧
        (¬ (M 24 x3) < x2 →
        ((0 ≤ x3 ∧ x3 < 301) ∧ ((0 ≤ x1 ∧ x1 < 301) ∧ ((0 ≤ x3 ∧ x3 < 301) ∧ ∀ M_22, M_22 = gSt M 24 x3 ((M 24 x3) - (M 25 x1)) → fX5_removePiece_L40 x1 x2 n40 (x3 + 1) M_22 K87 Q))))))) ∧
      (¬ 0 < (M 27 x3) →
      fX5_removePiece_L40 x1 x2 n40 (x3 + 1) M K87 Q)))))
set_option maxHeartbeats 4000000 in
set_option maxRecDepth 100000 in
theorem ctX5_removePiece_L40 {y : gY} {z : gZ} {l : Launch} {x1 : Int} {x2 : Int} {Q : gMem → Prop} {K87 : gMem → Prop} (hC : gC y z l cX5_removePiece RX5 4 wX5_removePiece rmX5_removePiece) (hR : gRV y z cL Q) (hZ : gZc z)  (hK87 : ∀ (M : gMem), K87 M → gW y z cL 87 [some (vr z 22), some (vi x1), none, none] [] M) :
    ∀ (n : Nat) (x3 : Int) (M : gMem), fX5_removePiece_L40 x1 x2 n x3 M K87 Q → gW y z cL 40 [some (vr z 22), some (vi x1), some (vi x2), some (vi x3)] [] M := by
  intro n
  induction n with
  | zero => intro x3 M h; exact False.elim h
  | succ n40 ih =>
    intro x3 M h
    replace h : (rg x3 ∧ (300 < x3 →
    K87 M) ∧
    (¬ 300 < x3 →
    ((0 ≤ x3 ∧ x3 < 301) ∧ (rg (M 27 x3) ∧ (0 < (M 27 x3) →
      ((0 ≤ x3 ∧ x3 < 301) ∧ (rg (M 24 x3) ∧ rg x2 ∧ ((M 24 x3) < x2 →
        fX5_removePiece_L40 x1 x2 n40 (x3 + 1) M K87 Q) ∧
        (¬ (M 24 x3) < x2 →
        ((0 ≤ x3 ∧ x3 < 301) ∧ ((0 ≤ x1 ∧ x1 < 301) ∧ ((0 ≤ x3 ∧ x3 < 301) ∧ ∀ M_22, M_22 = gSt M 24 x3 ((M 24 x3) - (M 25 x1)) → fX5_removePiece_L40 x1 x2 n40 (x3 + 1) M_22 K87 Q))))))) ∧
      (¬ 0 < (M 27 x3) →
      fX5_removePiece_L40 x1 x2 n40 (x3 + 1) M K87 Q))))) := h
    refine g_iload_n hC dX5_removePiece_40 rfl rfl ?_
    refine g_sipush hC dX5_removePiece_41 (by decide) ?_
    obtain ⟨hr_10, hA, hB⟩ := h
    refine g_cgt hC 87 hr_10 (by decide) dX5_removePiece_44 (by decide) (fun hc_11 => ?_) (fun hc_11 => ?_)
    · replace h := hA hc_11
      clear hA hB
      exact g_subk (hK87 M h) (And.intro rfl (And.intro rfl trivial))
    · replace h := hB hc_11
      clear hA hB
      refine g_aload_n hC dX5_removePiece_47 rfl rfl ?_
      refine g_getr (r := 27) hC rfl (gc_k5 hZ) iwX5 5 (by decide) rfl rfl (wc wd_192) dX5_removePiece_48 ?_
      refine g_iload_n hC dX5_removePiece_51 rfl rfl ?_
      obtain ⟨hb_12, h⟩ := h
      refine g_iald hC 0 rfl (c_t0 hZ) (by decide) hb_12 dX5_removePiece_52 ?_
      obtain ⟨hr_13, hA, hB⟩ := h
      refine g_ile hC 81 hr_13 dX5_removePiece_53 (by decide) (fun hc_14 => ?_) (fun hc_14 => ?_)
      · replace h := hA hc_14
        clear hA hB
        refine g_aload_n hC dX5_removePiece_56 rfl rfl ?_
        refine g_getr (r := 24) hC rfl (gc_k5 hZ) iwX5 2 (by decide) rfl rfl (wc wd_187) dX5_removePiece_57 ?_
        refine g_iload_n hC dX5_removePiece_60 rfl rfl ?_
        obtain ⟨hb_15, h⟩ := h
        refine g_iald hC 0 rfl (c_t0 hZ) (by decide) hb_15 dX5_removePiece_61 ?_
        refine g_iload_n hC dX5_removePiece_62 rfl rfl ?_
        obtain ⟨hr_16, hr_17, hA, hB⟩ := h
        refine g_clt hC 81 hr_16 hr_17 dX5_removePiece_63 (by decide) (fun hc_18 => ?_) (fun hc_18 => ?_)
        · replace h := hA hc_18
          clear hA hB
          refine g_iinc2 (lc' := [some (vr z 22), some (vi x1), some (vi x2), some (vi (x3 + 1))]) hC dX5_removePiece_81 rfl rfl ?_
          refine g_goto hC 40 dX5_removePiece_84 (by decide) ?_
          exact g_subk (ih (x3 + 1) M h) (And.intro rfl (And.intro rfl (And.intro rfl (And.intro rfl trivial))))
        · replace h := hB hc_18
          clear hA hB
          refine g_aload_n hC dX5_removePiece_66 rfl rfl ?_
          refine g_getr (r := 24) hC rfl (gc_k5 hZ) iwX5 2 (by decide) rfl rfl (wc wd_187) dX5_removePiece_67 ?_
          refine g_iload_n hC dX5_removePiece_70 rfl rfl ?_
          refine g_dup2 hC dX5_removePiece_71 rfl rfl ?_
          obtain ⟨hb_19, h⟩ := h
          refine g_iald hC 0 rfl (c_t0 hZ) (by decide) hb_19 dX5_removePiece_72 ?_
          refine g_aload_n hC dX5_removePiece_73 rfl rfl ?_
          refine g_getr (r := 25) hC rfl (gc_k5 hZ) iwX5 3 (by decide) rfl rfl (wc wd_188) dX5_removePiece_74 ?_
          refine g_iload_n hC dX5_removePiece_77 rfl rfl ?_
          obtain ⟨hb_20, h⟩ := h
          refine g_iald hC 0 rfl (c_t0 hZ) (by decide) hb_20 dX5_removePiece_78 ?_
          refine g_isub hC dX5_removePiece_79 ?_
          obtain ⟨hb_21, h⟩ := h
          obtain ⟨M_22, hM_22⟩ : ∃ M9, M9 = gSt M 24 x3 ((M 24 x3) - (M 25 x1)) := ⟨_, rfl⟩
          replace h := h M_22 hM_22
          refine g_iast hC 0 rfl (c_t0 hZ) (by decide) hb_21 dX5_removePiece_80 hM_22 ?_
          refine g_iinc2 (lc' := [some (vr z 22), some (vi x1), some (vi x2), some (vi (x3 + 1))]) hC dX5_removePiece_81 rfl rfl ?_
          refine g_goto hC 40 dX5_removePiece_84 (by decide) ?_
          exact g_subk (ih (x3 + 1) M_22 h) (And.intro rfl (And.intro rfl (And.intro rfl (And.intro rfl trivial))))
      · replace h := hB hc_14
        clear hA hB
        refine g_iinc2 (lc' := [some (vr z 22), some (vi x1), some (vi x2), some (vi (x3 + 1))]) hC dX5_removePiece_81 rfl rfl ?_
        refine g_goto hC 40 dX5_removePiece_84 (by decide) ?_
        exact g_subk (ih (x3 + 1) M h) (And.intro rfl (And.intro rfl (And.intro rfl (And.intro rfl trivial))))
def fX5_removePiece (x1 : Int) (M : gMem) (Q : gMem → Prop) : Prop :=
  ((0 ≤ x1 ∧ x1 < 301) ∧ ((0 ≤ x1 ∧ x1 < 301) ∧ ((0 ≤ x1 ∧ x1 < 301) ∧ (0 ≤ ((M 24 x1) + (M 25 x1)) ∧ 0 ≤ (M 24 x1) ∧ 0 ≤ ((M 22 10) - ((M 24 x1) + (M 25 x1))) ∧ ((M 24 x1) + (M 25 x1)) + ((M 22 10) - ((M 24 x1) + (M 25 x1))) ≤ 5400 ∧ (M 24 x1) + ((M 22 10) - ((M 24 x1) + (M 25 x1))) ≤ 5400 ∧ ∀ M_4, M_4 = gCp M 23 23 ((M 24 x1) + (M 25 x1)) (M 24 x1) ((M 22 10) - ((M 24 x1) + (M 25 x1))) → ∃ n_27, fX5_removePiece_L40 x1 ((M 24 x1) + (M 25 x1)) n_27 1 M_4 (fun M_23 =>
  ((0 ≤ x1 ∧ x1 < 301) ∧ (∀ M_25, M_25 = gSt M_23 22 10 ((M_23 22 10) - (M_23 25 x1)) → (∀ M_26, M_26 = gSt M_25 22 9 ((M_25 22 9) - 1) → Q M_26)))) Q))))
set_option maxHeartbeats 4000000 in
set_option maxRecDepth 100000 in
theorem ctX5_removePiece {l : Launch} {z : gZ} (hZ : gZc z) {x1 : Int}  {M : gMem} {Q : gMem → Prop} (h : fX5_removePiece x1 M Q) : gMV l z cL yX5_removePiece wX5_removePiece rmX5_removePiece [(vr z 22), (vi x1)] M Q := by
  refine g_metV (by decide) rfl rfl (gCat_all (And.intro rfl (And.intro rfl trivial))) (Nat.le_of_ble_eq_true rfl) ?_
  intro y hC hR
  replace h : ((0 ≤ x1 ∧ x1 < 301) ∧ ((0 ≤ x1 ∧ x1 < 301) ∧ ((0 ≤ x1 ∧ x1 < 301) ∧ (0 ≤ ((M 24 x1) + (M 25 x1)) ∧ 0 ≤ (M 24 x1) ∧ 0 ≤ ((M 22 10) - ((M 24 x1) + (M 25 x1))) ∧ ((M 24 x1) + (M 25 x1)) + ((M 22 10) - ((M 24 x1) + (M 25 x1))) ≤ 5400 ∧ (M 24 x1) + ((M 22 10) - ((M 24 x1) + (M 25 x1))) ≤ 5400 ∧ ∀ M_4, M_4 = gCp M 23 23 ((M 24 x1) + (M 25 x1)) (M 24 x1) ((M 22 10) - ((M 24 x1) + (M 25 x1))) → ∃ n_27, fX5_removePiece_L40 x1 ((M 24 x1) + (M 25 x1)) n_27 1 M_4 (fun M_23 =>
  ((0 ≤ x1 ∧ x1 < 301) ∧ (∀ M_25, M_25 = gSt M_23 22 10 ((M_23 22 10) - (M_23 25 x1)) → (∀ M_26, M_26 = gSt M_25 22 9 ((M_25 22 9) - 1) → Q M_26)))) Q)))) := h
  refine g_lc (lc' := [some (vr z 22), some (vi x1), none, none]) rfl ?_
  refine g_aload_n hC dX5_removePiece_0 rfl rfl ?_
  refine g_getr (r := 24) hC rfl (gc_k5 hZ) iwX5 2 (by decide) rfl rfl (wc wd_187) dX5_removePiece_1 ?_
  refine g_iload_n hC dX5_removePiece_4 rfl rfl ?_
  obtain ⟨hb_1, h⟩ := h
  refine g_iald hC 0 rfl (c_t0 hZ) (by decide) hb_1 dX5_removePiece_5 ?_
  refine g_aload_n hC dX5_removePiece_6 rfl rfl ?_
  refine g_getr (r := 25) hC rfl (gc_k5 hZ) iwX5 3 (by decide) rfl rfl (wc wd_188) dX5_removePiece_7 ?_
  refine g_iload_n hC dX5_removePiece_10 rfl rfl ?_
  obtain ⟨hb_2, h⟩ := h
  refine g_iald hC 0 rfl (c_t0 hZ) (by decide) hb_2 dX5_removePiece_11 ?_
  refine g_iadd hC dX5_removePiece_12 ?_
  refine g_istore_n2 (lc' := [some (vr z 22), some (vi x1), some (vi ((M 24 x1) + (M 25 x1))), none]) hC dX5_removePiece_13 rfl (Nat.le_of_ble_eq_true rfl) rfl ?_
  refine g_aload_n hC dX5_removePiece_14 rfl rfl ?_
  refine g_getr (r := 23) hC rfl (gc_k5 hZ) iwX5 1 (by decide) rfl rfl (wc wd_186) dX5_removePiece_15 ?_
  refine g_iload_n hC dX5_removePiece_18 rfl rfl ?_
  refine g_aload_n hC dX5_removePiece_19 rfl rfl ?_
  refine g_getr (r := 23) hC rfl (gc_k5 hZ) iwX5 1 (by decide) rfl rfl (wc wd_186) dX5_removePiece_20 ?_
  refine g_aload_n hC dX5_removePiece_23 rfl rfl ?_
  refine g_getr (r := 24) hC rfl (gc_k5 hZ) iwX5 2 (by decide) rfl rfl (wc wd_187) dX5_removePiece_24 ?_
  refine g_iload_n hC dX5_removePiece_27 rfl rfl ?_
  obtain ⟨hb_3, h⟩ := h
  refine g_iald hC 0 rfl (c_t0 hZ) (by decide) hb_3 dX5_removePiece_28 ?_
  refine g_aload_n hC dX5_removePiece_29 rfl rfl ?_
  refine g_geti (ji := 10) hC rfl (gc_k5 hZ) iwX5 10 (by decide) rfl rfl (wc wd_201) dX5_removePiece_30 rfl ?_
  refine g_iload_n hC dX5_removePiece_33 rfl rfl ?_
  refine g_isub hC dX5_removePiece_34 ?_
  obtain ⟨ha_5, ha_6, ha_7, ha_8, ha_9, h⟩ := h
  obtain ⟨M_4, hM_4⟩ : ∃ M9, M9 = gCp M 23 23 ((M 24 x1) + (M 25 x1)) (M 24 x1) ((M 22 10) - ((M 24 x1) + (M 25 x1))) := ⟨_, rfl⟩
  replace h := h M_4 hM_4
  refine g_acopy hC rfl 1 (Or.inr ⟨rfl, rfl⟩) rfl rfl (c_t1 hZ) (by decide) (by decide) ha_5 ha_6 ha_7 ha_8 ha_9 (wc wd_568) (wc wd_362) (wc wd_361) (wc wd_50) (by decide) (Nat.le_of_ble_eq_true rfl) dX5_removePiece_35 hM_4 ?_
  refine g_iconst hC dX5_removePiece_38 ?_
  refine g_istore_n2 (lc' := [some (vr z 22), some (vi x1), some (vi ((M 24 x1) + (M 25 x1))), some (vi 1)]) hC dX5_removePiece_39 rfl (Nat.le_of_ble_eq_true rfl) rfl ?_
  obtain ⟨n_27, h⟩ := h
  refine g_subk (ctX5_removePiece_L40 hC hR hZ ?_ n_27 1 M_4 h) (And.intro rfl (And.intro rfl (And.intro rfl (And.intro rfl trivial))))
  intro M_23 h
  refine g_aload_n hC dX5_removePiece_87 rfl rfl ?_
  refine g_dup hC dX5_removePiece_88 rfl ?_
  refine g_geti (ji := 10) hC rfl (gc_k5 hZ) iwX5 10 (by decide) rfl rfl (wc wd_201) dX5_removePiece_89 rfl ?_
  refine g_aload_n hC dX5_removePiece_92 rfl rfl ?_
  refine g_getr (r := 25) hC rfl (gc_k5 hZ) iwX5 3 (by decide) rfl rfl (wc wd_188) dX5_removePiece_93 ?_
  refine g_iload_n hC dX5_removePiece_96 rfl rfl ?_
  obtain ⟨hb_24, h⟩ := h
  refine g_iald hC 0 rfl (c_t0 hZ) (by decide) hb_24 dX5_removePiece_97 ?_
  refine g_isub hC dX5_removePiece_98 ?_
  obtain ⟨M_25, hM_25⟩ : ∃ M9, M9 = gSt M_23 22 10 ((M_23 22 10) - (M_23 25 x1)) := ⟨_, rfl⟩
  replace h := h M_25 hM_25
  refine g_puti (ji := 10) hC rfl (gc_k5 hZ) iwX5 tyX5_ok nmX5 10 (by decide) rfl rfl (wc wd_201) rfl rfl dX5_removePiece_99 rfl hM_25 ?_
  refine g_aload_n hC dX5_removePiece_102 rfl rfl ?_
  refine g_dup hC dX5_removePiece_103 rfl ?_
  refine g_geti (ji := 9) hC rfl (gc_k5 hZ) iwX5 9 (by decide) rfl rfl (wc wd_199) dX5_removePiece_104 rfl ?_
  refine g_iconst hC dX5_removePiece_107 ?_
  refine g_isub hC dX5_removePiece_108 ?_
  obtain ⟨M_26, hM_26⟩ : ∃ M9, M9 = gSt M_25 22 9 ((M_25 22 9) - 1) := ⟨_, rfl⟩
  replace h := h M_26 hM_26
  refine g_puti (ji := 9) hC rfl (gc_k5 hZ) iwX5 tyX5_ok nmX5 9 (by decide) rfl rfl (wc wd_199) rfl rfl dX5_removePiece_109 rfl hM_26 ?_
  exact g_vret hC hR dX5_removePiece_112 h
abbrev wX5_release : List Cond := Cond.code yX5_release cX5_release 5 none :: gTs
abbrev rmX5_release : Room := { frames := 2, cells := 0, slots := 0, locals := 49 }
theorem kwX5_release {c0 : Cond} {rm : Room} (h1 : rmX5_release.frames + 1 ≤ rm.frames) (h2 : 8 + (5 + 11) + rmX5_release.locals ≤ rm.locals) : gCw (c0 :: gTs) rm yX5_release cX5_release 5 none wX5_release rmX5_release 2 := gCw_of wd_572 wd_45 h1 h2 (by decide +kernel)
def fX5_release_L2 (k1 n1 : Nat) (x2 : Int) : Nat → Int → gMem → (gMem → Prop) → Prop
  | 0, _, _, _ => False
  | n2 + 1, x3, M, Q =>
    (rg x3 ∧ rg x2 ∧ (x3 < x2 →
    ((0 ≤ x3 ∧ x3 < n1) ∧ ((0 ≤ (M k1 x3) ∧ (M k1 x3) < 301) ∧ ((0 ≤ (M k1 x3) ∧ (M k1 x3) < 301) ∧ ∀ M_7, M_7 = gSt M 27 (M k1 x3) ((M 27 (M k1 x3)) - 1) → ((0 ≤ (M k1 x3) ∧ (M k1 x3) < 301) ∧ (rg (M_7 27 (M k1 x3)) ∧ ((M_7 27 (M k1 x3)) = 0 →
      (fX5_removePiece (M k1 x3) M_7 (fun M_11 =>
        fX5_release_L2 k1 n1 x2 n2 (x3 + 1) M_11 Q))) ∧
      (¬ (M_7 27 (M k1 x3)) = 0 →
      fX5_release_L2 k1 n1 x2 n2 (x3 + 1) M_7 Q))))))) ∧
    (¬ x3 < x2 →
    Q M))
set_option maxHeartbeats 4000000 in
set_option maxRecDepth 100000 in
theorem ctX5_release_L2 {y : gY} {z : gZ} {l : Launch} {k1 n1 : Nat} {x2 : Int} {Q : gMem → Prop}  (hC : gC y z l cX5_release RX5 5 wX5_release rmX5_release) (hR : gRV y z cL Q) (hZ : gZc z) (h1 : cL[k1]? = some (.inl (0, n1))) (hn1 : n1 < 2147483648) :
    ∀ (n : Nat) (x3 : Int) (M : gMem), fX5_release_L2 k1 n1 x2 n x3 M Q → gW y z cL 2 [some (vr z 22), some (vr z k1), some (vi x2), some (vi x3), none] [] M := by
  intro n
  induction n with
  | zero => intro x3 M h; exact False.elim h
  | succ n2 ih =>
    intro x3 M h
    replace h : (rg x3 ∧ rg x2 ∧ (x3 < x2 →
    ((0 ≤ x3 ∧ x3 < n1) ∧ ((0 ≤ (M k1 x3) ∧ (M k1 x3) < 301) ∧ ((0 ≤ (M k1 x3) ∧ (M k1 x3) < 301) ∧ ∀ M_7, M_7 = gSt M 27 (M k1 x3) ((M 27 (M k1 x3)) - 1) → ((0 ≤ (M k1 x3) ∧ (M k1 x3) < 301) ∧ (rg (M_7 27 (M k1 x3)) ∧ ((M_7 27 (M k1 x3)) = 0 →
      (fX5_removePiece (M k1 x3) M_7 (fun M_11 =>
        fX5_release_L2 k1 n1 x2 n2 (x3 + 1) M_11 Q))) ∧
      (¬ (M_7 27 (M k1 x3)) = 0 →
      fX5_release_L2 k1 n1 x2 n2 (x3 + 1) M_7 Q))))))) ∧
    (¬ x3 < x2 →
    Q M)) := h
    refine g_iload_n hC dX5_release_2 rfl rfl ?_
    refine g_iload_n hC dX5_release_3 rfl rfl ?_
    obtain ⟨hr_1, hr_2, hA, hB⟩ := h
    refine g_cge hC 45 hr_1 hr_2 dX5_release_4 (by decide) (fun hc_3 => ?_) (fun hc_3 => ?_)
    · replace h := hA hc_3
      clear hA hB
      refine g_aload_n hC dX5_release_7 rfl rfl ?_
      refine g_iload_n hC dX5_release_8 rfl rfl ?_
      obtain ⟨hb_4, h⟩ := h
      refine g_iald hC 0 h1 (c_t0 hZ) hn1 hb_4 dX5_release_9 ?_
      refine g_istore2 (lc' := [some (vr z 22), some (vr z k1), some (vi x2), some (vi x3), some (vi (M k1 x3))]) hC dX5_release_10 (Nat.le_of_ble_eq_true rfl) rfl ?_
      refine g_aload_n hC dX5_release_12 rfl rfl ?_
      refine g_getr (r := 27) hC rfl (gc_k5 hZ) iwX5 5 (by decide) rfl rfl (wc wd_192) dX5_release_13 ?_
      refine g_iload hC dX5_release_16 rfl ?_
      refine g_dup2 hC dX5_release_18 rfl rfl ?_
      obtain ⟨hb_5, h⟩ := h
      refine g_iald hC 0 rfl (c_t0 hZ) (by decide) hb_5 dX5_release_19 ?_
      refine g_iconst hC dX5_release_20 ?_
      refine g_isub hC dX5_release_21 ?_
      obtain ⟨hb_6, h⟩ := h
      obtain ⟨M_7, hM_7⟩ : ∃ M9, M9 = gSt M 27 (M k1 x3) ((M 27 (M k1 x3)) - 1) := ⟨_, rfl⟩
      replace h := h M_7 hM_7
      refine g_iast hC 0 rfl (c_t0 hZ) (by decide) hb_6 dX5_release_22 hM_7 ?_
      refine g_aload_n hC dX5_release_23 rfl rfl ?_
      refine g_getr (r := 27) hC rfl (gc_k5 hZ) iwX5 5 (by decide) rfl rfl (wc wd_192) dX5_release_24 ?_
      refine g_iload hC dX5_release_27 rfl ?_
      obtain ⟨hb_8, h⟩ := h
      refine g_iald hC 0 rfl (c_t0 hZ) (by decide) hb_8 dX5_release_29 ?_
      obtain ⟨hr_9, hA, hB⟩ := h
      refine g_ine hC 39 hr_9 dX5_release_30 (by decide) (fun hc_10 => ?_) (fun hc_10 => ?_)
      · replace h := hA hc_10
        clear hA hB
        refine g_aload_n hC dX5_release_33 rfl rfl ?_
        refine g_iload hC dX5_release_34 rfl ?_
        refine g_callv (g_runV (As := [(vi (M k1 x3))]) (rest := []) hC rfl (ctX5_removePiece hZ  h) rfl (gc_k5 hZ) (kwX5_removePiece (by decide) (by decide)) rfl (wc wd_573) (wc wd_575) (wc wd_15) rfl (Nat.le_of_ble_eq_true rfl) rfl dX5_release_36) (fun M_11 h => ?_)
        refine g_iinc2 (lc' := [some (vr z 22), some (vr z k1), some (vi x2), some (vi (x3 + 1)), some (vi (M k1 x3))]) hC dX5_release_39 rfl rfl ?_
        refine g_goto hC 2 dX5_release_42 (by decide) ?_
        exact g_subk (ih (x3 + 1) M_11 h) (And.intro rfl (And.intro rfl (And.intro rfl (And.intro rfl trivial))))
      · replace h := hB hc_10
        clear hA hB
        refine g_iinc2 (lc' := [some (vr z 22), some (vr z k1), some (vi x2), some (vi (x3 + 1)), some (vi (M k1 x3))]) hC dX5_release_39 rfl rfl ?_
        refine g_goto hC 2 dX5_release_42 (by decide) ?_
        exact g_subk (ih (x3 + 1) M_7 h) (And.intro rfl (And.intro rfl (And.intro rfl (And.intro rfl trivial))))
    · replace h := hB hc_3
      clear hA hB
      exact g_vret hC hR dX5_release_45 h
def fX5_release (k1 n1 : Nat) (x2 : Int) (M : gMem) (Q : gMem → Prop) : Prop :=
  ∃ n_12, fX5_release_L2 k1 n1 x2 n_12 0 M Q
set_option maxHeartbeats 4000000 in
set_option maxRecDepth 100000 in
theorem ctX5_release {l : Launch} {z : gZ} (hZ : gZc z) {k1 n1 : Nat} {x2 : Int} (h1 : cL[k1]? = some (.inl (0, n1))) (hn1 : n1 < 2147483648) {M : gMem} {Q : gMem → Prop} (h : fX5_release k1 n1 x2 M Q) : gMV l z cL yX5_release wX5_release rmX5_release [(vr z 22), (vr z k1), (vi x2)] M Q := by
  refine g_metV (by decide) rfl rfl (gCat_all (And.intro rfl (And.intro rfl (And.intro rfl trivial)))) (Nat.le_of_ble_eq_true rfl) ?_
  intro y hC hR
  replace h : ∃ n_12, fX5_release_L2 k1 n1 x2 n_12 0 M Q := h
  refine g_lc (lc' := [some (vr z 22), some (vr z k1), some (vi x2), none, none]) rfl ?_
  refine g_iconst hC dX5_release_0 ?_
  refine g_istore_n2 (lc' := [some (vr z 22), some (vr z k1), some (vi x2), some (vi 0), none]) hC dX5_release_1 rfl (Nat.le_of_ble_eq_true rfl) rfl ?_
  obtain ⟨n_12, h⟩ := h
  refine g_subk (ctX5_release_L2 hC hR hZ h1 hn1 n_12 0 M h) (And.intro rfl (And.intro rfl (And.intro rfl (And.intro rfl trivial))))
