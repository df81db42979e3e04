abbrev wX9_at : List Cond := Cond.code yX9_at cX9_at 3 (some .int) :: gTs
abbrev rmX9_at : Room := { frames := 1, cells := 0, slots := 0, locals := 20 }
theorem kwX9_at {c0 : Cond} {rm : Room} (h1 : rmX9_at.frames + 1 ≤ rm.frames) (h2 : 8 + (3 + 11) + rmX9_at.locals ≤ rm.locals) : gCw (c0 :: gTs) rm yX9_at cX9_at 3 (some .int) wX9_at rmX9_at 2 := gCw_of wd_831 wd_49 h1 h2 (by decide +kernel)
def fX9_at (x1 : Int) (x2 : Int) (M : gMem) (Q : Int → Prop) : Prop :=
  (fX9_isFile x1 M (fun r_1 =>
  (rg r_1 ∧ (r_1 = 0 →
  Q (-1)) ∧
  (¬ r_1 = 0 →
  (rg x2 ∧ (x2 < 0 →
    Q (-1)) ∧
    (¬ x2 < 0 →
    ((0 ≤ x1 ∧ x1 < 8) ∧ (rg x2 ∧ rg (M 1 x1) ∧ (x2 < (M 1 x1) →
      ((0 ≤ ((600 * x1) + x2) ∧ ((600 * x1) + x2) < 4800) ∧ Q (M 2 ((600 * x1) + x2)))) ∧
      (¬ x2 < (M 1 x1) →
      Q (-1))))))))))
set_option maxHeartbeats 4000000 in
set_option maxRecDepth 100000 in
theorem ctX9_at {l : Launch} {z : gZ} (hZ : gZm z) {x1 : Int} {x2 : Int}  {M : gMem} {Q : Int → Prop} (h : fX9_at x1 x2 M Q) : gMI l z mL yX9_at wX9_at rmX9_at [(vr z 0), (vi x1), (vi x2)] M (fun r M' => M = M' ∧ Q r) := by
  refine g_metI .int (by decide) rfl rfl (gCat_all (And.intro rfl (And.intro rfl (And.intro rfl trivial)))) (Nat.le_of_ble_eq_true rfl) ?_
  intro y hC hR
  replace h : (fX9_isFile x1 M (fun r_1 =>
  (rg r_1 ∧ (r_1 = 0 →
  Q (-1)) ∧
  (¬ r_1 = 0 →
  (rg x2 ∧ (x2 < 0 →
    Q (-1)) ∧
    (¬ x2 < 0 →
    ((0 ≤ x1 ∧ x1 < 8) ∧ (rg x2 ∧ rg (M 1 x1) ∧ (x2 < (M 1 x1) →
      ((0 ≤ ((600 * x1) + x2) ∧ ((600 * x1) + x2) < 4800) ∧ Q (M 2 ((600 * x1) + x2)))) ∧
      (¬ x2 < (M 1 x1) →
      Q (-1)))))))))) := h
  refine g_lc (lc' := [some (vr z 0), some (vi x1), some (vi x2)]) rfl ?_
  refine g_iload_n hC dX9_at_0 rfl rfl ?_
  refine g_calli (g_runS (As := [(vi x1)]) (rest := []) hC rfl (ctX9_isFile hZ  h) (kwX9_isFile (by decide) (by decide)) (wc wd_813) (wc wd_814) rfl (Nat.le_of_ble_eq_true rfl) rfl dX9_at_1) (fun r_1 M_2 h => ?_)
  obtain ⟨rfl, h⟩ := h
  obtain ⟨hr_3, hA, hB⟩ := h
  refine g_ieq hC 36 hr_3 dX9_at_4 (by decide) (fun hc_4 => ?_) (fun hc_4 => ?_)
  · replace h := hA hc_4
    clear hA hB
    refine g_iconst hC dX9_at_36 ?_
    exact g_iret hC hR dX9_at_37 ⟨rfl, h⟩
  · replace h := hB hc_4
    clear hA hB
    refine g_iload_n hC dX9_at_7 rfl rfl ?_
    obtain ⟨hr_5, hA, hB⟩ := h
    refine g_ilt hC 36 hr_5 dX9_at_8 (by decide) (fun hc_6 => ?_) (fun hc_6 => ?_)
    · replace h := hA hc_6
      clear hA hB
      refine g_iconst hC dX9_at_36 ?_
      exact g_iret hC hR dX9_at_37 ⟨rfl, h⟩
    · replace h := hB hc_6
      clear hA hB
      refine g_iload_n hC dX9_at_11 rfl rfl ?_
      refine g_aload_n hC dX9_at_12 rfl rfl ?_
      refine g_getr (r := 1) hC rfl (gm_k9 hZ) iwX9 0 (by decide) rfl rfl (wc wd_688) dX9_at_13 ?_
      refine g_iload_n hC dX9_at_16 rfl rfl ?_
      obtain ⟨hb_7, h⟩ := h
      refine g_iald hC 0 rfl (m_t0 hZ) (by decide) hb_7 dX9_at_17 ?_
      obtain ⟨hr_8, hr_9, hA, hB⟩ := h
      refine g_cge hC 36 hr_8 hr_9 dX9_at_18 (by decide) (fun hc_10 => ?_) (fun hc_10 => ?_)
      · replace h := hA hc_10
        clear hA hB
        refine g_aload_n hC dX9_at_21 rfl rfl ?_
        refine g_getr (r := 2) hC rfl (gm_k9 hZ) iwX9 1 (by decide) rfl rfl (wc wd_689) dX9_at_22 ?_
        refine g_sipush hC dX9_at_25 (by decide) ?_
        refine g_iload_n hC dX9_at_28 rfl rfl ?_
        refine g_imul hC dX9_at_29 ?_
        refine g_iload_n hC dX9_at_30 rfl rfl ?_
        refine g_iadd hC dX9_at_31 ?_
        obtain ⟨hb_11, h⟩ := h
        refine g_iald hC 0 rfl (m_t0 hZ) (by decide) hb_11 dX9_at_32 ?_
        refine g_goto hC 37 dX9_at_33 (by decide) ?_
        exact g_iret hC hR dX9_at_37 ⟨rfl, h⟩
      · replace h := hB hc_10
        clear hA hB
        refine g_iconst hC dX9_at_36 ?_
        exact g_iret hC hR dX9_at_37 ⟨rfl, h⟩
abbrev wX9_isRule : List Cond := Cond.code yX9_isRule cX9_isRule 2 (some .boolean) :: gTs
abbrev rmX9_isRule : Room := { frames := 0, cells := 0, slots := 0, locals := 0 }
theorem kwX9_isRule {c0 : Cond} {rm : Room} (h1 : rmX9_isRule.frames + 1 ≤ rm.frames) (h2 : 8 + (2 + 11) + rmX9_isRule.locals ≤ rm.locals) : gCw (c0 :: gTs) rm yX9_isRule cX9_isRule 2 (some .boolean) wX9_isRule rmX9_isRule 1 := gCw_of wd_855 wd_49 h1 h2 (by decide +kernel)
def fX9_isRule (x1 : Int) (M : gMem) (Q : Int → Prop) : Prop :=
  (rg x1 ∧ (x1 < 0 →
  Q 0) ∧
  (¬ x1 < 0 →
  (rg x1 ∧ (x1 < 6 →
    ((0 ≤ x1 ∧ x1 < 6) ∧ (rg (M 4 x1) ∧ (0 < (M 4 x1) →
      Q 1) ∧
      (¬ 0 < (M 4 x1) →
      Q 0)))) ∧
    (¬ x1 < 6 →
    Q 0))))
set_option maxHeartbeats 4000000 in
set_option maxRecDepth 100000 in
theorem ctX9_isRule {l : Launch} {z : gZ} (hZ : gZm z) {x1 : Int}  {M : gMem} {Q : Int → Prop} (h : fX9_isRule x1 M Q) : gMI l z mL yX9_isRule wX9_isRule rmX9_isRule [(vr z 0), (vi x1)] M (fun r M' => M = M' ∧ Q r) := by
  refine g_metI .boolean (by decide) rfl rfl (gCat_all (And.intro rfl (And.intro rfl trivial))) (Nat.le_of_ble_eq_true rfl) ?_
  intro y hC hR
  replace h : (rg x1 ∧ (x1 < 0 →
  Q 0) ∧
  (¬ x1 < 0 →
  (rg x1 ∧ (x1 < 6 →
    ((0 ≤ x1 ∧ x1 < 6) ∧ (rg (M 4 x1) ∧ (0 < (M 4 x1) →
      Q 1) ∧
      (¬ 0 < (M 4 x1) →
      Q 0)))) ∧
    (¬ x1 < 6 →
    Q 0)))) := h
  refine g_lc (lc' := [some (vr z 0), some (vi x1)]) rfl ?_
  refine g_iload_n hC dX9_isRule_0 rfl rfl ?_
  obtain ⟨hr_1, hA, hB⟩ := h
  refine g_ilt hC 23 hr_1 dX9_isRule_1 (by decide) (fun hc_2 => ?_) (fun hc_2 => ?_)
  · replace h := hA hc_2
    clear hA hB
    refine g_iconst hC dX9_isRule_23 ?_
    exact g_zret hC hR (by decide) dX9_isRule_24 ⟨rfl, h⟩
  · replace h := hB hc_2
    clear hA hB
    refine g_iload_n hC dX9_isRule_4 rfl rfl ?_
    refine g_bipush hC dX9_isRule_5 (by decide) ?_
    obtain ⟨hr_3, hA, hB⟩ := h
    refine g_cge hC 23 hr_3 (by decide) dX9_isRule_7 (by decide) (fun hc_4 => ?_) (fun hc_4 => ?_)
    · replace h := hA hc_4
      clear hA hB
      refine g_aload_n hC dX9_isRule_10 rfl rfl ?_
      refine g_getr (r := 4) hC rfl (gm_k9 hZ) iwX9 4 (by decide) rfl rfl (wc wd_692) dX9_isRule_11 ?_
      refine g_iload_n hC dX9_isRule_14 rfl rfl ?_
      obtain ⟨hb_5, h⟩ := h
      refine g_iald hC 0 rfl (m_t0 hZ) (by decide) hb_5 dX9_isRule_15 ?_
      obtain ⟨hr_6, hA, hB⟩ := h
      refine g_ile hC 23 hr_6 dX9_isRule_16 (by decide) (fun hc_7 => ?_) (fun hc_7 => ?_)
      · replace h := hA hc_7
        clear hA hB
        refine g_iconst hC dX9_isRule_19 ?_
        refine g_goto hC 24 dX9_isRule_20 (by decide) ?_
        exact g_zret hC hR (by decide) dX9_isRule_24 ⟨rfl, h⟩
      · replace h := hB hc_7
        clear hA hB
        refine g_iconst hC dX9_isRule_23 ?_
        exact g_zret hC hR (by decide) dX9_isRule_24 ⟨rfl, h⟩
    · replace h := hB hc_4
      clear hA hB
      refine g_iconst hC dX9_isRule_23 ?_
      exact g_zret hC hR (by decide) dX9_isRule_24 ⟨rfl, h⟩
abbrev wX9_rules : List Cond := Cond.code yX9_rules cX9_rules 8 (some .boolean) :: gTs
abbrev rmX9_rules : Room := { frames := 1, cells := 0, slots := 0, locals := 22 }
theorem kwX9_rules {c0 : Cond} {rm : Room} (h1 : rmX9_rules.frames + 1 ≤ rm.frames) (h2 : 8 + (8 + 11) + rmX9_rules.locals ≤ rm.locals) : gCw (c0 :: gTs) rm yX9_rules cX9_rules 8 (some .boolean) wX9_rules rmX9_rules 7 := gCw_of wd_839 wd_49 h1 h2 (by decide +kernel)
def fX9_rules (x1 : Int) (x2 : Int) (x3 : Int) (x4 : Int) (x5 : Int) (x6 : Int) (x7 : Int) (M : gMem) (Q : Int → gMem → Prop) : Prop :=
  (rg x1 ∧ (x1 < 0 →
  Q 0 M) ∧
  (¬ x1 < 0 →
  (rg x1 ∧ (x1 < 6 →
    (fX9_isIn x3 1 200 M (fun r_5 =>
      (rg r_5 ∧ (r_5 = 0 →
      Q 0 M) ∧
      (¬ r_5 = 0 →
      (fX9_isIn x4 x3 200 M (fun r_9 =>
        (rg r_9 ∧ (r_9 = 0 →
        Q 0 M) ∧
        (¬ r_9 = 0 →
        (fX9_isIn x5 1 16 M (fun r_13 =>
          (rg r_13 ∧ (r_13 = 0 →
          Q 0 M) ∧
          (¬ r_13 = 0 →
          (fX9_isIn x6 0 8 M (fun r_17 =>
            (rg r_17 ∧ (r_17 = 0 →
            Q 0 M) ∧
            (¬ r_17 = 0 →
            (fX9_isIn x7 0 255 M (fun r_21 =>
              (rg r_21 ∧ (r_21 = 0 →
              Q 0 M) ∧
              (¬ r_21 = 0 →
              ((0 ≤ x1 ∧ x1 < 6) ∧ ∀ M_26, M_26 = gSt M 4 x1 x2 → ((0 ≤ x1 ∧ x1 < 6) ∧ ∀ M_28, M_28 = gSt M_26 5 x1 x3 → ((0 ≤ x1 ∧ x1 < 6) ∧ ∀ M_30, M_30 = gSt M_28 6 x1 x4 → ((0 ≤ x1 ∧ x1 < 6) ∧ ∀ M_32, M_32 = gSt M_30 7 x1 x5 → ((0 ≤ x1 ∧ x1 < 6) ∧ ∀ M_34, M_34 = gSt M_32 8 x1 x6 → ((0 ≤ x1 ∧ x1 < 6) ∧ ∀ M_36, M_36 = gSt M_34 9 x1 x7 → Q 1 M_36))))))))))))))))))))))))))) ∧
    (¬ x1 < 6 →
    Q 0 M))))
set_option maxHeartbeats 4000000 in
set_option maxRecDepth 100000 in
theorem ctX9_rules {l : Launch} {z : gZ} (hZ : gZm z) {x1 : Int} {x2 : Int} {x3 : Int} {x4 : Int} {x5 : Int} {x6 : Int} {x7 : Int}  {M : gMem} {Q : Int → gMem → Prop} (h : fX9_rules x1 x2 x3 x4 x5 x6 x7 M Q) : gMI l z mL yX9_rules wX9_rules rmX9_rules [(vr z 0), (vi x1), (vi x2), (vi x3), (vi x4), (vi x5), (vi x6), (vi x7)] M Q := by
  refine g_metI .boolean (by decide) rfl rfl (gCat_all (And.intro rfl (And.intro rfl (And.intro rfl (And.intro rfl (And.intro rfl (And.intro rfl (And.intro rfl (And.intro rfl trivial))))))))) (Nat.le_of_ble_eq_true rfl) ?_
  intro y hC hR
  replace h : (rg x1 ∧ (x1 < 0 →
  Q 0 M) ∧
  (¬ x1 < 0 →
  (rg x1 ∧ (x1 < 6 →
    (fX9_isIn x3 1 200 M (fun r_5 =>
      (rg r_5 ∧ (r_5 = 0 →
      Q 0 M) ∧
      (¬ r_5 = 0 →
      (fX9_isIn x4 x3 200 M (fun r_9 =>
        (rg r_9 ∧ (r_9 = 0 →
        Q 0 M) ∧
        (¬ r_9 = 0 →
        (fX9_isIn x5 1 16 M (fun r_13 =>
          (rg r_13 ∧ (r_13 = 0 →
          Q 0 M) ∧
          (¬ r_13 = 0 →
          (fX9_isIn x6 0 8 M (fun r_17 =>
            (rg r_17 ∧ (r_17 = 0 →
            Q 0 M) ∧
            (¬ r_17 = 0 →
            (fX9_isIn x7 0 255 M (fun r_21 =>
              (rg r_21 ∧ (r_21 = 0 →
              Q 0 M) ∧
              (¬ r_21 = 0 →
              ((0 ≤ x1 ∧ x1 < 6) ∧ ∀ M_26, M_26 = gSt M 4 x1 x2 → ((0 ≤ x1 ∧ x1 < 6) ∧ ∀ M_28, M_28 = gSt M_26 5 x1 x3 → ((0 ≤ x1 ∧ x1 < 6) ∧ ∀ M_30, M_30 = gSt M_28 6 x1 x4 → ((0 ≤ x1 ∧ x1 < 6) ∧ ∀ M_32, M_32 = gSt M_30 7 x1 x5 → ((0 ≤ x1 ∧ x1 < 6) ∧ ∀ M_34, M_34 = gSt M_32 8 x1 x6 → ((0 ≤ x1 ∧ x1 < 6) ∧ ∀ M_36, M_36 = gSt M_34 9 x1 x7 → Q 1 M_36))))))))))))))))))))))))))) ∧
    (¬ x1 < 6 →
    Q 0 M)))) := h
  refine g_lc (lc' := [some (vr z 0), some (vi x1), some (vi x2), some (vi x3), some (vi x4), some (vi x5), some (vi x6), some (vi x7)]) rfl ?_
  refine g_iload_n hC dX9_rules_0 rfl rfl ?_
  obtain ⟨hr_1, hA, hB⟩ := h
  refine g_ilt hC 67 hr_1 dX9_rules_1 (by decide) (fun hc_2 => ?_) (fun hc_2 => ?_)
  · replace h := hA hc_2
    clear hA hB
    refine g_iconst hC dX9_rules_67 ?_
    exact g_zret hC hR (by decide) dX9_rules_68 h
  · replace h := hB hc_2
    clear hA hB
    refine g_iload_n hC dX9_rules_4 rfl rfl ?_
    refine g_bipush hC dX9_rules_5 (by decide) ?_
    obtain ⟨hr_3, hA, hB⟩ := h
    refine g_cge hC 67 hr_3 (by decide) dX9_rules_7 (by decide) (fun hc_4 => ?_) (fun hc_4 => ?_)
    · replace h := hA hc_4
      clear hA hB
      refine g_iload_n hC dX9_rules_10 rfl rfl ?_
      refine g_iconst hC dX9_rules_11 ?_
      refine g_sipush hC dX9_rules_12 (by decide) ?_
      refine g_calli (g_runS (As := [(vi x3), (vi 1), (vi 200)]) (rest := []) hC rfl (ctX9_isIn hZ  h) (kwX9_isIn (by decide) (by decide)) (wc wd_820) (wc wd_821) rfl (Nat.le_of_ble_eq_true rfl) rfl dX9_rules_15) (fun r_5 M_6 h => ?_)
      obtain ⟨rfl, h⟩ := h
      obtain ⟨hr_7, hA, hB⟩ := h
      refine g_ieq hC 67 hr_7 dX9_rules_18 (by decide) (fun hc_8 => ?_) (fun hc_8 => ?_)
      · replace h := hA hc_8
        clear hA hB
        refine g_iconst hC dX9_rules_67 ?_
        exact g_zret hC hR (by decide) dX9_rules_68 h
      · replace h := hB hc_8
        clear hA hB
        refine g_iload hC dX9_rules_21 rfl ?_
        refine g_iload_n hC dX9_rules_23 rfl rfl ?_
        refine g_sipush hC dX9_rules_24 (by decide) ?_
        refine g_calli (g_runS (As := [(vi x4), (vi x3), (vi 200)]) (rest := []) hC rfl (ctX9_isIn hZ  h) (kwX9_isIn (by decide) (by decide)) (wc wd_820) (wc wd_821) rfl (Nat.le_of_ble_eq_true rfl) rfl dX9_rules_27) (fun r_9 M_10 h => ?_)
        obtain ⟨rfl, h⟩ := h
        obtain ⟨hr_11, hA, hB⟩ := h
        refine g_ieq hC 67 hr_11 dX9_rules_30 (by decide) (fun hc_12 => ?_) (fun hc_12 => ?_)
        · replace h := hA hc_12
          clear hA hB
          refine g_iconst hC dX9_rules_67 ?_
          exact g_zret hC hR (by decide) dX9_rules_68 h
        · replace h := hB hc_12
          clear hA hB
          refine g_iload hC dX9_rules_33 rfl ?_
          refine g_iconst hC dX9_rules_35 ?_
          refine g_bipush hC dX9_rules_36 (by decide) ?_
          refine g_calli (g_runS (As := [(vi x5), (vi 1), (vi 16)]) (rest := []) hC rfl (ctX9_isIn hZ  h) (kwX9_isIn (by decide) (by decide)) (wc wd_820) (wc wd_821) rfl (Nat.le_of_ble_eq_true rfl) rfl dX9_rules_38) (fun r_13 M_14 h => ?_)
          obtain ⟨rfl, h⟩ := h
          obtain ⟨hr_15, hA, hB⟩ := h
          refine g_ieq hC 67 hr_15 dX9_rules_41 (by decide) (fun hc_16 => ?_) (fun hc_16 => ?_)
          · replace h := hA hc_16
            clear hA hB
            refine g_iconst hC dX9_rules_67 ?_
            exact g_zret hC hR (by decide) dX9_rules_68 h
          · replace h := hB hc_16
            clear hA hB
            refine g_iload hC dX9_rules_44 rfl ?_
            refine g_iconst hC dX9_rules_46 ?_
            refine g_bipush hC dX9_rules_47 (by decide) ?_
            refine g_calli (g_runS (As := [(vi x6), (vi 0), (vi 8)]) (rest := []) hC rfl (ctX9_isIn hZ  h) (kwX9_isIn (by decide) (by decide)) (wc wd_820) (wc wd_821) rfl (Nat.le_of_ble_eq_true rfl) rfl dX9_rules_49) (fun r_17 M_18 h => ?_)
            obtain ⟨rfl, h⟩ := h
            obtain ⟨hr_19, hA, hB⟩ := h
            refine g_ieq hC 67 hr_19 dX9_rules_52 (by decide) (fun hc_20 => ?_) (fun hc_20 => ?_)
            · replace h := hA hc_20
              clear hA hB
              refine g_iconst hC dX9_rules_67 ?_
              exact g_zret hC hR (by decide) dX9_rules_68 h
            · replace h := hB hc_20
              clear hA hB
              refine g_iload hC dX9_rules_55 rfl ?_
              refine g_iconst hC dX9_rules_57 ?_
              refine g_sipush hC dX9_rules_58 (by decide) ?_
              refine g_calli (g_runS (As := [(vi x7), (vi 0), (vi 255)]) (rest := []) hC rfl (ctX9_isIn hZ  h) (kwX9_isIn (by decide) (by decide)) (wc wd_820) (wc wd_821) rfl (Nat.le_of_ble_eq_true rfl) rfl dX9_rules_61) (fun r_21 M_22 h => ?_)
              obtain ⟨rfl, h⟩ := h
              obtain ⟨hr_23, hA, hB⟩ := h
              refine g_ine hC 69 hr_23 dX9_rules_64 (by decide) (fun hc_24 => ?_) (fun hc_24 => ?_)
              · replace h := hA hc_24
                clear hA hB
                refine g_iconst hC dX9_rules_67 ?_
                exact g_zret hC hR (by decide) dX9_rules_68 h
              · replace h := hB hc_24
                clear hA hB
                refine g_aload_n hC dX9_rules_69 rfl rfl ?_
                refine g_getr (r := 4) hC rfl (gm_k9 hZ) iwX9 4 (by decide) rfl rfl (wc wd_692) dX9_rules_70 ?_
                refine g_iload_n hC dX9_rules_73 rfl rfl ?_
                refine g_iload_n hC dX9_rules_74 rfl rfl ?_
                obtain ⟨hb_25, h⟩ := h
                obtain ⟨M_26, hM_26⟩ : ∃ M9, M9 = gSt M 4 x1 x2 := ⟨_, rfl⟩
                replace h := h M_26 hM_26
                refine g_iast hC 0 rfl (m_t0 hZ) (by decide) hb_25 dX9_rules_75 hM_26 ?_
                refine g_aload_n hC dX9_rules_76 rfl rfl ?_
                refine g_getr (r := 5) hC rfl (gm_k9 hZ) iwX9 5 (by decide) rfl rfl (wc wd_693) dX9_rules_77 ?_
                refine g_iload_n hC dX9_rules_80 rfl rfl ?_
                refine g_iload_n hC dX9_rules_81 rfl rfl ?_
                obtain ⟨hb_27, h⟩ := h
                obtain ⟨M_28, hM_28⟩ : ∃ M9, M9 = gSt M_26 5 x1 x3 := ⟨_, rfl⟩
                replace h := h M_28 hM_28
                refine g_iast hC 0 rfl (m_t0 hZ) (by decide) hb_27 dX9_rules_82 hM_28 ?_
                refine g_aload_n hC dX9_rules_83 rfl rfl ?_
                refine g_getr (r := 6) hC rfl (gm_k9 hZ) iwX9 6 (by decide) rfl rfl (wc wd_694) dX9_rules_84 ?_
                refine g_iload_n hC dX9_rules_87 rfl rfl ?_
                refine g_iload hC dX9_rules_88 rfl ?_
                obtain ⟨hb_29, h⟩ := h
                obtain ⟨M_30, hM_30⟩ : ∃ M9, M9 = gSt M_28 6 x1 x4 := ⟨_, rfl⟩
                replace h := h M_30 hM_30
                refine g_iast hC 0 rfl (m_t0 hZ) (by decide) hb_29 dX9_rules_90 hM_30 ?_
                refine g_aload_n hC dX9_rules_91 rfl rfl ?_
                refine g_getr (r := 7) hC rfl (gm_k9 hZ) iwX9 7 (by decide) rfl rfl (wc wd_695) dX9_rules_92 ?_
                refine g_iload_n hC dX9_rules_95 rfl rfl ?_
                refine g_iload hC dX9_rules_96 rfl ?_
                obtain ⟨hb_31, h⟩ := h
                obtain ⟨M_32, hM_32⟩ : ∃ M9, M9 = gSt M_30 7 x1 x5 := ⟨_, rfl⟩
                replace h := h M_32 hM_32
                refine g_iast hC 0 rfl (m_t0 hZ) (by decide) hb_31 dX9_rules_98 hM_32 ?_
                refine g_aload_n hC dX9_rules_99 rfl rfl ?_
                refine g_getr (r := 8) hC rfl (gm_k9 hZ) iwX9 8 (by decide) rfl rfl (wc wd_696) dX9_rules_100 ?_
                refine g_iload_n hC dX9_rules_103 rfl rfl ?_
                refine g_iload hC dX9_rules_104 rfl ?_
                obtain ⟨hb_33, h⟩ := h
                obtain ⟨M_34, hM_34⟩ : ∃ M9, M9 = gSt M_32 8 x1 x6 := ⟨_, rfl⟩
                replace h := h M_34 hM_34
                refine g_iast hC 0 rfl (m_t0 hZ) (by decide) hb_33 dX9_rules_106 hM_34 ?_
                refine g_aload_n hC dX9_rules_107 rfl rfl ?_
                refine g_getr (r := 9) hC rfl (gm_k9 hZ) iwX9 9 (by decide) rfl rfl (wc wd_697) dX9_rules_108 ?_
                refine g_iload_n hC dX9_rules_111 rfl rfl ?_
                refine g_iload hC dX9_rules_112 rfl ?_
                obtain ⟨hb_35, h⟩ := h
                obtain ⟨M_36, hM_36⟩ : ∃ M9, M9 = gSt M_34 9 x1 x7 := ⟨_, rfl⟩
                replace h := h M_36 hM_36
                refine g_iast hC 0 rfl (m_t0 hZ) (by decide) hb_35 dX9_rules_114 hM_36 ?_
                refine g_iconst hC dX9_rules_115 ?_
                exact g_zret hC hR (by decide) dX9_rules_116 h
    · replace h := hB hc_4
      clear hA hB
      refine g_iconst hC dX9_rules_67 ?_
      exact g_zret hC hR (by decide) dX9_rules_68 h
abbrev wX9_fixed : List Cond := Cond.code yX9_fixed cX9_fixed 3 (some .boolean) :: gTs
abbrev rmX9_fixed : Room := { frames := 2, cells := 0, slots := 0, locals := 49 }
theorem kwX9_fixed {c0 : Cond} {rm : Room} (h1 : rmX9_fixed.frames + 1 ≤ rm.frames) (h2 : 8 + (3 + 11) + rmX9_fixed.locals ≤ rm.locals) : gCw (c0 :: gTs) rm yX9_fixed cX9_fixed 3 (some .boolean) wX9_fixed rmX9_fixed 2 := gCw_of wd_835 wd_49 h1 h2 (by decide +kernel)
def fX9_fixed (x1 : Int) (x2 : Int) (M : gMem) (Q : Int → gMem → Prop) : Prop :=
  (fX9_rules x1 1 x2 x2 1 0 0 M (fun r_1 M_2 =>
  (r_1 = 0 ∨ r_1 = 1) ∧ Q r_1 M_2))
set_option maxHeartbeats 4000000 in
set_option maxRecDepth 100000 in
theorem ctX9_fixed {l : Launch} {z : gZ} (hZ : gZm z) {x1 : Int} {x2 : Int}  {M : gMem} {Q : Int → gMem → Prop} (h : fX9_fixed x1 x2 M Q) : gMI l z mL yX9_fixed wX9_fixed rmX9_fixed [(vr z 0), (vi x1), (vi x2)] M Q := by
  refine g_metI .boolean (by decide) rfl rfl (gCat_all (And.intro rfl (And.intro rfl (And.intro rfl trivial)))) (Nat.le_of_ble_eq_true rfl) ?_
  intro y hC hR
  replace h : (fX9_rules x1 1 x2 x2 1 0 0 M (fun r_1 M_2 =>
  (r_1 = 0 ∨ r_1 = 1) ∧ Q r_1 M_2)) := h
  refine g_lc (lc' := [some (vr z 0), some (vi x1), some (vi x2)]) rfl ?_
  refine g_aload_n hC dX9_fixed_0 rfl rfl ?_
  refine g_iload_n hC dX9_fixed_1 rfl rfl ?_
  refine g_iconst hC dX9_fixed_2 ?_
  refine g_iload_n hC dX9_fixed_3 rfl rfl ?_
  refine g_iload_n hC dX9_fixed_4 rfl rfl ?_
  refine g_iconst hC dX9_fixed_5 ?_
  refine g_iconst hC dX9_fixed_6 ?_
  refine g_iconst hC dX9_fixed_7 ?_
  refine g_calli (g_runV (As := [(vi x1), (vi 1), (vi x2), (vi x2), (vi 1), (vi 0), (vi 0)]) (rest := []) hC rfl (ctX9_rules hZ  h) rfl (gm_k9 hZ) (kwX9_rules (by decide) (by decide)) rfl (wc wd_836) (wc wd_838) (wc wd_20) rfl (Nat.le_of_ble_eq_true rfl) rfl dX9_fixed_8) (fun r_1 M_2 h => ?_)
  exact g_zret hC hR h.1 dX9_fixed_11 h.2
abbrev wX9_rolling : List Cond := Cond.code yX9_rolling cX9_rolling 8 (some .boolean) :: gTs
abbrev rmX9_rolling : Room := { frames := 2, cells := 0, slots := 0, locals := 49 }
theorem kwX9_rolling {c0 : Cond} {rm : Room} (h1 : rmX9_rolling.frames + 1 ≤ rm.frames) (h2 : 8 + (8 + 11) + rmX9_rolling.locals ≤ rm.locals) : gCw (c0 :: gTs) rm yX9_rolling cX9_rolling 8 (some .boolean) wX9_rolling rmX9_rolling 7 := gCw_of wd_843 wd_49 h1 h2 (by decide +kernel)
def fX9_rolling (x1 : Int) (x2 : Int) (x3 : Int) (x4 : Int) (x5 : Int) (x6 : Int) (x7 : Int) (M : gMem) (Q : Int → gMem → Prop) : Prop :=
  (rg x2 ∧ (x2 = 0 →
  (fX9_rules x1 2 x3 x4 x5 x6 x7 M (fun r_3 M_4 =>
    (r_3 = 0 ∨ r_3 = 1) ∧ Q r_3 M_4))) ∧
  (¬ x2 = 0 →
  (fX9_rules x1 3 x3 x4 x5 x6 x7 M (fun r_5 M_6 =>
    (r_5 = 0 ∨ r_5 = 1) ∧ Q r_5 M_6))))
set_option maxHeartbeats 4000000 in
set_option maxRecDepth 100000 in
theorem ctX9_rolling {l : Launch} {z : gZ} (hZ : gZm z) {x1 : Int} {x2 : Int} {x3 : Int} {x4 : Int} {x5 : Int} {x6 : Int} {x7 : Int}  {M : gMem} {Q : Int → gMem → Prop} (h : fX9_rolling x1 x2 x3 x4 x5 x6 x7 M Q) : gMI l z mL yX9_rolling wX9_rolling rmX9_rolling [(vr z 0), (vi x1), (vi x2), (vi x3), (vi x4), (vi x5), (vi x6), (vi x7)] M Q := by
  refine g_metI .boolean (by decide) rfl rfl (gCat_all (And.intro rfl (And.intro rfl (And.intro rfl (And.intro rfl (And.intro rfl (And.intro rfl (And.intro rfl (And.intro rfl trivial))))))))) (Nat.le_of_ble_eq_true rfl) ?_
  intro y hC hR
  replace h : (rg x2 ∧ (x2 = 0 →
  (fX9_rules x1 2 x3 x4 x5 x6 x7 M (fun r_3 M_4 =>
    (r_3 = 0 ∨ r_3 = 1) ∧ Q r_3 M_4))) ∧
  (¬ x2 = 0 →
  (fX9_rules x1 3 x3 x4 x5 x6 x7 M (fun r_5 M_6 =>
    (r_5 = 0 ∨ r_5 = 1) ∧ Q r_5 M_6)))) := h
  refine g_lc (lc' := [some (vr z 0), some (vi x1), some (vi x2), some (vi x3), some (vi x4), some (vi x5), some (vi x6), some (vi x7)]) rfl ?_
  refine g_aload_n hC dX9_rolling_0 rfl rfl ?_
  refine g_iload_n hC dX9_rolling_1 rfl rfl ?_
  refine g_iload_n hC dX9_rolling_2 rfl rfl ?_
  obtain ⟨hr_1, hA, hB⟩ := h
  refine g_ieq hC 10 hr_1 dX9_rolling_3 (by decide) (fun hc_2 => ?_) (fun hc_2 => ?_)
  · replace h := hA hc_2
    clear hA hB
    refine g_iconst hC dX9_rolling_10 ?_
    refine g_iload_n hC dX9_rolling_11 rfl rfl ?_
    refine g_iload hC dX9_rolling_12 rfl ?_
    refine g_iload hC dX9_rolling_14 rfl ?_
    refine g_iload hC dX9_rolling_16 rfl ?_
    refine g_iload hC dX9_rolling_18 rfl ?_
    refine g_calli (g_runV (As := [(vi x1), (vi 2), (vi x3), (vi x4), (vi x5), (vi x6), (vi x7)]) (rest := []) hC rfl (ctX9_rules hZ  h) rfl (gm_k9 hZ) (kwX9_rules (by decide) (by decide)) rfl (wc wd_836) (wc wd_838) (wc wd_20) rfl (Nat.le_of_ble_eq_true rfl) rfl dX9_rolling_20) (fun r_3 M_4 h => ?_)
    exact g_zret hC hR h.1 dX9_rolling_23 h.2
  · replace h := hB hc_2
    clear hA hB
    refine g_iconst hC dX9_rolling_6 ?_
    refine g_goto hC 11 dX9_rolling_7 (by decide) ?_
    refine g_iload_n hC dX9_rolling_11 rfl rfl ?_
    refine g_iload hC dX9_rolling_12 rfl ?_
    refine g_iload hC dX9_rolling_14 rfl ?_
    refine g_iload hC dX9_rolling_16 rfl ?_
    refine g_iload hC dX9_rolling_18 rfl ?_
    refine g_calli (g_runV (As := [(vi x1), (vi 3), (vi x3), (vi x4), (vi x5), (vi x6), (vi x7)]) (rest := []) hC rfl (ctX9_rules hZ  h) rfl (gm_k9 hZ) (kwX9_rules (by decide) (by decide)) rfl (wc wd_836) (wc wd_838) (wc wd_20) rfl (Nat.le_of_ble_eq_true rfl) rfl dX9_rolling_20) (fun r_5 M_6 h => ?_)
    exact g_zret hC hR h.1 dX9_rolling_23 h.2
abbrev wX9_told : List Cond := Cond.code yX9_told cX9_told 5 (some .boolean) :: gTs
abbrev rmX9_told : Room := { frames := 2, cells := 0, slots := 0, locals := 49 }
theorem kwX9_told {c0 : Cond} {rm : Room} (h1 : rmX9_told.frames + 1 ≤ rm.frames) (h2 : 8 + (5 + 11) + rmX9_told.locals ≤ rm.locals) : gCw (c0 :: gTs) rm yX9_told cX9_told 5 (some .boolean) wX9_told rmX9_told 4 := gCw_of wd_847 wd_49 h1 h2 (by decide +kernel)
def fX9_told (x1 : Int) (x2 : Int) (x3 : Int) (x4 : Int) (M : gMem) (Q : Int → gMem → Prop) : Prop :=
  (fX9_rules x1 4 x2 x3 1 0 x4 M (fun r_1 M_2 =>
  (r_1 = 0 ∨ r_1 = 1) ∧ Q r_1 M_2))
set_option maxHeartbeats 4000000 in
set_option maxRecDepth 100000 in
theorem ctX9_told {l : Launch} {z : gZ} (hZ : gZm z) {x1 : Int} {x2 : Int} {x3 : Int} {x4 : Int}  {M : gMem} {Q : Int → gMem → Prop} (h : fX9_told x1 x2 x3 x4 M Q) : gMI l z mL yX9_told wX9_told rmX9_told [(vr z 0), (vi x1), (vi x2), (vi x3), (vi x4)] M Q := by
  refine g_metI .boolean (by decide) rfl rfl (gCat_all (And.intro rfl (And.intro rfl (And.intro rfl (And.intro rfl (And.intro rfl trivial)))))) (Nat.le_of_ble_eq_true rfl) ?_
  intro y hC hR
  replace h : (fX9_rules x1 4 x2 x3 1 0 x4 M (fun r_1 M_2 =>
  (r_1 = 0 ∨ r_1 = 1) ∧ Q r_1 M_2)) := h
  refine g_lc (lc' := [some (vr z 0), some (vi x1), some (vi x2), some (vi x3), some (vi x4)]) rfl ?_
  refine g_aload_n hC dX9_told_0 rfl rfl ?_
  refine g_iload_n hC dX9_told_1 rfl rfl ?_
  refine g_iconst hC dX9_told_2 ?_
  refine g_iload_n hC dX9_told_3 rfl rfl ?_
  refine g_iload_n hC dX9_told_4 rfl rfl ?_
  refine g_iconst hC dX9_told_5 ?_
  refine g_iconst hC dX9_told_6 ?_
  refine g_iload hC dX9_told_7 rfl ?_
  refine g_calli (g_runV (As := [(vi x1), (vi 4), (vi x2), (vi x3), (vi 1), (vi 0), (vi x4)]) (rest := []) hC rfl (ctX9_rules hZ  h) rfl (gm_k9 hZ) (kwX9_rules (by decide) (by decide)) rfl (wc wd_836) (wc wd_838) (wc wd_20) rfl (Nat.le_of_ble_eq_true rfl) rfl dX9_told_9) (fun r_1 M_2 h => ?_)
  exact g_zret hC hR h.1 dX9_told_12 h.2
abbrev wX9_isRolling : List Cond := Cond.code yX9_isRolling cX9_isRolling 2 (some .boolean) :: gTs
abbrev rmX9_isRolling : Room := { frames := 0, cells := 0, slots := 0, locals := 0 }
theorem kwX9_isRolling {c0 : Cond} {rm : Room} (h1 : rmX9_isRolling.frames + 1 ≤ rm.frames) (h2 : 8 + (2 + 11) + rmX9_isRolling.locals ≤ rm.locals) : gCw (c0 :: gTs) rm yX9_isRolling cX9_isRolling 2 (some .boolean) wX9_isRolling rmX9_isRolling 1 := gCw_of wd_859 wd_49 h1 h2 (by decide +kernel)
def fX9_isRolling (x1 : Int) (M : gMem) (Q : Int → Prop) : Prop :=
  ((0 ≤ x1 ∧ x1 < 6) ∧ (rg (M 4 x1) ∧ ((M 4 x1) = 2 →
  Q 1) ∧
  (¬ (M 4 x1) = 2 →
  ((0 ≤ x1 ∧ x1 < 6) ∧ (rg (M 4 x1) ∧ ((M 4 x1) = 3 →
    Q 1) ∧
    (¬ (M 4 x1) = 3 →
    Q 0))))))
set_option maxHeartbeats 4000000 in
set_option maxRecDepth 100000 in
theorem ctX9_isRolling {l : Launch} {z : gZ} (hZ : gZm z) {x1 : Int}  {M : gMem} {Q : Int → Prop} (h : fX9_isRolling x1 M Q) : gMI l z mL yX9_isRolling wX9_isRolling rmX9_isRolling [(vr z 0), (vi x1)] M (fun r M' => M = M' ∧ Q r) := by
  refine g_metI .boolean (by decide) rfl rfl (gCat_all (And.intro rfl (And.intro rfl trivial))) (Nat.le_of_ble_eq_true rfl) ?_
  intro y hC hR
  replace h : ((0 ≤ x1 ∧ x1 < 6) ∧ (rg (M 4 x1) ∧ ((M 4 x1) = 2 →
  Q 1) ∧
  (¬ (M 4 x1) = 2 →
  ((0 ≤ x1 ∧ x1 < 6) ∧ (rg (M 4 x1) ∧ ((M 4 x1) = 3 →
    Q 1) ∧
    (¬ (M 4 x1) = 3 →
    Q 0)))))) := h
  refine g_lc (lc' := [some (vr z 0), some (vi x1)]) rfl ?_
  refine g_aload_n hC dX9_isRolling_0 rfl rfl ?_
  refine g_getr (r := 4) hC rfl (gm_k9 hZ) iwX9 4 (by decide) rfl rfl (wc wd_692) dX9_isRolling_1 ?_
  refine g_iload_n hC dX9_isRolling_4 rfl rfl ?_
  obtain ⟨hb_1, h⟩ := h
  refine g_iald hC 0 rfl (m_t0 hZ) (by decide) hb_1 dX9_isRolling_5 ?_
  refine g_iconst hC dX9_isRolling_6 ?_
  obtain ⟨hr_2, hA, hB⟩ := h
  refine g_ceq hC 20 hr_2 (by decide) dX9_isRolling_7 (by decide) (fun hc_3 => ?_) (fun hc_3 => ?_)
  · replace h := hA hc_3
    clear hA hB
    refine g_iconst hC dX9_isRolling_20 ?_
    refine g_goto hC 25 dX9_isRolling_21 (by decide) ?_
    exact g_zret hC hR (by decide) dX9_isRolling_25 ⟨rfl, h⟩
  · replace h := hB hc_3
    clear hA hB
    refine g_aload_n hC dX9_isRolling_10 rfl rfl ?_
    refine g_getr (r := 4) hC rfl (gm_k9 hZ) iwX9 4 (by decide) rfl rfl (wc wd_692) dX9_isRolling_11 ?_
    refine g_iload_n hC dX9_isRolling_14 rfl rfl ?_
    obtain ⟨hb_4, h⟩ := h
    refine g_iald hC 0 rfl (m_t0 hZ) (by decide) hb_4 dX9_isRolling_15 ?_
    refine g_iconst hC dX9_isRolling_16 ?_
    obtain ⟨hr_5, hA, hB⟩ := h
    refine g_cne hC 24 hr_5 (by decide) dX9_isRolling_17 (by decide) (fun hc_6 => ?_) (fun hc_6 => ?_)
    · replace h := hA hc_6
      clear hA hB
      refine g_iconst hC dX9_isRolling_20 ?_
      refine g_goto hC 25 dX9_isRolling_21 (by decide) ?_
      exact g_zret hC hR (by decide) dX9_isRolling_25 ⟨rfl, h⟩
    · replace h := hB hc_6
      clear hA hB
      refine g_iconst hC dX9_isRolling_24 ?_
      exact g_zret hC hR (by decide) dX9_isRolling_25 ⟨rfl, h⟩
abbrev wX9_sumAt : List Cond := Cond.code yX9_sumAt cX9_sumAt 7 (some .int) :: gTs
abbrev rmX9_sumAt : Room := { frames := 0, cells := 0, slots := 0, locals := 0 }
theorem kwX9_sumAt {c0 : Cond} {rm : Room} (h1 : rmX9_sumAt.frames + 1 ≤ rm.frames) (h2 : 8 + (7 + 11) + rmX9_sumAt.locals ≤ rm.locals) : gCw (c0 :: gTs) rm yX9_sumAt cX9_sumAt 7 (some .int) wX9_sumAt rmX9_sumAt 3 := gCw_of wd_863 wd_49 h1 h2 (by decide +kernel)
def fX9_sumAt_L9  (x1 : Int) (x2 : Int) (x3 : Int) (M : gMem) : Nat → Int → Int → Int → (Int → Prop) → Prop
  | 0, _, _, _, _ => False
  | n9 + 1, x4, x5, x6, Q =>
    ((0 ≤ x1 ∧ x1 < 6) ∧ (rg x6 ∧ rg (M 7 x1) ∧ (x6 < (M 7 x1) →
    (rg x6 ∧ rg x3 ∧ (x3 < x6 →
      Q x4) ∧
      (¬ x3 < x6 →
      ((0 ≤ (((600 * x2) + x3) - x6) ∧ (((600 * x2) + x3) - x6) < 4800) ∧ (rg (x4 + (((M 2 (((600 * x2) + x3) - x6)) + 1) * x5)) ∧ (rg (x5 * 31) ∧ fX9_sumAt_L9 x1 x2 x3 M n9 (Int.tmod (x4 + (((M 2 (((600 * x2) + x3) - x6)) + 1) * x5)) 65536) (Int.tmod (x5 * 31) 65536) (x6 + 1) Q)))))) ∧
    (¬ x6 < (M 7 x1) →
    Q x4)))
set_option maxHeartbeats 4000000 in
set_option maxRecDepth 100000 in
theorem ctX9_sumAt_L9 {y : gY} {z : gZ} {l : Launch} {x1 : Int} {x2 : Int} {x3 : Int} {M : gMem} {Q : Int → Prop}  (hC : gC y z l cX9_sumAt RX9 7 wX9_sumAt rmX9_sumAt) (hR : gRI y z mL .int (fun r M' => M = M' ∧ Q r)) (hZ : gZm z)  :
    ∀ (n : Nat) (x4 : Int) (x5 : Int) (x6 : Int), fX9_sumAt_L9 x1 x2 x3 M n x4 x5 x6 Q → gW y z mL 9 [some (vr z 0), some (vi x1), some (vi x2), some (vi x3), some (vi x4), some (vi x5), some (vi x6)] [] M := by
  intro n
  induction n with
  | zero => intro x4 x5 x6 h; exact False.elim h
  | succ n9 ih =>
    intro x4 x5 x6 h
    replace h : ((0 ≤ x1 ∧ x1 < 6) ∧ (rg x6 ∧ rg (M 7 x1) ∧ (x6 < (M 7 x1) →
    (rg x6 ∧ rg x3 ∧ (x3 < x6 →
      Q x4) ∧
      (¬ x3 < x6 →
      ((0 ≤ (((600 * x2) + x3) - x6) ∧ (((600 * x2) + x3) - x6) < 4800) ∧ (rg (x4 + (((M 2 (((600 * x2) + x3) - x6)) + 1) * x5)) ∧ (rg (x5 * 31) ∧ fX9_sumAt_L9 x1 x2 x3 M n9 (Int.tmod (x4 + (((M 2 (((600 * x2) + x3) - x6)) + 1) * x5)) 65536) (Int.tmod (x5 * 31) 65536) (x6 + 1) Q)))))) ∧
    (¬ x6 < (M 7 x1) →
    Q x4))) := h
    refine g_iload hC dX9_sumAt_9 rfl ?_
    refine g_aload_n hC dX9_sumAt_11 rfl rfl ?_
    refine g_getr (r := 7) hC rfl (gm_k9 hZ) iwX9 7 (by decide) rfl rfl (wc wd_695) dX9_sumAt_12 ?_
    refine g_iload_n hC dX9_sumAt_15 rfl rfl ?_
    obtain ⟨hb_1, h⟩ := h
    refine g_iald hC 0 rfl (m_t0 hZ) (by decide) hb_1 dX9_sumAt_16 ?_
    obtain ⟨hr_2, hr_3, hA, hB⟩ := h
    refine g_cge hC 70 hr_2 hr_3 dX9_sumAt_17 (by decide) (fun hc_4 => ?_) (fun hc_4 => ?_)
    · replace h := hA hc_4
      clear hA hB
      refine g_iload hC dX9_sumAt_20 rfl ?_
      refine g_iload_n hC dX9_sumAt_22 rfl rfl ?_
      obtain ⟨hr_5, hr_6, hA, hB⟩ := h
      refine g_cgt hC 70 hr_5 hr_6 dX9_sumAt_23 (by decide) (fun hc_7 => ?_) (fun hc_7 => ?_)
      · replace h := hA hc_7
        clear hA hB
        refine g_iload hC dX9_sumAt_70 rfl ?_
        exact g_iret hC hR dX9_sumAt_72 ⟨rfl, h⟩
      · replace h := hB hc_7
        clear hA hB
        refine g_iload hC dX9_sumAt_26 rfl ?_
        refine g_aload_n hC dX9_sumAt_28 rfl rfl ?_
        refine g_getr (r := 2) hC rfl (gm_k9 hZ) iwX9 1 (by decide) rfl rfl (wc wd_689) dX9_sumAt_29 ?_
        refine g_sipush hC dX9_sumAt_32 (by decide) ?_
        refine g_iload_n hC dX9_sumAt_35 rfl rfl ?_
        refine g_imul hC dX9_sumAt_36 ?_
        refine g_iload_n hC dX9_sumAt_37 rfl rfl ?_
        refine g_iadd hC dX9_sumAt_38 ?_
        refine g_iload hC dX9_sumAt_39 rfl ?_
        refine g_isub hC dX9_sumAt_41 ?_
        obtain ⟨hb_8, h⟩ := h
        refine g_iald hC 0 rfl (m_t0 hZ) (by decide) hb_8 dX9_sumAt_42 ?_
        refine g_iconst hC dX9_sumAt_43 ?_
        refine g_iadd hC dX9_sumAt_44 ?_
        refine g_iload hC dX9_sumAt_45 rfl ?_
        refine g_imul hC dX9_sumAt_47 ?_
        refine g_iadd hC dX9_sumAt_48 ?_
        refine g_ldc hC (n := 65536) dX9_sumAt_49 (wc wd_864) (by decide) ?_
        obtain ⟨hr_9, h⟩ := h
        refine g_irem hC hr_9 (by decide) (by decide) dX9_sumAt_51 ?_
        refine g_istore2 (lc' := [some (vr z 0), some (vi x1), some (vi x2), some (vi x3), some (vi (Int.tmod (x4 + (((M 2 (((600 * x2) + x3) - x6)) + 1) * x5)) 65536)), some (vi x5), some (vi x6)]) hC dX9_sumAt_52 (Nat.le_of_ble_eq_true rfl) rfl ?_
        refine g_iload hC dX9_sumAt_54 rfl ?_
        refine g_bipush hC dX9_sumAt_56 (by decide) ?_
        refine g_imul hC dX9_sumAt_58 ?_
        refine g_ldc hC (n := 65536) dX9_sumAt_59 (wc wd_864) (by decide) ?_
        obtain ⟨hr_10, h⟩ := h
        refine g_irem hC hr_10 (by decide) (by decide) dX9_sumAt_61 ?_
        refine g_istore2 (lc' := [some (vr z 0), some (vi x1), some (vi x2), some (vi x3), some (vi (Int.tmod (x4 + (((M 2 (((600 * x2) + x3) - x6)) + 1) * x5)) 65536)), some (vi (Int.tmod (x5 * 31) 65536)), some (vi x6)]) hC dX9_sumAt_62 (Nat.le_of_ble_eq_true rfl) rfl ?_
        refine g_iinc2 (lc' := [some (vr z 0), some (vi x1), some (vi x2), some (vi x3), some (vi (Int.tmod (x4 + (((M 2 (((600 * x2) + x3) - x6)) + 1) * x5)) 65536)), some (vi (Int.tmod (x5 * 31) 65536)), some (vi (x6 + 1))]) hC dX9_sumAt_64 rfl rfl ?_
        refine g_goto hC 9 dX9_sumAt_67 (by decide) ?_
        exact g_subk (ih (Int.tmod (x4 + (((M 2 (((600 * x2) + x3) - x6)) + 1) * x5)) 65536) (Int.tmod (x5 * 31) 65536) (x6 + 1) h) (And.intro rfl (And.intro rfl (And.intro rfl (And.intro rfl (And.intro rfl (And.intro rfl (And.intro rfl trivial)))))))
    · replace h := hB hc_4
      clear hA hB
      refine g_iload hC dX9_sumAt_70 rfl ?_
      exact g_iret hC hR dX9_sumAt_72 ⟨rfl, h⟩
def fX9_sumAt (x1 : Int) (x2 : Int) (x3 : Int) (M : gMem) (Q : Int → Prop) : Prop :=
  ∃ n_11, fX9_sumAt_L9 x1 x2 x3 M n_11 0 1 0 Q
set_option maxHeartbeats 4000000 in
set_option maxRecDepth 100000 in
theorem ctX9_sumAt {l : Launch} {z : gZ} (hZ : gZm z) {x1 : Int} {x2 : Int} {x3 : Int}  {M : gMem} {Q : Int → Prop} (h : fX9_sumAt x1 x2 x3 M Q) : gMI l z mL yX9_sumAt wX9_sumAt rmX9_sumAt [(vr z 0), (vi x1), (vi x2), (vi x3)] M (fun r M' => M = M' ∧ Q r) := by
  refine g_metI .int (by decide) rfl rfl (gCat_all (And.intro rfl (And.intro rfl (And.intro rfl (And.intro rfl trivial))))) (Nat.le_of_ble_eq_true rfl) ?_
  intro y hC hR
  replace h : ∃ n_11, fX9_sumAt_L9 x1 x2 x3 M n_11 0 1 0 Q := h
  refine g_lc (lc' := [some (vr z 0), some (vi x1), some (vi x2), some (vi x3), none, none, none]) rfl ?_
  refine g_iconst hC dX9_sumAt_0 ?_
  refine g_istore2 (lc' := [some (vr z 0), some (vi x1), some (vi x2), some (vi x3), some (vi 0), none, none]) hC dX9_sumAt_1 (Nat.le_of_ble_eq_true rfl) rfl ?_
  refine g_iconst hC dX9_sumAt_3 ?_
  refine g_istore2 (lc' := [some (vr z 0), some (vi x1), some (vi x2), some (vi x3), some (vi 0), some (vi 1), none]) hC dX9_sumAt_4 (Nat.le_of_ble_eq_true rfl) rfl ?_
  refine g_iconst hC dX9_sumAt_6 ?_
  refine g_istore2 (lc' := [some (vr z 0), some (vi x1), some (vi x2), some (vi x3), some (vi 0), some (vi 1), some (vi 0)]) hC dX9_sumAt_7 (Nat.le_of_ble_eq_true rfl) rfl ?_
  obtain ⟨n_11, h⟩ := h
  refine g_subk (ctX9_sumAt_L9 hC hR hZ  n_11 0 1 0 h) (And.intro rfl (And.intro rfl (And.intro rfl (And.intro rfl (And.intro rfl (And.intro rfl (And.intro rfl trivial)))))))
abbrev wX9_isSign : List Cond := Cond.code yX9_isSign cX9_isSign 4 (some .boolean) :: gTs
abbrev rmX9_isSign : Room := { frames := 0, cells := 0, slots := 0, locals := 0 }
theorem kwX9_isSign {c0 : Cond} {rm : Room} (h1 : rmX9_isSign.frames + 1 ≤ rm.frames) (h2 : 8 + (4 + 11) + rmX9_isSign.locals ≤ rm.locals) : gCw (c0 :: gTs) rm yX9_isSign cX9_isSign 4 (some .boolean) wX9_isSign rmX9_isSign 3 := gCw_of wd_880 wd_49 h1 h2 (by decide +kernel)
def fX9_isSign (x1 : Int) (x2 : Int) (x3 : Int) (M : gMem) (Q : Int → Prop) : Prop :=
  (rg x1 ∧ ((0 ≤ x3 ∧ x3 < 32) ∧ (rg ((shr x1 4) - x2) ∧ rg (shl 1 x3) ∧ (shl 1 x3) ≠ 0 ∧ (rg (Int.tmod ((shr x1 4) - x2) (shl 1 x3)) ∧ ((Int.tmod ((shr x1 4) - x2) (shl 1 x3)) = 0 →
  Q 1) ∧
  (¬ (Int.tmod ((shr x1 4) - x2) (shl 1 x3)) = 0 →
  Q 0)))))
set_option maxHeartbeats 4000000 in
set_option maxRecDepth 100000 in
theorem ctX9_isSign {l : Launch} {z : gZ} (hZ : gZm z) {x1 : Int} {x2 : Int} {x3 : Int}  {M : gMem} {Q : Int → Prop} (h : fX9_isSign x1 x2 x3 M Q) : gMI l z mL yX9_isSign wX9_isSign rmX9_isSign [(vr z 0), (vi x1), (vi x2), (vi x3)] M (fun r M' => M = M' ∧ Q r) := by
  refine g_metI .boolean (by decide) rfl rfl (gCat_all (And.intro rfl (And.intro rfl (And.intro rfl (And.intro rfl trivial))))) (Nat.le_of_ble_eq_true rfl) ?_
  intro y hC hR
  replace h : (rg x1 ∧ ((0 ≤ x3 ∧ x3 < 32) ∧ (rg ((shr x1 4) - x2) ∧ rg (shl 1 x3) ∧ (shl 1 x3) ≠ 0 ∧ (rg (Int.tmod ((shr x1 4) - x2) (shl 1 x3)) ∧ ((Int.tmod ((shr x1 4) - x2) (shl 1 x3)) = 0 →
  Q 1) ∧
  (¬ (Int.tmod ((shr x1 4) - x2) (shl 1 x3)) = 0 →
  Q 0))))) := h
  refine g_lc (lc' := [some (vr z 0), some (vi x1), some (vi x2), some (vi x3)]) rfl ?_
  refine g_iload_n hC dX9_isSign_0 rfl rfl ?_
  refine g_iconst hC dX9_isSign_1 ?_
  obtain ⟨hr_1, h⟩ := h
  refine g_ishr hC hr_1 (by decide) dX9_isSign_2 ?_
  refine g_iload_n hC dX9_isSign_3 rfl rfl ?_
  refine g_isub hC dX9_isSign_4 ?_
  refine g_iconst hC dX9_isSign_5 ?_
  refine g_iload_n hC dX9_isSign_6 rfl rfl ?_
  obtain ⟨hr_2, h⟩ := h
  refine g_ishl hC hr_2 dX9_isSign_7 ?_
  obtain ⟨hr_3, hr_4, hr_5, h⟩ := h
  refine g_irem hC hr_3 hr_4 hr_5 dX9_isSign_8 ?_
  obtain ⟨hr_6, hA, hB⟩ := h
  refine g_ine hC 16 hr_6 dX9_isSign_9 (by decide) (fun hc_7 => ?_) (fun hc_7 => ?_)
  · replace h := hA hc_7
    clear hA hB
    refine g_iconst hC dX9_isSign_12 ?_
    refine g_goto hC 17 dX9_isSign_13 (by decide) ?_
    exact g_zret hC hR (by decide) dX9_isSign_17 ⟨rfl, h⟩
  · replace h := hB hc_7
    clear hA hB
    refine g_iconst hC dX9_isSign_16 ?_
    exact g_zret hC hR (by decide) dX9_isSign_17 ⟨rfl, h⟩
abbrev wX9_sum : List Cond := Cond.code yX9_sum cX9_sum 4 (some .int) :: gTs
abbrev rmX9_sum : Room := { frames := 1, cells := 0, slots := 0, locals := 26 }
theorem kwX9_sum {c0 : Cond} {rm : Room} (h1 : rmX9_sum.frames + 1 ≤ rm.frames) (h2 : 8 + (4 + 11) + rmX9_sum.locals ≤ rm.locals) : gCw (c0 :: gTs) rm yX9_sum cX9_sum 4 (some .int) wX9_sum rmX9_sum 3 := gCw_of wd_851 wd_49 h1 h2 (by decide +kernel)
def fX9_sum (x1 : Int) (x2 : Int) (x3 : Int) (M : gMem) (Q : Int → Prop) : Prop :=
  (fX9_isRule x1 M (fun r_1 =>
  (rg r_1 ∧ (r_1 = 0 →
  Q (-1)) ∧
  (¬ r_1 = 0 →
  (fX9_isRolling x1 M (fun r_5 =>
    (rg r_5 ∧ (r_5 = 0 →
    Q (-1)) ∧
    (¬ r_5 = 0 →
    (fX9_isFile x2 M (fun r_9 =>
      (rg r_9 ∧ (r_9 = 0 →
      Q (-1)) ∧
      (¬ r_9 = 0 →
      (rg x3 ∧ (x3 < 0 →
        Q (-1)) ∧
        (¬ x3 < 0 →
        ((0 ≤ x2 ∧ x2 < 8) ∧ (rg x3 ∧ rg (M 1 x2) ∧ (x3 < (M 1 x2) →
          (fX9_sumAt x1 x2 x3 M (fun r_19 =>
            Q r_19))) ∧
          (¬ x3 < (M 1 x2) →
          Q (-1))))))))))))))))))
set_option maxHeartbeats 4000000 in
set_option maxRecDepth 100000 in
theorem ctX9_sum {l : Launch} {z : gZ} (hZ : gZm z) {x1 : Int} {x2 : Int} {x3 : Int}  {M : gMem} {Q : Int → Prop} (h : fX9_sum x1 x2 x3 M Q) : gMI l z mL yX9_sum wX9_sum rmX9_sum [(vr z 0), (vi x1), (vi x2), (vi x3)] M (fun r M' => M = M' ∧ Q r) := by
  refine g_metI .int (by decide) rfl rfl (gCat_all (And.intro rfl (And.intro rfl (And.intro rfl (And.intro rfl trivial))))) (Nat.le_of_ble_eq_true rfl) ?_
  intro y hC hR
  replace h : (fX9_isRule x1 M (fun r_1 =>
  (rg r_1 ∧ (r_1 = 0 →
  Q (-1)) ∧
  (¬ r_1 = 0 →
  (fX9_isRolling x1 M (fun r_5 =>
    (rg r_5 ∧ (r_5 = 0 →
    Q (-1)) ∧
    (¬ r_5 = 0 →
    (fX9_isFile x2 M (fun r_9 =>
      (rg r_9 ∧ (r_9 = 0 →
      Q (-1)) ∧
      (¬ r_9 = 0 →
      (rg x3 ∧ (x3 < 0 →
        Q (-1)) ∧
        (¬ x3 < 0 →
        ((0 ≤ x2 ∧ x2 < 8) ∧ (rg x3 ∧ rg (M 1 x2) ∧ (x3 < (M 1 x2) →
          (fX9_sumAt x1 x2 x3 M (fun r_19 =>
            Q r_19))) ∧
          (¬ x3 < (M 1 x2) →
          Q (-1)))))))))))))))))) := h
  refine g_lc (lc' := [some (vr z 0), some (vi x1), some (vi x2), some (vi x3)]) rfl ?_
  refine g_aload_n hC dX9_sum_0 rfl rfl ?_
  refine g_iload_n hC dX9_sum_1 rfl rfl ?_
  refine g_calli (g_runV (As := [(vi x1)]) (rest := []) hC rfl (ctX9_isRule hZ  h) rfl (gm_k9 hZ) (kwX9_isRule (by decide) (by decide)) rfl (wc wd_852) (wc wd_854) (wc wd_21) rfl (Nat.le_of_ble_eq_true rfl) rfl dX9_sum_2) (fun r_1 M_2 h => ?_)
  obtain ⟨rfl, h⟩ := h
  obtain ⟨hr_3, hA, hB⟩ := h
  refine g_ieq hC 47 hr_3 dX9_sum_5 (by decide) (fun hc_4 => ?_) (fun hc_4 => ?_)
  · replace h := hA hc_4
    clear hA hB
    refine g_iconst hC dX9_sum_47 ?_
    exact g_iret hC hR dX9_sum_48 ⟨rfl, h⟩
  · replace h := hB hc_4
    clear hA hB
    refine g_aload_n hC dX9_sum_8 rfl rfl ?_
    refine g_iload_n hC dX9_sum_9 rfl rfl ?_
    refine g_calli (g_runV (As := [(vi x1)]) (rest := []) hC rfl (ctX9_isRolling hZ  h) rfl (gm_k9 hZ) (kwX9_isRolling (by decide) (by decide)) rfl (wc wd_856) (wc wd_858) (wc wd_22) rfl (Nat.le_of_ble_eq_true rfl) rfl dX9_sum_10) (fun r_5 M_6 h => ?_)
    obtain ⟨rfl, h⟩ := h
    obtain ⟨hr_7, hA, hB⟩ := h
    refine g_ieq hC 47 hr_7 dX9_sum_13 (by decide) (fun hc_8 => ?_) (fun hc_8 => ?_)
    · replace h := hA hc_8
      clear hA hB
      refine g_iconst hC dX9_sum_47 ?_
      exact g_iret hC hR dX9_sum_48 ⟨rfl, h⟩
    · replace h := hB hc_8
      clear hA hB
      refine g_iload_n hC dX9_sum_16 rfl rfl ?_
      refine g_calli (g_runS (As := [(vi x2)]) (rest := []) hC rfl (ctX9_isFile hZ  h) (kwX9_isFile (by decide) (by decide)) (wc wd_813) (wc wd_814) rfl (Nat.le_of_ble_eq_true rfl) rfl dX9_sum_17) (fun r_9 M_10 h => ?_)
      obtain ⟨rfl, h⟩ := h
      obtain ⟨hr_11, hA, hB⟩ := h
      refine g_ieq hC 47 hr_11 dX9_sum_20 (by decide) (fun hc_12 => ?_) (fun hc_12 => ?_)
      · replace h := hA hc_12
        clear hA hB
        refine g_iconst hC dX9_sum_47 ?_
        exact g_iret hC hR dX9_sum_48 ⟨rfl, h⟩
      · replace h := hB hc_12
        clear hA hB
        refine g_iload_n hC dX9_sum_23 rfl rfl ?_
        obtain ⟨hr_13, hA, hB⟩ := h
        refine g_ilt hC 47 hr_13 dX9_sum_24 (by decide) (fun hc_14 => ?_) (fun hc_14 => ?_)
        · replace h := hA hc_14
          clear hA hB
          refine g_iconst hC dX9_sum_47 ?_
          exact g_iret hC hR dX9_sum_48 ⟨rfl, h⟩
        · replace h := hB hc_14
          clear hA hB
          refine g_iload_n hC dX9_sum_27 rfl rfl ?_
          refine g_aload_n hC dX9_sum_28 rfl rfl ?_
          refine g_getr (r := 1) hC rfl (gm_k9 hZ) iwX9 0 (by decide) rfl rfl (wc wd_688) dX9_sum_29 ?_
          refine g_iload_n hC dX9_sum_32 rfl rfl ?_
          obtain ⟨hb_15, h⟩ := h
          refine g_iald hC 0 rfl (m_t0 hZ) (by decide) hb_15 dX9_sum_33 ?_
          obtain ⟨hr_16, hr_17, hA, hB⟩ := h
          refine g_cge hC 47 hr_16 hr_17 dX9_sum_34 (by decide) (fun hc_18 => ?_) (fun hc_18 => ?_)
          · replace h := hA hc_18
            clear hA hB
            refine g_aload_n hC dX9_sum_37 rfl rfl ?_
            refine g_iload_n hC dX9_sum_38 rfl rfl ?_
            refine g_iload_n hC dX9_sum_39 rfl rfl ?_
            refine g_iload_n hC dX9_sum_40 rfl rfl ?_
            refine g_calli (g_runV (As := [(vi x1), (vi x2), (vi x3)]) (rest := []) hC rfl (ctX9_sumAt hZ  h) rfl (gm_k9 hZ) (kwX9_sumAt (by decide) (by decide)) rfl (wc wd_860) (wc wd_862) (wc wd_23) rfl (Nat.le_of_ble_eq_true rfl) rfl dX9_sum_41) (fun r_19 M_20 h => ?_)
            obtain ⟨rfl, h⟩ := h
            refine g_goto hC 48 dX9_sum_44 (by decide) ?_
            exact g_iret hC hR dX9_sum_48 ⟨rfl, h⟩
          · replace h := hB hc_18
            clear hA hB
            refine g_iconst hC dX9_sum_47 ?_
            exact g_iret hC hR dX9_sum_48 ⟨rfl, h⟩
abbrev wX9_endOf : List Cond := Cond.code yX9_endOf cX9_endOf 8 (some .int) :: gTs
abbrev rmX9_endOf : Room := { frames := 1, cells := 0, slots := 0, locals := 26 }
theorem kwX9_endOf {c0 : Cond} {rm : Room} (h1 : rmX9_endOf.frames + 1 ≤ rm.frames) (h2 : 8 + (8 + 11) + rmX9_endOf.locals ≤ rm.locals) : gCw (c0 :: gTs) rm yX9_endOf cX9_endOf 8 (some .int) wX9_endOf rmX9_endOf 3 := gCw_of wd_876 wd_49 h1 h2 (by decide +kernel)
def fX9_endOf_J173  (x1 : Int) (x2 : Int) (x3 : Int) (M : gMem) (x4 : Int) (x5 : Int) (x6 : Int) (s0 : Int) (s1 : Int) (s2 : Int) (K6 : Int → Int → Prop) (Q : Int → Prop) : Prop :=
  (fX9_isSign s2 s1 s0 M (fun r_38 =>
  (rg r_38 ∧ (r_38 = 0 →
  K6 x4 (x5 + 1)) ∧
  (¬ r_38 = 0 →
  K6 (x6 + 1) (x5 + 1)))))
set_option maxHeartbeats 4000000 in
set_option maxRecDepth 100000 in
theorem ctX9_endOf_J173 {y : gY} {z : gZ} {l : Launch}  {x1 : Int} {x2 : Int} {x3 : Int} {M : gMem} {Q : Int → Prop} {K6 : Int → Int → Prop} (hC : gC y z l cX9_endOf RX9 8 wX9_endOf rmX9_endOf) (hR : gRI y z mL .int (fun r M' => M = M' ∧ Q r)) (hZ : gZm z)  (hK6 : ∀ (x4 : Int) (x5 : Int), K6 x4 x5 → gW y z mL 6 [some (vr z 0), some (vi x1), some (vi x2), some (vi x3), some (vi x4), some (vi x5), none, none] [] M) :
    ∀ (x4 : Int) (x5 : Int) (x6 : Int) (s0 : Int) (s1 : Int) (s2 : Int), fX9_endOf_J173 x1 x2 x3 M x4 x5 x6 s0 s1 s2 K6 Q → gW y z mL 173 [some (vr z 0), some (vi x1), some (vi x2), some (vi x3), some (vi x4), some (vi x5), some (vi x6), none] [(vi s0), (vi s1), (vi s2), (vr z 0)] M := by
  intro x4 x5 x6 s0 s1 s2 h
  replace h : (fX9_isSign s2 s1 s0 M (fun r_38 =>
  (rg r_38 ∧ (r_38 = 0 →
  K6 x4 (x5 + 1)) ∧
  (¬ r_38 = 0 →
  K6 (x6 + 1) (x5 + 1))))) := h
  refine g_calli (g_runV (As := [(vi s2), (vi s1), (vi s0)]) (rest := []) hC rfl (ctX9_isSign hZ  h) rfl (gm_k9 hZ) (kwX9_isSign (by decide) (by decide)) rfl (wc wd_877) (wc wd_879) (wc wd_26) rfl (Nat.le_of_ble_eq_true rfl) rfl dX9_endOf_173) (fun r_38 M_39 h => ?_)
  obtain ⟨rfl, h⟩ := h
  obtain ⟨hr_40, hA, hB⟩ := h
  refine g_ieq hC 185 hr_40 dX9_endOf_176 (by decide) (fun hc_41 => ?_) (fun hc_41 => ?_)
  · replace h := hA hc_41
    clear hA hB
    refine g_iinc2 (lc' := [some (vr z 0), some (vi x1), some (vi x2), some (vi x3), some (vi x4), some (vi (x5 + 1)), some (vi x6), none]) hC dX9_endOf_185 rfl rfl ?_
    refine g_goto hC 6 dX9_endOf_188 (by decide) ?_
    exact g_subk (hK6 x4 (x5 + 1) h) (And.intro rfl (And.intro rfl (And.intro rfl (And.intro rfl (And.intro rfl (And.intro rfl trivial))))))
  · replace h := hB hc_41
    clear hA hB
    refine g_iload hC dX9_endOf_179 rfl ?_
    refine g_iconst hC dX9_endOf_181 ?_
    refine g_iadd hC dX9_endOf_182 ?_
    refine g_istore2 (lc' := [some (vr z 0), some (vi x1), some (vi x2), some (vi x3), some (vi (x6 + 1)), some (vi x5), some (vi x6), none]) hC dX9_endOf_183 (Nat.le_of_ble_eq_true rfl) rfl ?_
    refine g_iinc2 (lc' := [some (vr z 0), some (vi x1), some (vi x2), some (vi x3), some (vi (x6 + 1)), some (vi (x5 + 1)), some (vi x6), none]) hC dX9_endOf_185 rfl rfl ?_
    refine g_goto hC 6 dX9_endOf_188 (by decide) ?_
    exact g_subk (hK6 (x6 + 1) (x5 + 1) h) (And.intro rfl (And.intro rfl (And.intro rfl (And.intro rfl (And.intro rfl (And.intro rfl trivial))))))
def fX9_endOf_J96  (x1 : Int) (x2 : Int) (x3 : Int) (M : gMem) (x4 : Int) (x5 : Int) (x6 : Int) (K6 : Int → Int → Prop) (K138 : Int → Prop) (Q : Int → Prop) : Prop :=
  (fX9_isRolling x1 M (fun r_21 =>
  (rg r_21 ∧ (r_21 = 0 →
  K6 x4 (x5 + 1)) ∧
  (¬ r_21 = 0 →
  (fX9_sumAt x1 x2 x6 M (fun r_25 =>
    ((0 ≤ x1 ∧ x1 < 6) ∧ ((0 ≤ x1 ∧ x1 < 6) ∧ (fX9_isSign r_25 (M 9 x1) (M 8 x1) M (fun r_29 =>
    (rg r_29 ∧ (r_29 = 0 →
    ((0 ≤ x1 ∧ x1 < 6) ∧ ((0 ≤ x1 ∧ x1 < 6) ∧ (rg (M 8 x1) ∧ (0 < (M 8 x1) →
      ((0 ≤ x1 ∧ x1 < 6) ∧ fX9_endOf_J173 x1 x2 x3 M x4 x5 x6 ((M 8 x1) - 1) (M 9 x1) r_25 (fun x4_42 x5_43 => K6 x4_42 x5_43) Q)) ∧
      (¬ 0 < (M 8 x1) →
      fX9_endOf_J173 x1 x2 x3 M x4 x5 x6 0 (M 9 x1) r_25 (fun x4_44 x5_45 => K6 x4_44 x5_45) Q))))) ∧
    (¬ r_29 = 0 →
    K138 x6))))))))))))
set_option maxHeartbeats 4000000 in
set_option maxRecDepth 100000 in
theorem ctX9_endOf_J96 {y : gY} {z : gZ} {l : Launch}  {x1 : Int} {x2 : Int} {x3 : Int} {M : gMem} {Q : Int → Prop} {K6 : Int → Int → Prop} {K138 : Int → Prop} (hC : gC y z l cX9_endOf RX9 8 wX9_endOf rmX9_endOf) (hR : gRI y z mL .int (fun r M' => M = M' ∧ Q r)) (hZ : gZm z)  (hK6 : ∀ (x4 : Int) (x5 : Int), K6 x4 x5 → gW y z mL 6 [some (vr z 0), some (vi x1), some (vi x2), some (vi x3), some (vi x4), some (vi x5), none, none] [] M) (hK138 : ∀ (x6 : Int), K138 x6 → gW y z mL 138 [none, none, none, none, none, none, some (vi x6), none] [] M) :
    ∀ (x4 : Int) (x5 : Int) (x6 : Int), fX9_endOf_J96 x1 x2 x3 M x4 x5 x6 K6 K138 Q → gW y z mL 96 [some (vr z 0), some (vi x1), some (vi x2), some (vi x3), some (vi x4), some (vi x5), some (vi x6), none] [] M := by
  intro x4 x5 x6 h
  replace h : (fX9_isRolling x1 M (fun r_21 =>
  (rg r_21 ∧ (r_21 = 0 →
  K6 x4 (x5 + 1)) ∧
  (¬ r_21 = 0 →
  (fX9_sumAt x1 x2 x6 M (fun r_25 =>
    ((0 ≤ x1 ∧ x1 < 6) ∧ ((0 ≤ x1 ∧ x1 < 6) ∧ (fX9_isSign r_25 (M 9 x1) (M 8 x1) M (fun r_29 =>
    (rg r_29 ∧ (r_29 = 0 →
    ((0 ≤ x1 ∧ x1 < 6) ∧ ((0 ≤ x1 ∧ x1 < 6) ∧ (rg (M 8 x1) ∧ (0 < (M 8 x1) →
      ((0 ≤ x1 ∧ x1 < 6) ∧ fX9_endOf_J173 x1 x2 x3 M x4 x5 x6 ((M 8 x1) - 1) (M 9 x1) r_25 (fun x4_42 x5_43 => K6 x4_42 x5_43) Q)) ∧
      (¬ 0 < (M 8 x1) →
      fX9_endOf_J173 x1 x2 x3 M x4 x5 x6 0 (M 9 x1) r_25 (fun x4_44 x5_45 => K6 x4_44 x5_45) Q))))) ∧
    (¬ r_29 = 0 →
    K138 x6)))))))))))) := h
  refine g_aload_n hC dX9_endOf_96 rfl rfl ?_
  refine g_iload_n hC dX9_endOf_97 rfl rfl ?_
  refine g_calli (g_runV (As := [(vi x1)]) (rest := []) hC rfl (ctX9_isRolling hZ  h) rfl (gm_k9 hZ) (kwX9_isRolling (by decide) (by decide)) rfl (wc wd_856) (wc wd_858) (wc wd_22) rfl (Nat.le_of_ble_eq_true rfl) rfl dX9_endOf_98) (fun r_21 M_22 h => ?_)
  obtain ⟨rfl, h⟩ := h
  obtain ⟨hr_23, hA, hB⟩ := h
  refine g_ine hC 107 hr_23 dX9_endOf_101 (by decide) (fun hc_24 => ?_) (fun hc_24 => ?_)
  · replace h := hA hc_24
    clear hA hB
    refine g_goto hC 185 dX9_endOf_104 (by decide) ?_
    refine g_iinc2 (lc' := [some (vr z 0), some (vi x1), some (vi x2), some (vi x3), some (vi x4), some (vi (x5 + 1)), some (vi x6), none]) hC dX9_endOf_185 rfl rfl ?_
    refine g_goto hC 6 dX9_endOf_188 (by decide) ?_
    exact g_subk (hK6 x4 (x5 + 1) h) (And.intro rfl (And.intro rfl (And.intro rfl (And.intro rfl (And.intro rfl (And.intro rfl trivial))))))
  · replace h := hB hc_24
    clear hA hB
    refine g_aload_n hC dX9_endOf_107 rfl rfl ?_
    refine g_iload_n hC dX9_endOf_108 rfl rfl ?_
    refine g_iload_n hC dX9_endOf_109 rfl rfl ?_
    refine g_iload hC dX9_endOf_110 rfl ?_
    refine g_calli (g_runV (As := [(vi x1), (vi x2), (vi x6)]) (rest := []) hC rfl (ctX9_sumAt hZ  h) rfl (gm_k9 hZ) (kwX9_sumAt (by decide) (by decide)) rfl (wc wd_860) (wc wd_862) (wc wd_23) rfl (Nat.le_of_ble_eq_true rfl) rfl dX9_endOf_112) (fun r_25 M_26 h => ?_)
    obtain ⟨rfl, h⟩ := h
    refine g_istore2 (lc' := [some (vr z 0), some (vi x1), some (vi x2), some (vi x3), some (vi x4), some (vi x5), some (vi x6), some (vi r_25)]) hC dX9_endOf_115 (Nat.le_of_ble_eq_true rfl) rfl ?_
    refine g_aload_n hC dX9_endOf_117 rfl rfl ?_
    refine g_iload hC dX9_endOf_118 rfl ?_
    refine g_aload_n hC dX9_endOf_120 rfl rfl ?_
    refine g_getr (r := 9) hC rfl (gm_k9 hZ) iwX9 9 (by decide) rfl rfl (wc wd_697) dX9_endOf_121 ?_
    refine g_iload_n hC dX9_endOf_124 rfl rfl ?_
    obtain ⟨hb_27, h⟩ := h
    refine g_iald hC 0 rfl (m_t0 hZ) (by decide) hb_27 dX9_endOf_125 ?_
    refine g_aload_n hC dX9_endOf_126 rfl rfl ?_
    refine g_getr (r := 8) hC rfl (gm_k9 hZ) iwX9 8 (by decide) rfl rfl (wc wd_696) dX9_endOf_127 ?_
    refine g_iload_n hC dX9_endOf_130 rfl rfl ?_
    obtain ⟨hb_28, h⟩ := h
    refine g_iald hC 0 rfl (m_t0 hZ) (by decide) hb_28 dX9_endOf_131 ?_
    refine g_calli (g_runV (As := [(vi r_25), (vi (M 9 x1)), (vi (M 8 x1))]) (rest := []) hC rfl (ctX9_isSign hZ  h) rfl (gm_k9 hZ) (kwX9_isSign (by decide) (by decide)) rfl (wc wd_877) (wc wd_879) (wc wd_26) rfl (Nat.le_of_ble_eq_true rfl) rfl dX9_endOf_132) (fun r_29 M_30 h => ?_)
    obtain ⟨rfl, h⟩ := h
    obtain ⟨hr_31, hA, hB⟩ := h
    refine g_ieq hC 143 hr_31 dX9_endOf_135 (by decide) (fun hc_32 => ?_) (fun hc_32 => ?_)
    · replace h := hA hc_32
      clear hA hB
      refine g_aload_n hC dX9_endOf_143 rfl rfl ?_
      refine g_iload hC dX9_endOf_144 rfl ?_
      refine g_aload_n hC dX9_endOf_146 rfl rfl ?_
      refine g_getr (r := 9) hC rfl (gm_k9 hZ) iwX9 9 (by decide) rfl rfl (wc wd_697) dX9_endOf_147 ?_
      refine g_iload_n hC dX9_endOf_150 rfl rfl ?_
      obtain ⟨hb_33, h⟩ := h
      refine g_iald hC 0 rfl (m_t0 hZ) (by decide) hb_33 dX9_endOf_151 ?_
      refine g_aload_n hC dX9_endOf_152 rfl rfl ?_
      refine g_getr (r := 8) hC rfl (gm_k9 hZ) iwX9 8 (by decide) rfl rfl (wc wd_696) dX9_endOf_153 ?_
      refine g_iload_n hC dX9_endOf_156 rfl rfl ?_
      obtain ⟨hb_34, h⟩ := h
      refine g_iald hC 0 rfl (m_t0 hZ) (by decide) hb_34 dX9_endOf_157 ?_
      obtain ⟨hr_35, hA, hB⟩ := h
      refine g_ile hC 172 hr_35 dX9_endOf_158 (by decide) (fun hc_36 => ?_) (fun hc_36 => ?_)
      · replace h := hA hc_36
        clear hA hB
        refine g_aload_n hC dX9_endOf_161 rfl rfl ?_
        refine g_getr (r := 8) hC rfl (gm_k9 hZ) iwX9 8 (by decide) rfl rfl (wc wd_696) dX9_endOf_162 ?_
        refine g_iload_n hC dX9_endOf_165 rfl rfl ?_
        obtain ⟨hb_37, h⟩ := h
        refine g_iald hC 0 rfl (m_t0 hZ) (by decide) hb_37 dX9_endOf_166 ?_
        refine g_iconst hC dX9_endOf_167 ?_
        refine g_isub hC dX9_endOf_168 ?_
        refine g_goto hC 173 dX9_endOf_169 (by decide) ?_
        refine g_subk (ctX9_endOf_J173 hC hR hZ ?_ x4 x5 x6 ((M 8 x1) - 1) (M 9 x1) r_25 h) (And.intro rfl (And.intro rfl (And.intro rfl (And.intro rfl (And.intro rfl (And.intro rfl (And.intro rfl trivial)))))))
        · intro x4_42 x5_43 h
          exact g_subk (hK6 x4_42 x5_43 h) (And.intro rfl (And.intro rfl (And.intro rfl (And.intro rfl (And.intro rfl (And.intro rfl trivial))))))
      · replace h := hB hc_36
        clear hA hB
        refine g_iconst hC dX9_endOf_172 ?_
        refine g_subk (ctX9_endOf_J173 hC hR hZ ?_ x4 x5 x6 0 (M 9 x1) r_25 h) (And.intro rfl (And.intro rfl (And.intro rfl (And.intro rfl (And.intro rfl (And.intro rfl (And.intro rfl trivial)))))))
        · intro x4_44 x5_45 h
          exact g_subk (hK6 x4_44 x5_45 h) (And.intro rfl (And.intro rfl (And.intro rfl (And.intro rfl (And.intro rfl (And.intro rfl trivial))))))
    · replace h := hB hc_32
      clear hA hB
      exact g_subk (hK138 x6 h) (And.intro rfl trivial)
def fX9_endOf_L6  (x1 : Int) (x2 : Int) (x3 : Int) (M : gMem) : Nat → Int → Int → (Prop) → (Int → Prop) → (Int → Prop) → (Int → Prop) → (Int → Prop) → Prop
  | 0, _, _, _, _, _, _, _ => False
  | n6 + 1, x4, x5, K38, K91, K138, K191, Q =>
    ((0 ≤ x1 ∧ x1 < 6) ∧ (rg x5 ∧ rg (M 6 x1) ∧ (x5 < (M 6 x1) →
    ((0 ≤ x2 ∧ x2 < 8) ∧ (rg (((x3 + x5) - 1) + 1) ∧ rg (M 1 x2) ∧ ((((x3 + x5) - 1) + 1) < (M 1 x2) →
      ((0 ≤ x1 ∧ x1 < 6) ∧ (rg x5 ∧ rg (M 5 x1) ∧ (x5 < (M 5 x1) →
        fX9_endOf_L6 x1 x2 x3 M n6 x4 (x5 + 1) K38 K91 K138 K191 Q) ∧
        (¬ x5 < (M 5 x1) →
        ((0 ≤ x1 ∧ x1 < 6) ∧ (rg (M 4 x1) ∧ ((M 4 x1) = 4 →
          ((0 ≤ ((600 * x2) + ((x3 + x5) - 1)) ∧ ((600 * x2) + ((x3 + x5) - 1)) < 4800) ∧ ((0 ≤ x1 ∧ x1 < 6) ∧ (rg (M 2 ((600 * x2) + ((x3 + x5) - 1))) ∧ rg (M 9 x1) ∧ ((M 2 ((600 * x2) + ((x3 + x5) - 1))) = (M 9 x1) →
            K91 ((x3 + x5) - 1)) ∧
            (¬ (M 2 ((600 * x2) + ((x3 + x5) - 1))) = (M 9 x1) →
            fX9_endOf_J96 x1 x2 x3 M x4 x5 ((x3 + x5) - 1) (fun x4_46 x5_47 => fX9_endOf_L6 x1 x2 x3 M n6 x4_46 x5_47 K38 K91 K138 K191 Q) (fun x6_48 => K138 x6_48) Q))))) ∧
          (¬ (M 4 x1) = 4 →
          fX9_endOf_J96 x1 x2 x3 M x4 x5 ((x3 + x5) - 1) (fun x4_49 x5_50 => fX9_endOf_L6 x1 x2 x3 M n6 x4_49 x5_50 K38 K91 K138 K191 Q) (fun x6_51 => K138 x6_51) Q))))))) ∧
      (¬ (((x3 + x5) - 1) + 1) < (M 1 x2) →
      K38)))) ∧
    (¬ x5 < (M 6 x1) →
    K191 x4)))
set_option maxHeartbeats 4000000 in
set_option maxRecDepth 100000 in
theorem ctX9_endOf_L6 {y : gY} {z : gZ} {l : Launch} {x1 : Int} {x2 : Int} {x3 : Int} {M : gMem} {Q : Int → Prop} {K38 : Prop} {K91 : Int → Prop} {K138 : Int → Prop} {K191 : Int → Prop} (hC : gC y z l cX9_endOf RX9 8 wX9_endOf rmX9_endOf) (hR : gRI y z mL .int (fun r M' => M = M' ∧ Q r)) (hZ : gZm z)  (hK38 : K38  → gW y z mL 38 [some (vr z 0), none, some (vi x2), none, none, none, none, none] [] M) (hK91 : ∀ (x6 : Int), K91 x6 → gW y z mL 91 [none, none, none, none, none, none, some (vi x6), none] [] M) (hK138 : ∀ (x6 : Int), K138 x6 → gW y z mL 138 [none, none, none, none, none, none, some (vi x6), none] [] M) (hK191 : ∀ (x4 : Int), K191 x4 → gW y z mL 191 [some (vr z 0), some (vi x1), some (vi x2), some (vi x3), some (vi x4), none, none, none] [] M) :
    ∀ (n : Nat) (x4 : Int) (x5 : Int), fX9_endOf_L6 x1 x2 x3 M n x4 x5 K38 K91 K138 K191 Q → gW y z mL 6 [some (vr z 0), some (vi x1), some (vi x2), some (vi x3), some (vi x4), some (vi x5), none, none] [] M := by
  intro n
  induction n with
  | zero => intro x4 x5 h; exact False.elim h
  | succ n6 ih =>
    intro x4 x5 h
    replace h : ((0 ≤ x1 ∧ x1 < 6) ∧ (rg x5 ∧ rg (M 6 x1) ∧ (x5 < (M 6 x1) →
    ((0 ≤ x2 ∧ x2 < 8) ∧ (rg (((x3 + x5) - 1) + 1) ∧ rg (M 1 x2) ∧ ((((x3 + x5) - 1) + 1) < (M 1 x2) →
      ((0 ≤ x1 ∧ x1 < 6) ∧ (rg x5 ∧ rg (M 5 x1) ∧ (x5 < (M 5 x1) →
        fX9_endOf_L6 x1 x2 x3 M n6 x4 (x5 + 1) K38 K91 K138 K191 Q) ∧
        (¬ x5 < (M 5 x1) →
        ((0 ≤ x1 ∧ x1 < 6) ∧ (rg (M 4 x1) ∧ ((M 4 x1) = 4 →
          ((0 ≤ ((600 * x2) + ((x3 + x5) - 1)) ∧ ((600 * x2) + ((x3 + x5) - 1)) < 4800) ∧ ((0 ≤ x1 ∧ x1 < 6) ∧ (rg (M 2 ((600 * x2) + ((x3 + x5) - 1))) ∧ rg (M 9 x1) ∧ ((M 2 ((600 * x2) + ((x3 + x5) - 1))) = (M 9 x1) →
            K91 ((x3 + x5) - 1)) ∧
            (¬ (M 2 ((600 * x2) + ((x3 + x5) - 1))) = (M 9 x1) →
            fX9_endOf_J96 x1 x2 x3 M x4 x5 ((x3 + x5) - 1) (fun x4_46 x5_47 => fX9_endOf_L6 x1 x2 x3 M n6 x4_46 x5_47 K38 K91 K138 K191 Q) (fun x6_48 => K138 x6_48) Q))))) ∧
          (¬ (M 4 x1) = 4 →
          fX9_endOf_J96 x1 x2 x3 M x4 x5 ((x3 + x5) - 1) (fun x4_49 x5_50 => fX9_endOf_L6 x1 x2 x3 M n6 x4_49 x5_50 K38 K91 K138 K191 Q) (fun x6_51 => K138 x6_51) Q))))))) ∧
      (¬ (((x3 + x5) - 1) + 1) < (M 1 x2) →
      K38)))) ∧
    (¬ x5 < (M 6 x1) →
    K191 x4))) := h
    refine g_iload hC dX9_endOf_6 rfl ?_
    refine g_aload_n hC dX9_endOf_8 rfl rfl ?_
    refine g_getr (r := 6) hC rfl (gm_k9 hZ) iwX9 6 (by decide) rfl rfl (wc wd_694) dX9_endOf_9 ?_
    refine g_iload_n hC dX9_endOf_12 rfl rfl ?_
    obtain ⟨hb_1, h⟩ := h
    refine g_iald hC 0 rfl (m_t0 hZ) (by decide) hb_1 dX9_endOf_13 ?_
    obtain ⟨hr_2, hr_3, hA, hB⟩ := h
    refine g_cge hC 191 hr_2 hr_3 dX9_endOf_14 (by decide) (fun hc_4 => ?_) (fun hc_4 => ?_)
    · replace h := hA hc_4
      clear hA hB
      refine g_iload_n hC dX9_endOf_17 rfl rfl ?_
      refine g_iload hC dX9_endOf_18 rfl ?_
      refine g_iadd hC dX9_endOf_20 ?_
      refine g_iconst hC dX9_endOf_21 ?_
      refine g_isub hC dX9_endOf_22 ?_
      refine g_istore2 (lc' := [some (vr z 0), some (vi x1), some (vi x2), some (vi x3), some (vi x4), some (vi x5), some (vi ((x3 + x5) - 1)), none]) hC dX9_endOf_23 (Nat.le_of_ble_eq_true rfl) rfl ?_
      refine g_iload hC dX9_endOf_25 rfl ?_
      refine g_iconst hC dX9_endOf_27 ?_
      refine g_iadd hC dX9_endOf_28 ?_
      refine g_aload_n hC dX9_endOf_29 rfl rfl ?_
      refine g_getr (r := 1) hC rfl (gm_k9 hZ) iwX9 0 (by decide) rfl rfl (wc wd_688) dX9_endOf_30 ?_
      refine g_iload_n hC dX9_endOf_33 rfl rfl ?_
      obtain ⟨hb_5, h⟩ := h
      refine g_iald hC 0 rfl (m_t0 hZ) (by decide) hb_5 dX9_endOf_34 ?_
      obtain ⟨hr_6, hr_7, hA, hB⟩ := h
      refine g_clt hC 45 hr_6 hr_7 dX9_endOf_35 (by decide) (fun hc_8 => ?_) (fun hc_8 => ?_)
      · replace h := hA hc_8
        clear hA hB
        refine g_iload hC dX9_endOf_45 rfl ?_
        refine g_aload_n hC dX9_endOf_47 rfl rfl ?_
        refine g_getr (r := 5) hC rfl (gm_k9 hZ) iwX9 5 (by decide) rfl rfl (wc wd_693) dX9_endOf_48 ?_
        refine g_iload_n hC dX9_endOf_51 rfl rfl ?_
        obtain ⟨hb_9, h⟩ := h
        refine g_iald hC 0 rfl (m_t0 hZ) (by decide) hb_9 dX9_endOf_52 ?_
        obtain ⟨hr_10, hr_11, hA, hB⟩ := h
        refine g_cge hC 59 hr_10 hr_11 dX9_endOf_53 (by decide) (fun hc_12 => ?_) (fun hc_12 => ?_)
        · replace h := hA hc_12
          clear hA hB
          refine g_goto hC 185 dX9_endOf_56 (by decide) ?_
          refine g_iinc2 (lc' := [some (vr z 0), some (vi x1), some (vi x2), some (vi x3), some (vi x4), some (vi (x5 + 1)), some (vi ((x3 + x5) - 1)), none]) hC dX9_endOf_185 rfl rfl ?_
          refine g_goto hC 6 dX9_endOf_188 (by decide) ?_
          exact g_subk (ih x4 (x5 + 1) h) (And.intro rfl (And.intro rfl (And.intro rfl (And.intro rfl (And.intro rfl (And.intro rfl trivial))))))
        · replace h := hB hc_12
          clear hA hB
          refine g_aload_n hC dX9_endOf_59 rfl rfl ?_
          refine g_getr (r := 4) hC rfl (gm_k9 hZ) iwX9 4 (by decide) rfl rfl (wc wd_692) dX9_endOf_60 ?_
          refine g_iload_n hC dX9_endOf_63 rfl rfl ?_
          obtain ⟨hb_13, h⟩ := h
          refine g_iald hC 0 rfl (m_t0 hZ) (by decide) hb_13 dX9_endOf_64 ?_
          refine g_iconst hC dX9_endOf_65 ?_
          obtain ⟨hr_14, hA, hB⟩ := h
          refine g_cne hC 96 hr_14 (by decide) dX9_endOf_66 (by decide) (fun hc_15 => ?_) (fun hc_15 => ?_)
          · replace h := hA hc_15
            clear hA hB
            refine g_aload_n hC dX9_endOf_69 rfl rfl ?_
            refine g_getr (r := 2) hC rfl (gm_k9 hZ) iwX9 1 (by decide) rfl rfl (wc wd_689) dX9_endOf_70 ?_
            refine g_sipush hC dX9_endOf_73 (by decide) ?_
            refine g_iload_n hC dX9_endOf_76 rfl rfl ?_
            refine g_imul hC dX9_endOf_77 ?_
            refine g_iload hC dX9_endOf_78 rfl ?_
            refine g_iadd hC dX9_endOf_80 ?_
            obtain ⟨hb_16, h⟩ := h
            refine g_iald hC 0 rfl (m_t0 hZ) (by decide) hb_16 dX9_endOf_81 ?_
            refine g_aload_n hC dX9_endOf_82 rfl rfl ?_
            refine g_getr (r := 9) hC rfl (gm_k9 hZ) iwX9 9 (by decide) rfl rfl (wc wd_697) dX9_endOf_83 ?_
            refine g_iload_n hC dX9_endOf_86 rfl rfl ?_
            obtain ⟨hb_17, h⟩ := h
            refine g_iald hC 0 rfl (m_t0 hZ) (by decide) hb_17 dX9_endOf_87 ?_
            obtain ⟨hr_18, hr_19, hA, hB⟩ := h
            refine g_cne hC 96 hr_18 hr_19 dX9_endOf_88 (by decide) (fun hc_20 => ?_) (fun hc_20 => ?_)
            · replace h := hA hc_20
              clear hA hB
              exact g_subk (hK91 ((x3 + x5) - 1) h) (And.intro rfl trivial)
            · replace h := hB hc_20
              clear hA hB
              refine g_subk (ctX9_endOf_J96 hC hR hZ ?_ ?_ x4 x5 ((x3 + x5) - 1) h) (And.intro rfl (And.intro rfl (And.intro rfl (And.intro rfl (And.intro rfl (And.intro rfl (And.intro rfl trivial)))))))
              · intro x4_46 x5_47 h
                exact g_subk (ih x4_46 x5_47 h) (And.intro rfl (And.intro rfl (And.intro rfl (And.intro rfl (And.intro rfl (And.intro rfl trivial))))))
              · intro x6_48 h
                exact g_subk (hK138 x6_48 h) (And.intro rfl trivial)
          · replace h := hB hc_15
            clear hA hB
            refine g_subk (ctX9_endOf_J96 hC hR hZ ?_ ?_ x4 x5 ((x3 + x5) - 1) h) (And.intro rfl (And.intro rfl (And.intro rfl (And.intro rfl (And.intro rfl (And.intro rfl (And.intro rfl trivial)))))))
            · intro x4_49 x5_50 h
              exact g_subk (ih x4_49 x5_50 h) (And.intro rfl (And.intro rfl (And.intro rfl (And.intro rfl (And.intro rfl (And.intro rfl trivial))))))
            · intro x6_51 h
              exact g_subk (hK138 x6_51 h) (And.intro rfl trivial)
      · replace h := hB hc_8
        clear hA hB
        exact g_subk (hK38  h) (And.intro rfl (And.intro rfl trivial))
    · replace h := hB hc_4
      clear hA hB
      exact g_subk (hK191 x4 h) (And.intro rfl (And.intro rfl (And.intro rfl (And.intro rfl (And.intro rfl trivial)))))
def fX9_endOf (x1 : Int) (x2 : Int) (x3 : Int) (M : gMem) (Q : Int → Prop) : Prop :=
  ∃ n_82, fX9_endOf_L6 x1 x2 x3 M n_82 (-1) 1 (((0 ≤ x2 ∧ x2 < 8) ∧ Q (M 1 x2))) (fun x6_53 =>
  Q (x6_53 + 1)) (fun x6_54 =>
  Q (x6_54 + 1)) (fun x4_55 =>
  ((0 ≤ x1 ∧ x1 < 6) ∧ ((0 ≤ x2 ∧ x2 < 8) ∧ (rg (((x3 + (M 6 x1)) - 1) + 1) ∧ rg (M 1 x2) ∧ ((M 1 x2) < (((x3 + (M 6 x1)) - 1) + 1) →
    ((0 ≤ x2 ∧ x2 < 8) ∧ Q (M 1 x2))) ∧
    (¬ (M 1 x2) < (((x3 + (M 6 x1)) - 1) + 1) →
    ((0 ≤ x1 ∧ x1 < 6) ∧ (rg (M 4 x1) ∧ ((M 4 x1) = 3 →
      (rg x4_55 ∧ (x4_55 = (-1) →
        Q (((x3 + (M 6 x1)) - 1) + 1)) ∧
        (¬ x4_55 = (-1) →
        (fX9_sumAt x1 x2 ((x3 + (M 6 x1)) - 1) M (fun r_67 =>
          ((0 ≤ x1 ∧ x1 < 6) ∧ ((0 ≤ x1 ∧ x1 < 6) ∧ (rg (M 8 x1) ∧ (0 < (M 8 x1) →
          ((0 ≤ x1 ∧ x1 < 6) ∧ (fX9_isSign r_67 (M 9 x1) ((M 8 x1) - 1) M (fun r_74 =>
            (rg r_74 ∧ (r_74 = 0 →
            Q x4_55) ∧
            (¬ r_74 = 0 →
            Q (((x3 + (M 6 x1)) - 1) + 1))))))) ∧
          (¬ 0 < (M 8 x1) →
          (fX9_isSign r_67 (M 9 x1) 0 M (fun r_78 =>
            (rg r_78 ∧ (r_78 = 0 →
            Q x4_55) ∧
            (¬ r_78 = 0 →
            Q (((x3 + (M 6 x1)) - 1) + 1)))))))))))))) ∧
      (¬ (M 4 x1) = 3 →
      Q (((x3 + (M 6 x1)) - 1) + 1))))))))) Q
set_option maxHeartbeats 4000000 in
set_option maxRecDepth 100000 in
theorem ctX9_endOf {l : Launch} {z : gZ} (hZ : gZm z) {x1 : Int} {x2 : Int} {x3 : Int}  {M : gMem} {Q : Int → Prop} (h : fX9_endOf x1 x2 x3 M Q) : gMI l z mL yX9_endOf wX9_endOf rmX9_endOf [(vr z 0), (vi x1), (vi x2), (vi x3)] M (fun r M' => M = M' ∧ Q r) := by
  refine g_metI .int (by decide) rfl rfl (gCat_all (And.intro rfl (And.intro rfl (And.intro rfl (And.intro rfl trivial))))) (Nat.le_of_ble_eq_true rfl) ?_
  intro y hC hR
  replace h : ∃ n_82, fX9_endOf_L6 x1 x2 x3 M n_82 (-1) 1 (((0 ≤ x2 ∧ x2 < 8) ∧ Q (M 1 x2))) (fun x6_53 =>
  Q (x6_53 + 1)) (fun x6_54 =>
  Q (x6_54 + 1)) (fun x4_55 =>
  ((0 ≤ x1 ∧ x1 < 6) ∧ ((0 ≤ x2 ∧ x2 < 8) ∧ (rg (((x3 + (M 6 x1)) - 1) + 1) ∧ rg (M 1 x2) ∧ ((M 1 x2) < (((x3 + (M 6 x1)) - 1) + 1) →
    ((0 ≤ x2 ∧ x2 < 8) ∧ Q (M 1 x2))) ∧
    (¬ (M 1 x2) < (((x3 + (M 6 x1)) - 1) + 1) →
    ((0 ≤ x1 ∧ x1 < 6) ∧ (rg (M 4 x1) ∧ ((M 4 x1) = 3 →
      (rg x4_55 ∧ (x4_55 = (-1) →
        Q (((x3 + (M 6 x1)) - 1) + 1)) ∧
        (¬ x4_55 = (-1) →
        (fX9_sumAt x1 x2 ((x3 + (M 6 x1)) - 1) M (fun r_67 =>
          ((0 ≤ x1 ∧ x1 < 6) ∧ ((0 ≤ x1 ∧ x1 < 6) ∧ (rg (M 8 x1) ∧ (0 < (M 8 x1) →
          ((0 ≤ x1 ∧ x1 < 6) ∧ (fX9_isSign r_67 (M 9 x1) ((M 8 x1) - 1) M (fun r_74 =>
            (rg r_74 ∧ (r_74 = 0 →
            Q x4_55) ∧
            (¬ r_74 = 0 →
            Q (((x3 + (M 6 x1)) - 1) + 1))))))) ∧
          (¬ 0 < (M 8 x1) →
          (fX9_isSign r_67 (M 9 x1) 0 M (fun r_78 =>
            (rg r_78 ∧ (r_78 = 0 →
            Q x4_55) ∧
            (¬ r_78 = 0 →
            Q (((x3 + (M 6 x1)) - 1) + 1)))))))))))))) ∧
      (¬ (M 4 x1) = 3 →
      Q (((x3 + (M 6 x1)) - 1) + 1))))))))) Q := h
  refine g_lc (lc' := [some (vr z 0), some (vi x1), some (vi x2), some (vi x3), none, none, none, none]) rfl ?_
  refine g_iconst hC dX9_endOf_0 ?_
  refine g_istore2 (lc' := [some (vr z 0), some (vi x1), some (vi x2), some (vi x3), some (vi (-1)), none, none, none]) hC dX9_endOf_1 (Nat.le_of_ble_eq_true rfl) rfl ?_
  refine g_iconst hC dX9_endOf_3 ?_
  refine g_istore2 (lc' := [some (vr z 0), some (vi x1), some (vi x2), some (vi x3), some (vi (-1)), some (vi 1), none, none]) hC dX9_endOf_4 (Nat.le_of_ble_eq_true rfl) rfl ?_
  obtain ⟨n_82, h⟩ := h
  refine g_subk (ctX9_endOf_L6 hC hR hZ ?_ ?_ ?_ ?_ n_82 (-1) 1 h) (And.intro rfl (And.intro rfl (And.intro rfl (And.intro rfl (And.intro rfl (And.intro rfl trivial))))))
  · intro  h
    refine g_aload_n hC dX9_endOf_38 rfl rfl ?_
    refine g_getr (r := 1) hC rfl (gm_k9 hZ) iwX9 0 (by decide) rfl rfl (wc wd_688) dX9_endOf_39 ?_
    refine g_iload_n hC dX9_endOf_42 rfl rfl ?_
    obtain ⟨hb_52, h⟩ := h
    refine g_iald hC 0 rfl (m_t0 hZ) (by decide) hb_52 dX9_endOf_43 ?_
    exact g_iret hC hR dX9_endOf_44 ⟨rfl, h⟩
  · intro x6_53 h
    refine g_iload hC dX9_endOf_91 rfl ?_
    refine g_iconst hC dX9_endOf_93 ?_
    refine g_iadd hC dX9_endOf_94 ?_
    exact g_iret hC hR dX9_endOf_95 ⟨rfl, h⟩
  · intro x6_54 h
    refine g_iload hC dX9_endOf_138 rfl ?_
    refine g_iconst hC dX9_endOf_140 ?_
    refine g_iadd hC dX9_endOf_141 ?_
    exact g_iret hC hR dX9_endOf_142 ⟨rfl, h⟩
  · intro x4_55 h
    refine g_iload_n hC dX9_endOf_191 rfl rfl ?_
    refine g_aload_n hC dX9_endOf_192 rfl rfl ?_
    refine g_getr (r := 6) hC rfl (gm_k9 hZ) iwX9 6 (by decide) rfl rfl (wc wd_694) dX9_endOf_193 ?_
    refine g_iload_n hC dX9_endOf_196 rfl rfl ?_
    obtain ⟨hb_56, h⟩ := h
    refine g_iald hC 0 rfl (m_t0 hZ) (by decide) hb_56 dX9_endOf_197 ?_
    refine g_iadd hC dX9_endOf_198 ?_
    refine g_iconst hC dX9_endOf_199 ?_
    refine g_isub hC dX9_endOf_200 ?_
    refine g_istore2 (lc' := [some (vr z 0), some (vi x1), some (vi x2), some (vi x3), some (vi x4_55), some (vi ((x3 + (M 6 x1)) - 1)), none, none]) hC dX9_endOf_201 (Nat.le_of_ble_eq_true rfl) rfl ?_
    refine g_iload hC dX9_endOf_203 rfl ?_
    refine g_iconst hC dX9_endOf_205 ?_
    refine g_iadd hC dX9_endOf_206 ?_
    refine g_aload_n hC dX9_endOf_207 rfl rfl ?_
    refine g_getr (r := 1) hC rfl (gm_k9 hZ) iwX9 0 (by decide) rfl rfl (wc wd_688) dX9_endOf_208 ?_
    refine g_iload_n hC dX9_endOf_211 rfl rfl ?_
    obtain ⟨hb_57, h⟩ := h
    refine g_iald hC 0 rfl (m_t0 hZ) (by decide) hb_57 dX9_endOf_212 ?_
    obtain ⟨hr_58, hr_59, hA, hB⟩ := h
    refine g_cle hC 223 hr_58 hr_59 dX9_endOf_213 (by decide) (fun hc_60 => ?_) (fun hc_60 => ?_)
    · replace h := hA hc_60
      clear hA hB
      refine g_aload_n hC dX9_endOf_216 rfl rfl ?_
      refine g_getr (r := 1) hC rfl (gm_k9 hZ) iwX9 0 (by decide) rfl rfl (wc wd_688) dX9_endOf_217 ?_
      refine g_iload_n hC dX9_endOf_220 rfl rfl ?_
      obtain ⟨hb_61, h⟩ := h
      refine g_iald hC 0 rfl (m_t0 hZ) (by decide) hb_61 dX9_endOf_221 ?_
      exact g_iret hC hR dX9_endOf_222 ⟨rfl, h⟩
    · replace h := hB hc_60
      clear hA hB
      refine g_aload_n hC dX9_endOf_223 rfl rfl ?_
      refine g_getr (r := 4) hC rfl (gm_k9 hZ) iwX9 4 (by decide) rfl rfl (wc wd_692) dX9_endOf_224 ?_
      refine g_iload_n hC dX9_endOf_227 rfl rfl ?_
      obtain ⟨hb_62, h⟩ := h
      refine g_iald hC 0 rfl (m_t0 hZ) (by decide) hb_62 dX9_endOf_228 ?_
      refine g_iconst hC dX9_endOf_229 ?_
      obtain ⟨hr_63, hA, hB⟩ := h
      refine g_cne hC 239 hr_63 (by decide) dX9_endOf_230 (by decide) (fun hc_64 => ?_) (fun hc_64 => ?_)
      · replace h := hA hc_64
        clear hA hB
        refine g_iload hC dX9_endOf_233 rfl ?_
        refine g_iconst hC dX9_endOf_235 ?_
        obtain ⟨hr_65, hA, hB⟩ := h
        refine g_cne hC 244 hr_65 (by decide) dX9_endOf_236 (by decide) (fun hc_66 => ?_) (fun hc_66 => ?_)
        · replace h := hA hc_66
          clear hA hB
          refine g_iload hC dX9_endOf_239 rfl ?_
          refine g_iconst hC dX9_endOf_241 ?_
          refine g_iadd hC dX9_endOf_242 ?_
          exact g_iret hC hR dX9_endOf_243 ⟨rfl, h⟩
        · replace h := hB hc_66
          clear hA hB
          refine g_aload_n hC dX9_endOf_244 rfl rfl ?_
          refine g_iload_n hC dX9_endOf_245 rfl rfl ?_
          refine g_iload_n hC dX9_endOf_246 rfl rfl ?_
          refine g_iload hC dX9_endOf_247 rfl ?_
          refine g_calli (g_runV (As := [(vi x1), (vi x2), (vi ((x3 + (M 6 x1)) - 1))]) (rest := []) hC rfl (ctX9_sumAt hZ  h) rfl (gm_k9 hZ) (kwX9_sumAt (by decide) (by decide)) rfl (wc wd_860) (wc wd_862) (wc wd_23) rfl (Nat.le_of_ble_eq_true rfl) rfl dX9_endOf_249) (fun r_67 M_68 h => ?_)
          obtain ⟨rfl, h⟩ := h
          refine g_istore2 (lc' := [some (vr z 0), some (vi x1), some (vi x2), some (vi x3), some (vi x4_55), some (vi ((x3 + (M 6 x1)) - 1)), some (vi r_67), none]) hC dX9_endOf_252 (Nat.le_of_ble_eq_true rfl) rfl ?_
          refine g_aload_n hC dX9_endOf_254 rfl rfl ?_
          refine g_iload hC dX9_endOf_255 rfl ?_
          refine g_aload_n hC dX9_endOf_257 rfl rfl ?_
          refine g_getr (r := 9) hC rfl (gm_k9 hZ) iwX9 9 (by decide) rfl rfl (wc wd_697) dX9_endOf_258 ?_
          refine g_iload_n hC dX9_endOf_261 rfl rfl ?_
          obtain ⟨hb_69, h⟩ := h
          refine g_iald hC 0 rfl (m_t0 hZ) (by decide) hb_69 dX9_endOf_262 ?_
          refine g_aload_n hC dX9_endOf_263 rfl rfl ?_
          refine g_getr (r := 8) hC rfl (gm_k9 hZ) iwX9 8 (by decide) rfl rfl (wc wd_696) dX9_endOf_264 ?_
          refine g_iload_n hC dX9_endOf_267 rfl rfl ?_
          obtain ⟨hb_70, h⟩ := h
          refine g_iald hC 0 rfl (m_t0 hZ) (by decide) hb_70 dX9_endOf_268 ?_
          obtain ⟨hr_71, hA, hB⟩ := h
          refine g_ile hC 283 hr_71 dX9_endOf_269 (by decide) (fun hc_72 => ?_) (fun hc_72 => ?_)
          · replace h := hA hc_72
            clear hA hB
            refine g_aload_n hC dX9_endOf_272 rfl rfl ?_
            refine g_getr (r := 8) hC rfl (gm_k9 hZ) iwX9 8 (by decide) rfl rfl (wc wd_696) dX9_endOf_273 ?_
            refine g_iload_n hC dX9_endOf_276 rfl rfl ?_
            obtain ⟨hb_73, h⟩ := h
            refine g_iald hC 0 rfl (m_t0 hZ) (by decide) hb_73 dX9_endOf_277 ?_
            refine g_iconst hC dX9_endOf_278 ?_
            refine g_isub hC dX9_endOf_279 ?_
            refine g_goto hC 284 dX9_endOf_280 (by decide) ?_
            refine g_calli (g_runV (As := [(vi r_67), (vi (M 9 x1)), (vi ((M 8 x1) - 1))]) (rest := []) hC rfl (ctX9_isSign hZ  h) rfl (gm_k9 hZ) (kwX9_isSign (by decide) (by decide)) rfl (wc wd_877) (wc wd_879) (wc wd_26) rfl (Nat.le_of_ble_eq_true rfl) rfl dX9_endOf_284) (fun r_74 M_75 h => ?_)
            obtain ⟨rfl, h⟩ := h
            obtain ⟨hr_76, hA, hB⟩ := h
            refine g_ieq hC 297 hr_76 dX9_endOf_287 (by decide) (fun hc_77 => ?_) (fun hc_77 => ?_)
            · replace h := hA hc_77
              clear hA hB
              refine g_iload hC dX9_endOf_297 rfl ?_
              exact g_iret hC hR dX9_endOf_299 ⟨rfl, h⟩
            · replace h := hB hc_77
              clear hA hB
              refine g_iload hC dX9_endOf_290 rfl ?_
              refine g_iconst hC dX9_endOf_292 ?_
              refine g_iadd hC dX9_endOf_293 ?_
              refine g_goto hC 299 dX9_endOf_294 (by decide) ?_
              exact g_iret hC hR dX9_endOf_299 ⟨rfl, h⟩
          · replace h := hB hc_72
            clear hA hB
            refine g_iconst hC dX9_endOf_283 ?_
            refine g_calli (g_runV (As := [(vi r_67), (vi (M 9 x1)), (vi 0)]) (rest := []) hC rfl (ctX9_isSign hZ  h) rfl (gm_k9 hZ) (kwX9_isSign (by decide) (by decide)) rfl (wc wd_877) (wc wd_879) (wc wd_26) rfl (Nat.le_of_ble_eq_true rfl) rfl dX9_endOf_284) (fun r_78 M_79 h => ?_)
            obtain ⟨rfl, h⟩ := h
            obtain ⟨hr_80, hA, hB⟩ := h
            refine g_ieq hC 297 hr_80 dX9_endOf_287 (by decide) (fun hc_81 => ?_) (fun hc_81 => ?_)
            · replace h := hA hc_81
              clear hA hB
              refine g_iload hC dX9_endOf_297 rfl ?_
              exact g_iret hC hR dX9_endOf_299 ⟨rfl, h⟩
            · replace h := hB hc_81
              clear hA hB
              refine g_iload hC dX9_endOf_290 rfl ?_
              refine g_iconst hC dX9_endOf_292 ?_
              refine g_iadd hC dX9_endOf_293 ?_
              refine g_goto hC 299 dX9_endOf_294 (by decide) ?_
              exact g_iret hC hR dX9_endOf_299 ⟨rfl, h⟩
      · replace h := hB hc_64
        clear hA hB
        refine g_iload hC dX9_endOf_239 rfl ?_
        refine g_iconst hC dX9_endOf_241 ?_
        refine g_iadd hC dX9_endOf_242 ?_
        exact g_iret hC hR dX9_endOf_243 ⟨rfl, h⟩
