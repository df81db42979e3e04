abbrev wX9_cutsOf : List Cond := Cond.code yX9_cutsOf cX9_cutsOf 3 none :: gTs
abbrev rmX9_cutsOf : Room := { frames := 2, cells := 0, slots := 0, locals := 53 }
theorem kwX9_cutsOf {c0 : Cond} {rm : Room} (h1 : rmX9_cutsOf.frames + 1 ≤ rm.frames) (h2 : 8 + (3 + 11) + rmX9_cutsOf.locals ≤ rm.locals) : gCw (c0 :: gTs) rm yX9_cutsOf cX9_cutsOf 3 none wX9_cutsOf rmX9_cutsOf 2 := gCw_of wd_872 wd_49 h1 h2 (by decide +kernel)
def fX9_cutsOf_L12  (x1 : Int) (x2 : Int) : Nat → gMem → (gMem → Prop) → Prop
  | 0, _, _ => False
  | n12 + 1, M, Q =>
    ((0 ≤ (M 0 10) ∧ (M 0 10) < 601) ∧ ((0 ≤ x2 ∧ x2 < 8) ∧ (rg (M 10 (M 0 10)) ∧ rg (M 1 x2) ∧ ((M 10 (M 0 10)) < (M 1 x2) →
    ((0 ≤ (M 0 10) ∧ (M 0 10) < 601) ∧ (fX9_endOf x1 x2 (M 10 (M 0 10)) M (fun r_10 =>
      ((0 ≤ ((M 0 10) + 1) ∧ ((M 0 10) + 1) < 601) ∧ ∀ M_13, M_13 = gSt M 10 ((M 0 10) + 1) r_10 → (∀ M_14, M_14 = gSt M_13 0 10 ((M_13 0 10) + 1) → fX9_cutsOf_L12 x1 x2 n12 M_14 Q)))))) ∧
    (¬ (M 10 (M 0 10)) < (M 1 x2) →
    Q M))))
set_option maxHeartbeats 4000000 in
set_option maxRecDepth 100000 in
theorem ctX9_cutsOf_L12 {y : gY} {z : gZ} {l : Launch} {x1 : Int} {x2 : Int} {Q : gMem → Prop}  (hC : gC y z l cX9_cutsOf RX9 3 wX9_cutsOf rmX9_cutsOf) (hR : gRV y z mL Q) (hZ : gZm z)  :
    ∀ (n : Nat) (M : gMem), fX9_cutsOf_L12 x1 x2 n M Q → gW y z mL 12 [some (vr z 0), some (vi x1), some (vi x2)] [] M := by
  intro n
  induction n with
  | zero => intro M h; exact False.elim h
  | succ n12 ih =>
    intro M h
    replace h : ((0 ≤ (M 0 10) ∧ (M 0 10) < 601) ∧ ((0 ≤ x2 ∧ x2 < 8) ∧ (rg (M 10 (M 0 10)) ∧ rg (M 1 x2) ∧ ((M 10 (M 0 10)) < (M 1 x2) →
    ((0 ≤ (M 0 10) ∧ (M 0 10) < 601) ∧ (fX9_endOf x1 x2 (M 10 (M 0 10)) M (fun r_10 =>
      ((0 ≤ ((M 0 10) + 1) ∧ ((M 0 10) + 1) < 601) ∧ ∀ M_13, M_13 = gSt M 10 ((M 0 10) + 1) r_10 → (∀ M_14, M_14 = gSt M_13 0 10 ((M_13 0 10) + 1) → fX9_cutsOf_L12 x1 x2 n12 M_14 Q)))))) ∧
    (¬ (M 10 (M 0 10)) < (M 1 x2) →
    Q M)))) := h
    refine g_aload_n hC dX9_cutsOf_12 rfl rfl ?_
    refine g_getr (r := 10) hC rfl (gm_k9 hZ) iwX9 11 (by decide) rfl rfl (wc wd_699) dX9_cutsOf_13 ?_
    refine g_aload_n hC dX9_cutsOf_16 rfl rfl ?_
    refine g_geti (ji := 10) hC rfl (gm_k9 hZ) iwX9 10 (by decide) rfl rfl (wc wd_698) dX9_cutsOf_17 rfl ?_
    obtain ⟨hb_4, h⟩ := h
    refine g_iald hC 0 rfl (m_t0 hZ) (by decide) hb_4 dX9_cutsOf_20 ?_
    refine g_aload_n hC dX9_cutsOf_21 rfl rfl ?_
    refine g_getr (r := 1) hC rfl (gm_k9 hZ) iwX9 0 (by decide) rfl rfl (wc wd_688) dX9_cutsOf_22 ?_
    refine g_iload_n hC dX9_cutsOf_25 rfl rfl ?_
    obtain ⟨hb_5, h⟩ := h
    refine g_iald hC 0 rfl (m_t0 hZ) (by decide) hb_5 dX9_cutsOf_26 ?_
    obtain ⟨hr_6, hr_7, hA, hB⟩ := h
    refine g_cge hC 69 hr_6 hr_7 dX9_cutsOf_27 (by decide) (fun hc_8 => ?_) (fun hc_8 => ?_)
    · replace h := hA hc_8
      clear hA hB
      refine g_aload_n hC dX9_cutsOf_30 rfl rfl ?_
      refine g_getr (r := 10) hC rfl (gm_k9 hZ) iwX9 11 (by decide) rfl rfl (wc wd_699) dX9_cutsOf_31 ?_
      refine g_aload_n hC dX9_cutsOf_34 rfl rfl ?_
      refine g_geti (ji := 10) hC rfl (gm_k9 hZ) iwX9 10 (by decide) rfl rfl (wc wd_698) dX9_cutsOf_35 rfl ?_
      refine g_iconst hC dX9_cutsOf_38 ?_
      refine g_iadd hC dX9_cutsOf_39 ?_
      refine g_aload_n hC dX9_cutsOf_40 rfl rfl ?_
      refine g_iload_n hC dX9_cutsOf_41 rfl rfl ?_
      refine g_iload_n hC dX9_cutsOf_42 rfl rfl ?_
      refine g_aload_n hC dX9_cutsOf_43 rfl rfl ?_
      refine g_getr (r := 10) hC rfl (gm_k9 hZ) iwX9 11 (by decide) rfl rfl (wc wd_699) dX9_cutsOf_44 ?_
      refine g_aload_n hC dX9_cutsOf_47 rfl rfl ?_
      refine g_geti (ji := 10) hC rfl (gm_k9 hZ) iwX9 10 (by decide) rfl rfl (wc wd_698) dX9_cutsOf_48 rfl ?_
      obtain ⟨hb_9, h⟩ := h
      refine g_iald hC 0 rfl (m_t0 hZ) (by decide) hb_9 dX9_cutsOf_51 ?_
      refine g_calli (g_runV (As := [(vi x1), (vi x2), (vi (M 10 (M 0 10)))]) (rest := [(vi ((M 0 10) + 1)), (vr z 10)]) hC rfl (ctX9_endOf hZ  h) rfl (gm_k9 hZ) (kwX9_endOf (by decide) (by decide)) rfl (wc wd_873) (wc wd_875) (wc wd_25) rfl (Nat.le_of_ble_eq_true rfl) rfl dX9_cutsOf_52) (fun r_10 M_11 h => ?_)
      obtain ⟨rfl, h⟩ := h
      obtain ⟨hb_12, h⟩ := h
      obtain ⟨M_13, hM_13⟩ : ∃ M9, M9 = gSt M 10 ((M 0 10) + 1) r_10 := ⟨_, rfl⟩
      replace h := h M_13 hM_13
      refine g_iast hC 0 rfl (m_t0 hZ) (by decide) hb_12 dX9_cutsOf_55 hM_13 ?_
      refine g_aload_n hC dX9_cutsOf_56 rfl rfl ?_
      refine g_dup hC dX9_cutsOf_57 rfl ?_
      refine g_geti (ji := 10) hC rfl (gm_k9 hZ) iwX9 10 (by decide) rfl rfl (wc wd_698) dX9_cutsOf_58 rfl ?_
      refine g_iconst hC dX9_cutsOf_61 ?_
      refine g_iadd hC dX9_cutsOf_62 ?_
      obtain ⟨M_14, hM_14⟩ : ∃ M9, M9 = gSt M_13 0 10 ((M_13 0 10) + 1) := ⟨_, rfl⟩
      replace h := h M_14 hM_14
      refine g_puti (ji := 10) hC rfl (gm_k9 hZ) iwX9 tyX9_ok nmX9 10 (by decide) rfl rfl (wc wd_698) rfl rfl dX9_cutsOf_63 rfl hM_14 ?_
      refine g_goto hC 12 dX9_cutsOf_66 (by decide) ?_
      exact g_subk (ih M_14 h) (And.intro rfl (And.intro rfl (And.intro rfl trivial)))
    · replace h := hB hc_8
      clear hA hB
      exact g_vret hC hR dX9_cutsOf_69 h
def fX9_cutsOf (x1 : Int) (x2 : Int) (M : gMem) (Q : gMem → Prop) : Prop :=
  (∀ M_1, M_1 = gSt M 0 10 0 → ((0 ≤ (0 : Int) ∧ (0 : Int) < 601) ∧ ∀ M_3, M_3 = gSt M_1 10 0 0 → ∃ n_15, fX9_cutsOf_L12 x1 x2 n_15 M_3 Q))
set_option maxHeartbeats 4000000 in
set_option maxRecDepth 100000 in
theorem ctX9_cutsOf {l : Launch} {z : gZ} (hZ : gZm z) {x1 : Int} {x2 : Int}  {M : gMem} {Q : gMem → Prop} (h : fX9_cutsOf x1 x2 M Q) : gMV l z mL yX9_cutsOf wX9_cutsOf rmX9_cutsOf [(vr z 0), (vi x1), (vi x2)] M Q := by
  refine g_metV (by decide) rfl rfl (gCat_all (And.intro rfl (And.intro rfl (And.intro rfl trivial)))) (Nat.le_of_ble_eq_true rfl) ?_
  intro y hC hR
  replace h : (∀ M_1, M_1 = gSt M 0 10 0 → ((0 ≤ (0 : Int) ∧ (0 : Int) < 601) ∧ ∀ M_3, M_3 = gSt M_1 10 0 0 → ∃ n_15, fX9_cutsOf_L12 x1 x2 n_15 M_3 Q)) := h
  refine g_lc (lc' := [some (vr z 0), some (vi x1), some (vi x2)]) rfl ?_
  refine g_aload_n hC dX9_cutsOf_0 rfl rfl ?_
  refine g_iconst hC dX9_cutsOf_1 ?_
  obtain ⟨M_1, hM_1⟩ : ∃ M9, M9 = gSt M 0 10 0 := ⟨_, rfl⟩
  replace h := h M_1 hM_1
  refine g_puti (ji := 10) hC rfl (gm_k9 hZ) iwX9 tyX9_ok nmX9 10 (by decide) rfl rfl (wc wd_698) rfl rfl dX9_cutsOf_2 rfl hM_1 ?_
  refine g_aload_n hC dX9_cutsOf_5 rfl rfl ?_
  refine g_getr (r := 10) hC rfl (gm_k9 hZ) iwX9 11 (by decide) rfl rfl (wc wd_699) dX9_cutsOf_6 ?_
  refine g_iconst hC dX9_cutsOf_9 ?_
  refine g_iconst hC dX9_cutsOf_10 ?_
  obtain ⟨hb_2, h⟩ := h
  obtain ⟨M_3, hM_3⟩ : ∃ M9, M9 = gSt M_1 10 0 0 := ⟨_, rfl⟩
  replace h := h M_3 hM_3
  refine g_iast hC 0 rfl (m_t0 hZ) (by decide) hb_2 dX9_cutsOf_11 hM_3 ?_
  obtain ⟨n_15, h⟩ := h
  refine g_subk (ctX9_cutsOf_L12 hC hR hZ  n_15 M_3 h) (And.intro rfl (And.intro rfl (And.intro rfl trivial)))
abbrev wX9_cuts : List Cond := Cond.code yX9_cuts cX9_cuts 3 (some .int) :: gTs
abbrev rmX9_cuts : Room := { frames := 3, cells := 0, slots := 0, locals := 75 }
theorem kwX9_cuts {c0 : Cond} {rm : Room} (h1 : rmX9_cuts.frames + 1 ≤ rm.frames) (h2 : 8 + (3 + 11) + rmX9_cuts.locals ≤ rm.locals) : gCw (c0 :: gTs) rm yX9_cuts cX9_cuts 3 (some .int) wX9_cuts rmX9_cuts 2 := gCw_of wd_868 wd_49 h1 h2 (by decide +kernel)
def fX9_cuts (x1 : Int) (x2 : Int) (M : gMem) (Q : Int → gMem → Prop) : Prop :=
  (fX9_isRule x1 M (fun r_1 =>
  (rg r_1 ∧ (r_1 = 0 →
  Q (-1) M) ∧
  (¬ r_1 = 0 →
  (fX9_isFile x2 M (fun r_5 =>
    (rg r_5 ∧ (r_5 = 0 →
    Q (-1) M) ∧
    (¬ r_5 = 0 →
    (fX9_cutsOf x1 x2 M (fun M_9 =>
      Q (M_9 0 10) M_9))))))))))
set_option maxHeartbeats 4000000 in
set_option maxRecDepth 100000 in
theorem ctX9_cuts {l : Launch} {z : gZ} (hZ : gZm z) {x1 : Int} {x2 : Int}  {M : gMem} {Q : Int → gMem → Prop} (h : fX9_cuts x1 x2 M Q) : gMI l z mL yX9_cuts wX9_cuts rmX9_cuts [(vr z 0), (vi x1), (vi x2)] M Q := by
  refine g_metI .int (by decide) rfl rfl (gCat_all (And.intro rfl (And.intro rfl (And.intro rfl trivial)))) (Nat.le_of_ble_eq_true rfl) ?_
  intro y hC hR
  replace h : (fX9_isRule x1 M (fun r_1 =>
  (rg r_1 ∧ (r_1 = 0 →
  Q (-1) M) ∧
  (¬ r_1 = 0 →
  (fX9_isFile x2 M (fun r_5 =>
    (rg r_5 ∧ (r_5 = 0 →
    Q (-1) M) ∧
    (¬ r_5 = 0 →
    (fX9_cutsOf x1 x2 M (fun M_9 =>
      Q (M_9 0 10) M_9)))))))))) := h
  refine g_lc (lc' := [some (vr z 0), some (vi x1), some (vi x2)]) rfl ?_
  refine g_aload_n hC dX9_cuts_0 rfl rfl ?_
  refine g_iload_n hC dX9_cuts_1 rfl rfl ?_
  refine g_calli (g_runV (As := [(vi x1)]) (rest := []) hC rfl (ctX9_isRule hZ  h) rfl (gm_k9 hZ) (kwX9_isRule (by decide) (by decide)) rfl (wc wd_852) (wc wd_854) (wc wd_21) rfl (Nat.le_of_ble_eq_true rfl) rfl dX9_cuts_2) (fun r_1 M_2 h => ?_)
  obtain ⟨rfl, h⟩ := h
  obtain ⟨hr_3, hA, hB⟩ := h
  refine g_ieq hC 15 hr_3 dX9_cuts_5 (by decide) (fun hc_4 => ?_) (fun hc_4 => ?_)
  · replace h := hA hc_4
    clear hA hB
    refine g_iconst hC dX9_cuts_15 ?_
    exact g_iret hC hR dX9_cuts_16 h
  · replace h := hB hc_4
    clear hA hB
    refine g_iload_n hC dX9_cuts_8 rfl rfl ?_
    refine g_calli (g_runS (As := [(vi x2)]) (rest := []) hC rfl (ctX9_isFile hZ  h) (kwX9_isFile (by decide) (by decide)) (wc wd_813) (wc wd_814) rfl (Nat.le_of_ble_eq_true rfl) rfl dX9_cuts_9) (fun r_5 M_6 h => ?_)
    obtain ⟨rfl, h⟩ := h
    obtain ⟨hr_7, hA, hB⟩ := h
    refine g_ine hC 17 hr_7 dX9_cuts_12 (by decide) (fun hc_8 => ?_) (fun hc_8 => ?_)
    · replace h := hA hc_8
      clear hA hB
      refine g_iconst hC dX9_cuts_15 ?_
      exact g_iret hC hR dX9_cuts_16 h
    · replace h := hB hc_8
      clear hA hB
      refine g_aload_n hC dX9_cuts_17 rfl rfl ?_
      refine g_iload_n hC dX9_cuts_18 rfl rfl ?_
      refine g_iload_n hC dX9_cuts_19 rfl rfl ?_
      refine g_callv (g_runV (As := [(vi x1), (vi x2)]) (rest := []) hC rfl (ctX9_cutsOf hZ  h) rfl (gm_k9 hZ) (kwX9_cutsOf (by decide) (by decide)) rfl (wc wd_869) (wc wd_871) (wc wd_24) rfl (Nat.le_of_ble_eq_true rfl) rfl dX9_cuts_20) (fun M_9 h => ?_)
      refine g_aload_n hC dX9_cuts_23 rfl rfl ?_
      refine g_geti (ji := 10) hC rfl (gm_k9 hZ) iwX9 10 (by decide) rfl rfl (wc wd_698) dX9_cuts_24 rfl ?_
      exact g_iret hC hR dX9_cuts_27 h
abbrev wX9_cut : List Cond := Cond.code yX9_cut cX9_cut 4 (some .int) :: gTs
abbrev rmX9_cut : Room := { frames := 3, cells := 0, slots := 0, locals := 75 }
theorem kwX9_cut {c0 : Cond} {rm : Room} (h1 : rmX9_cut.frames + 1 ≤ rm.frames) (h2 : 8 + (4 + 11) + rmX9_cut.locals ≤ rm.locals) : gCw (c0 :: gTs) rm yX9_cut cX9_cut 4 (some .int) wX9_cut rmX9_cut 3 := gCw_of wd_884 wd_49 h1 h2 (by decide +kernel)
def fX9_cut (x1 : Int) (x2 : Int) (x3 : Int) (M : gMem) (Q : Int → gMem → Prop) : Prop :=
  (fX9_isRule x1 M (fun r_1 =>
  (rg r_1 ∧ (r_1 = 0 →
  Q (-1) M) ∧
  (¬ r_1 = 0 →
  (fX9_isFile x2 M (fun r_5 =>
    (rg r_5 ∧ (r_5 = 0 →
    Q (-1) M) ∧
    (¬ r_5 = 0 →
    (rg x3 ∧ (x3 < 0 →
      Q (-1) M) ∧
      (¬ x3 < 0 →
      (fX9_cutsOf x1 x2 M (fun M_11 =>
        (rg x3 ∧ rg (M_11 0 10) ∧ ((M_11 0 10) < x3 →
        Q (-1) M_11) ∧
        (¬ (M_11 0 10) < x3 →
        ((0 ≤ x3 ∧ x3 < 601) ∧ Q (M_11 10 x3) M_11)))))))))))))))
set_option maxHeartbeats 4000000 in
set_option maxRecDepth 100000 in
theorem ctX9_cut {l : Launch} {z : gZ} (hZ : gZm z) {x1 : Int} {x2 : Int} {x3 : Int}  {M : gMem} {Q : Int → gMem → Prop} (h : fX9_cut x1 x2 x3 M Q) : gMI l z mL yX9_cut wX9_cut rmX9_cut [(vr z 0), (vi x1), (vi x2), (vi x3)] M Q := by
  refine g_metI .int (by decide) rfl rfl (gCat_all (And.intro rfl (And.intro rfl (And.intro rfl (And.intro rfl trivial))))) (Nat.le_of_ble_eq_true rfl) ?_
  intro y hC hR
  replace h : (fX9_isRule x1 M (fun r_1 =>
  (rg r_1 ∧ (r_1 = 0 →
  Q (-1) M) ∧
  (¬ r_1 = 0 →
  (fX9_isFile x2 M (fun r_5 =>
    (rg r_5 ∧ (r_5 = 0 →
    Q (-1) M) ∧
    (¬ r_5 = 0 →
    (rg x3 ∧ (x3 < 0 →
      Q (-1) M) ∧
      (¬ x3 < 0 →
      (fX9_cutsOf x1 x2 M (fun M_11 =>
        (rg x3 ∧ rg (M_11 0 10) ∧ ((M_11 0 10) < x3 →
        Q (-1) M_11) ∧
        (¬ (M_11 0 10) < x3 →
        ((0 ≤ x3 ∧ x3 < 601) ∧ Q (M_11 10 x3) M_11))))))))))))))) := h
  refine g_lc (lc' := [some (vr z 0), some (vi x1), some (vi x2), some (vi x3)]) rfl ?_
  refine g_aload_n hC dX9_cut_0 rfl rfl ?_
  refine g_iload_n hC dX9_cut_1 rfl rfl ?_
  refine g_calli (g_runV (As := [(vi x1)]) (rest := []) hC rfl (ctX9_isRule hZ  h) rfl (gm_k9 hZ) (kwX9_isRule (by decide) (by decide)) rfl (wc wd_852) (wc wd_854) (wc wd_21) rfl (Nat.le_of_ble_eq_true rfl) rfl dX9_cut_2) (fun r_1 M_2 h => ?_)
  obtain ⟨rfl, h⟩ := h
  obtain ⟨hr_3, hA, hB⟩ := h
  refine g_ieq hC 19 hr_3 dX9_cut_5 (by decide) (fun hc_4 => ?_) (fun hc_4 => ?_)
  · replace h := hA hc_4
    clear hA hB
    refine g_iconst hC dX9_cut_19 ?_
    exact g_iret hC hR dX9_cut_20 h
  · replace h := hB hc_4
    clear hA hB
    refine g_iload_n hC dX9_cut_8 rfl rfl ?_
    refine g_calli (g_runS (As := [(vi x2)]) (rest := []) hC rfl (ctX9_isFile hZ  h) (kwX9_isFile (by decide) (by decide)) (wc wd_813) (wc wd_814) rfl (Nat.le_of_ble_eq_true rfl) rfl dX9_cut_9) (fun r_5 M_6 h => ?_)
    obtain ⟨rfl, h⟩ := h
    obtain ⟨hr_7, hA, hB⟩ := h
    refine g_ieq hC 19 hr_7 dX9_cut_12 (by decide) (fun hc_8 => ?_) (fun hc_8 => ?_)
    · replace h := hA hc_8
      clear hA hB
      refine g_iconst hC dX9_cut_19 ?_
      exact g_iret hC hR dX9_cut_20 h
    · replace h := hB hc_8
      clear hA hB
      refine g_iload_n hC dX9_cut_15 rfl rfl ?_
      obtain ⟨hr_9, hA, hB⟩ := h
      refine g_ige hC 21 hr_9 dX9_cut_16 (by decide) (fun hc_10 => ?_) (fun hc_10 => ?_)
      · replace h := hA hc_10
        clear hA hB
        refine g_iconst hC dX9_cut_19 ?_
        exact g_iret hC hR dX9_cut_20 h
      · replace h := hB hc_10
        clear hA hB
        refine g_aload_n hC dX9_cut_21 rfl rfl ?_
        refine g_iload_n hC dX9_cut_22 rfl rfl ?_
        refine g_iload_n hC dX9_cut_23 rfl rfl ?_
        refine g_callv (g_runV (As := [(vi x1), (vi x2)]) (rest := []) hC rfl (ctX9_cutsOf hZ  h) rfl (gm_k9 hZ) (kwX9_cutsOf (by decide) (by decide)) rfl (wc wd_869) (wc wd_871) (wc wd_24) rfl (Nat.le_of_ble_eq_true rfl) rfl dX9_cut_24) (fun M_11 h => ?_)
        refine g_iload_n hC dX9_cut_27 rfl rfl ?_
        refine g_aload_n hC dX9_cut_28 rfl rfl ?_
        refine g_geti (ji := 10) hC rfl (gm_k9 hZ) iwX9 10 (by decide) rfl rfl (wc wd_698) dX9_cut_29 rfl ?_
        obtain ⟨hr_12, hr_13, hA, hB⟩ := h
        refine g_cgt hC 44 hr_12 hr_13 dX9_cut_32 (by decide) (fun hc_14 => ?_) (fun hc_14 => ?_)
        · replace h := hA hc_14
          clear hA hB
          refine g_iconst hC dX9_cut_44 ?_
          exact g_iret hC hR dX9_cut_45 h
        · replace h := hB hc_14
          clear hA hB
          refine g_aload_n hC dX9_cut_35 rfl rfl ?_
          refine g_getr (r := 10) hC rfl (gm_k9 hZ) iwX9 11 (by decide) rfl rfl (wc wd_699) dX9_cut_36 ?_
          refine g_iload_n hC dX9_cut_39 rfl rfl ?_
          obtain ⟨hb_15, h⟩ := h
          refine g_iald hC 0 rfl (m_t0 hZ) (by decide) hb_15 dX9_cut_40 ?_
          refine g_goto hC 45 dX9_cut_41 (by decide) ?_
          exact g_iret hC hR dX9_cut_45 h
abbrev wX9_isAlike : List Cond := Cond.code yX9_isAlike cX9_isAlike 8 (some .boolean) :: gTs
abbrev rmX9_isAlike : Room := { frames := 0, cells := 0, slots := 0, locals := 0 }
theorem kwX9_isAlike {c0 : Cond} {rm : Room} (h1 : rmX9_isAlike.frames + 1 ≤ rm.frames) (h2 : 8 + (8 + 11) + rmX9_isAlike.locals ≤ rm.locals) : gCw (c0 :: gTs) rm yX9_isAlike cX9_isAlike 8 (some .boolean) wX9_isAlike rmX9_isAlike 6 := gCw_of wd_896 wd_49 h1 h2 (by decide +kernel)
def fX9_isAlike_L16  (x1 : Int) (x2 : Int) (x3 : Int) (x4 : Int) (x5 : Int) (M : gMem) : Nat → Int → (Int → Prop) → Prop
  | 0, _, _ => False
  | n16 + 1, x7, Q =>
    (rg x7 ∧ rg (x3 - x2) ∧ (x7 < (x3 - x2) →
    ((0 ≤ (((600 * x1) + x2) + x7) ∧ (((600 * x1) + x2) + x7) < 4800) ∧ ((0 ≤ (((600 * x4) + x5) + x7) ∧ (((600 * x4) + x5) + x7) < 4800) ∧ (rg (M 2 (((600 * x1) + x2) + x7)) ∧ rg (M 2 (((600 * x4) + x5) + x7)) ∧ ((M 2 (((600 * x1) + x2) + x7)) = (M 2 (((600 * x4) + x5) + x7)) →
      fX9_isAlike_L16 x1 x2 x3 x4 x5 M n16 (x7 + 1) Q) ∧
      (¬ (M 2 (((600 * x1) + x2) + x7)) = (M 2 (((600 * x4) + x5) + x7)) →
      Q 0))))) ∧
    (¬ x7 < (x3 - x2) →
    Q 1))
set_option maxHeartbeats 4000000 in
set_option maxRecDepth 100000 in
theorem ctX9_isAlike_L16 {y : gY} {z : gZ} {l : Launch} {x1 : Int} {x2 : Int} {x3 : Int} {x4 : Int} {x5 : Int} {M : gMem} {Q : Int → Prop}  (hC : gC y z l cX9_isAlike RX9 8 wX9_isAlike rmX9_isAlike) (hR : gRI y z mL .boolean (fun r M' => M = M' ∧ Q r)) (hZ : gZm z)  :
    ∀ (n : Nat) (x7 : Int), fX9_isAlike_L16 x1 x2 x3 x4 x5 M n x7 Q → gW y z mL 16 [some (vr z 0), some (vi x1), some (vi x2), some (vi x3), some (vi x4), some (vi x5), none, some (vi x7)] [] M := by
  intro n
  induction n with
  | zero => intro x7 h; exact False.elim h
  | succ n16 ih =>
    intro x7 h
    replace h : (rg x7 ∧ rg (x3 - x2) ∧ (x7 < (x3 - x2) →
    ((0 ≤ (((600 * x1) + x2) + x7) ∧ (((600 * x1) + x2) + x7) < 4800) ∧ ((0 ≤ (((600 * x4) + x5) + x7) ∧ (((600 * x4) + x5) + x7) < 4800) ∧ (rg (M 2 (((600 * x1) + x2) + x7)) ∧ rg (M 2 (((600 * x4) + x5) + x7)) ∧ ((M 2 (((600 * x1) + x2) + x7)) = (M 2 (((600 * x4) + x5) + x7)) →
      fX9_isAlike_L16 x1 x2 x3 x4 x5 M n16 (x7 + 1) Q) ∧
      (¬ (M 2 (((600 * x1) + x2) + x7)) = (M 2 (((600 * x4) + x5) + x7)) →
      Q 0))))) ∧
    (¬ x7 < (x3 - x2) →
    Q 1)) := h
    refine g_iload hC dX9_isAlike_16 rfl ?_
    refine g_iload_n hC dX9_isAlike_18 rfl rfl ?_
    refine g_iload_n hC dX9_isAlike_19 rfl rfl ?_
    refine g_isub hC dX9_isAlike_20 ?_
    obtain ⟨hr_4, hr_5, hA, hB⟩ := h
    refine g_cge hC 67 hr_4 hr_5 dX9_isAlike_21 (by decide) (fun hc_6 => ?_) (fun hc_6 => ?_)
    · replace h := hA hc_6
      clear hA hB
      refine g_aload_n hC dX9_isAlike_24 rfl rfl ?_
      refine g_getr (r := 2) hC rfl (gm_k9 hZ) iwX9 1 (by decide) rfl rfl (wc wd_689) dX9_isAlike_25 ?_
      refine g_sipush hC dX9_isAlike_28 (by decide) ?_
      refine g_iload_n hC dX9_isAlike_31 rfl rfl ?_
      refine g_imul hC dX9_isAlike_32 ?_
      refine g_iload_n hC dX9_isAlike_33 rfl rfl ?_
      refine g_iadd hC dX9_isAlike_34 ?_
      refine g_iload hC dX9_isAlike_35 rfl ?_
      refine g_iadd hC dX9_isAlike_37 ?_
      obtain ⟨hb_7, h⟩ := h
      refine g_iald hC 0 rfl (m_t0 hZ) (by decide) hb_7 dX9_isAlike_38 ?_
      refine g_aload_n hC dX9_isAlike_39 rfl rfl ?_
      refine g_getr (r := 2) hC rfl (gm_k9 hZ) iwX9 1 (by decide) rfl rfl (wc wd_689) dX9_isAlike_40 ?_
      refine g_sipush hC dX9_isAlike_43 (by decide) ?_
      refine g_iload hC dX9_isAlike_46 rfl ?_
      refine g_imul hC dX9_isAlike_48 ?_
      refine g_iload hC dX9_isAlike_49 rfl ?_
      refine g_iadd hC dX9_isAlike_51 ?_
      refine g_iload hC dX9_isAlike_52 rfl ?_
      refine g_iadd hC dX9_isAlike_54 ?_
      obtain ⟨hb_8, h⟩ := h
      refine g_iald hC 0 rfl (m_t0 hZ) (by decide) hb_8 dX9_isAlike_55 ?_
      obtain ⟨hr_9, hr_10, hA, hB⟩ := h
      refine g_ceq hC 61 hr_9 hr_10 dX9_isAlike_56 (by decide) (fun hc_11 => ?_) (fun hc_11 => ?_)
      · replace h := hA hc_11
        clear hA hB
        refine g_iinc2 (lc' := [some (vr z 0), some (vi x1), some (vi x2), some (vi x3), some (vi x4), some (vi x5), none, some (vi (x7 + 1))]) hC dX9_isAlike_61 rfl rfl ?_
        refine g_goto hC 16 dX9_isAlike_64 (by decide) ?_
        exact g_subk (ih (x7 + 1) h) (And.intro rfl (And.intro rfl (And.intro rfl (And.intro rfl (And.intro rfl (And.intro rfl (And.intro rfl trivial)))))))
      · replace h := hB hc_11
        clear hA hB
        refine g_iconst hC dX9_isAlike_59 ?_
        exact g_zret hC hR (by decide) dX9_isAlike_60 ⟨rfl, h⟩
    · replace h := hB hc_6
      clear hA hB
      refine g_iconst hC dX9_isAlike_67 ?_
      exact g_zret hC hR (by decide) dX9_isAlike_68 ⟨rfl, h⟩
def fX9_isAlike (x1 : Int) (x2 : Int) (x3 : Int) (x4 : Int) (x5 : Int) (x6 : Int) (M : gMem) (Q : Int → Prop) : Prop :=
  (rg (x3 - x2) ∧ rg (x6 - x5) ∧ ((x3 - x2) = (x6 - x5) →
  ∃ n_12, fX9_isAlike_L16 x1 x2 x3 x4 x5 M n_12 0 Q) ∧
  (¬ (x3 - x2) = (x6 - x5) →
  Q 0))
set_option maxHeartbeats 4000000 in
set_option maxRecDepth 100000 in
theorem ctX9_isAlike {l : Launch} {z : gZ} (hZ : gZm z) {x1 : Int} {x2 : Int} {x3 : Int} {x4 : Int} {x5 : Int} {x6 : Int}  {M : gMem} {Q : Int → Prop} (h : fX9_isAlike x1 x2 x3 x4 x5 x6 M Q) : gMI l z mL yX9_isAlike wX9_isAlike rmX9_isAlike [(vr z 0), (vi x1), (vi x2), (vi x3), (vi x4), (vi x5), (vi x6)] M (fun r M' => M = M' ∧ Q r) := by
  refine g_metI .boolean (by decide) rfl rfl (gCat_all (And.intro rfl (And.intro rfl (And.intro rfl (And.intro rfl (And.intro rfl (And.intro rfl (And.intro rfl trivial)))))))) (Nat.le_of_ble_eq_true rfl) ?_
  intro y hC hR
  replace h : (rg (x3 - x2) ∧ rg (x6 - x5) ∧ ((x3 - x2) = (x6 - x5) →
  ∃ n_12, fX9_isAlike_L16 x1 x2 x3 x4 x5 M n_12 0 Q) ∧
  (¬ (x3 - x2) = (x6 - x5) →
  Q 0)) := h
  refine g_lc (lc' := [some (vr z 0), some (vi x1), some (vi x2), some (vi x3), some (vi x4), some (vi x5), some (vi x6), none]) rfl ?_
  refine g_iload_n hC dX9_isAlike_0 rfl rfl ?_
  refine g_iload_n hC dX9_isAlike_1 rfl rfl ?_
  refine g_isub hC dX9_isAlike_2 ?_
  refine g_iload hC dX9_isAlike_3 rfl ?_
  refine g_iload hC dX9_isAlike_5 rfl ?_
  refine g_isub hC dX9_isAlike_7 ?_
  obtain ⟨hr_1, hr_2, hA, hB⟩ := h
  refine g_ceq hC 13 hr_1 hr_2 dX9_isAlike_8 (by decide) (fun hc_3 => ?_) (fun hc_3 => ?_)
  · replace h := hA hc_3
    clear hA hB
    refine g_iconst hC dX9_isAlike_13 ?_
    refine g_istore2 (lc' := [some (vr z 0), some (vi x1), some (vi x2), some (vi x3), some (vi x4), some (vi x5), some (vi x6), some (vi 0)]) hC dX9_isAlike_14 (Nat.le_of_ble_eq_true rfl) rfl ?_
    obtain ⟨n_12, h⟩ := h
    refine g_subk (ctX9_isAlike_L16 hC hR hZ  n_12 0 h) (And.intro rfl (And.intro rfl (And.intro rfl (And.intro rfl (And.intro rfl (And.intro rfl (And.intro rfl trivial)))))))
  · replace h := hB hc_3
    clear hA hB
    refine g_iconst hC dX9_isAlike_11 ?_
    exact g_zret hC hR (by decide) dX9_isAlike_12 ⟨rfl, h⟩
abbrev wX9_othersOf : List Cond := Cond.code yX9_othersOf cX9_othersOf 4 none :: gTs
abbrev rmX9_othersOf : Room := { frames := 3, cells := 0, slots := 0, locals := 75 }
theorem kwX9_othersOf {c0 : Cond} {rm : Room} (h1 : rmX9_othersOf.frames + 1 ≤ rm.frames) (h2 : 8 + (4 + 11) + rmX9_othersOf.locals ≤ rm.locals) : gCw (c0 :: gTs) rm yX9_othersOf cX9_othersOf 4 none wX9_othersOf rmX9_othersOf 2 := gCw_of wd_892 wd_49 h1 h2 (by decide +kernel)
def fX9_othersOf_L16  : Nat → Int → gMem → (gMem → Prop) → Prop
  | 0, _, _, _ => False
  | n16 + 1, x3, M, Q =>
    (rg x3 ∧ rg (M 0 10) ∧ ((M 0 10) < x3 →
    Q M) ∧
    (¬ (M 0 10) < x3 →
    ((0 ≤ x3 ∧ x3 < 601) ∧ ((0 ≤ x3 ∧ x3 < 601) ∧ ∀ M_8, M_8 = gSt M 11 x3 (M 10 x3) → fX9_othersOf_L16 n16 (x3 + 1) M_8 Q))))
set_option maxHeartbeats 4000000 in
set_option maxRecDepth 100000 in
theorem ctX9_othersOf_L16 {y : gY} {z : gZ} {l : Launch}  {Q : gMem → Prop}  (hC : gC y z l cX9_othersOf RX9 4 wX9_othersOf rmX9_othersOf) (hR : gRV y z mL Q) (hZ : gZm z)  :
    ∀ (n : Nat) (x3 : Int) (M : gMem), fX9_othersOf_L16 n x3 M Q → gW y z mL 16 [some (vr z 0), none, none, some (vi x3)] [] M := by
  intro n
  induction n with
  | zero => intro x3 M h; exact False.elim h
  | succ n16 ih =>
    intro x3 M h
    replace h : (rg x3 ∧ rg (M 0 10) ∧ ((M 0 10) < x3 →
    Q M) ∧
    (¬ (M 0 10) < x3 →
    ((0 ≤ x3 ∧ x3 < 601) ∧ ((0 ≤ x3 ∧ x3 < 601) ∧ ∀ M_8, M_8 = gSt M 11 x3 (M 10 x3) → fX9_othersOf_L16 n16 (x3 + 1) M_8 Q)))) := h
    refine g_iload_n hC dX9_othersOf_16 rfl rfl ?_
    refine g_aload_n hC dX9_othersOf_17 rfl rfl ?_
    refine g_geti (ji := 10) hC rfl (gm_k9 hZ) iwX9 10 (by decide) rfl rfl (wc wd_698) dX9_othersOf_18 rfl ?_
    obtain ⟨hr_3, hr_4, hA, hB⟩ := h
    refine g_cgt hC 42 hr_3 hr_4 dX9_othersOf_21 (by decide) (fun hc_5 => ?_) (fun hc_5 => ?_)
    · replace h := hA hc_5
      clear hA hB
      exact g_vret hC hR dX9_othersOf_42 h
    · replace h := hB hc_5
      clear hA hB
      refine g_aload_n hC dX9_othersOf_24 rfl rfl ?_
      refine g_getr (r := 11) hC rfl (gm_k9 hZ) iwX9 12 (by decide) rfl rfl (wc wd_700) dX9_othersOf_25 ?_
      refine g_iload_n hC dX9_othersOf_28 rfl rfl ?_
      refine g_aload_n hC dX9_othersOf_29 rfl rfl ?_
      refine g_getr (r := 10) hC rfl (gm_k9 hZ) iwX9 11 (by decide) rfl rfl (wc wd_699) dX9_othersOf_30 ?_
      refine g_iload_n hC dX9_othersOf_33 rfl rfl ?_
      obtain ⟨hb_6, h⟩ := h
      refine g_iald hC 0 rfl (m_t0 hZ) (by decide) hb_6 dX9_othersOf_34 ?_
      obtain ⟨hb_7, h⟩ := h
      obtain ⟨M_8, hM_8⟩ : ∃ M9, M9 = gSt M 11 x3 (M 10 x3) := ⟨_, rfl⟩
      replace h := h M_8 hM_8
      refine g_iast hC 0 rfl (m_t0 hZ) (by decide) hb_7 dX9_othersOf_35 hM_8 ?_
      refine g_iinc2 (lc' := [some (vr z 0), none, none, some (vi (x3 + 1))]) hC dX9_othersOf_36 rfl rfl ?_
      refine g_goto hC 16 dX9_othersOf_39 (by decide) ?_
      exact g_subk (ih (x3 + 1) M_8 h) (And.intro rfl (And.intro rfl trivial))
def fX9_othersOf (x1 : Int) (x2 : Int) (M : gMem) (Q : gMem → Prop) : Prop :=
  (fX9_cutsOf x1 x2 M (fun M_1 =>
  (∀ M_2, M_2 = gSt M_1 0 13 (M_1 0 10) → ∃ n_9, fX9_othersOf_L16 n_9 0 M_2 Q)))
set_option maxHeartbeats 4000000 in
set_option maxRecDepth 100000 in
theorem ctX9_othersOf {l : Launch} {z : gZ} (hZ : gZm z) {x1 : Int} {x2 : Int}  {M : gMem} {Q : gMem → Prop} (h : fX9_othersOf x1 x2 M Q) : gMV l z mL yX9_othersOf wX9_othersOf rmX9_othersOf [(vr z 0), (vi x1), (vi x2)] M Q := by
  refine g_metV (by decide) rfl rfl (gCat_all (And.intro rfl (And.intro rfl (And.intro rfl trivial)))) (Nat.le_of_ble_eq_true rfl) ?_
  intro y hC hR
  replace h : (fX9_cutsOf x1 x2 M (fun M_1 =>
  (∀ M_2, M_2 = gSt M_1 0 13 (M_1 0 10) → ∃ n_9, fX9_othersOf_L16 n_9 0 M_2 Q))) := h
  refine g_lc (lc' := [some (vr z 0), some (vi x1), some (vi x2), none]) rfl ?_
  refine g_aload_n hC dX9_othersOf_0 rfl rfl ?_
  refine g_iload_n hC dX9_othersOf_1 rfl rfl ?_
  refine g_iload_n hC dX9_othersOf_2 rfl rfl ?_
  refine g_callv (g_runV (As := [(vi x1), (vi x2)]) (rest := []) hC rfl (ctX9_cutsOf hZ  h) rfl (gm_k9 hZ) (kwX9_cutsOf (by decide) (by decide)) rfl (wc wd_869) (wc wd_871) (wc wd_24) rfl (Nat.le_of_ble_eq_true rfl) rfl dX9_othersOf_3) (fun M_1 h => ?_)
  refine g_aload_n hC dX9_othersOf_6 rfl rfl ?_
  refine g_aload_n hC dX9_othersOf_7 rfl rfl ?_
  refine g_geti (ji := 10) hC rfl (gm_k9 hZ) iwX9 10 (by decide) rfl rfl (wc wd_698) dX9_othersOf_8 rfl ?_
  obtain ⟨M_2, hM_2⟩ : ∃ M9, M9 = gSt M_1 0 13 (M_1 0 10) := ⟨_, rfl⟩
  replace h := h M_2 hM_2
  refine g_puti (ji := 13) hC rfl (gm_k9 hZ) iwX9 tyX9_ok nmX9 13 (by decide) rfl rfl (wc wd_701) rfl rfl dX9_othersOf_11 rfl hM_2 ?_
  refine g_iconst hC dX9_othersOf_14 ?_
  refine g_istore_n2 (lc' := [some (vr z 0), some (vi x1), some (vi x2), some (vi 0)]) hC dX9_othersOf_15 rfl (Nat.le_of_ble_eq_true rfl) rfl ?_
  obtain ⟨n_9, h⟩ := h
  refine g_subk (ctX9_othersOf_L16 hC hR hZ  n_9 0 M_2 h) (And.intro rfl (And.intro rfl trivial))
abbrev wX9_agree : List Cond := Cond.code yX9_agree cX9_agree 5 (some .int) :: gTs
abbrev rmX9_agree : Room := { frames := 4, cells := 0, slots := 0, locals := 98 }
theorem kwX9_agree {c0 : Cond} {rm : Room} (h1 : rmX9_agree.frames + 1 ≤ rm.frames) (h2 : 8 + (5 + 11) + rmX9_agree.locals ≤ rm.locals) : gCw (c0 :: gTs) rm yX9_agree cX9_agree 5 (some .int) wX9_agree rmX9_agree 3 := gCw_of wd_888 wd_49 h1 h2 (by decide +kernel)
def fX9_agree_L39  (x2 : Int) (x3 : Int) (M : gMem) : Nat → Int → (Int → gMem → Prop) → Prop
  | 0, _, _ => False
  | n39 + 1, x4, Q =>
    (rg x4 ∧ rg (M 0 10) ∧ (x4 < (M 0 10) →
    (rg x4 ∧ rg (M 0 13) ∧ (x4 < (M 0 13) →
      ((0 ≤ (((M 0 13) - 1) - x4) ∧ (((M 0 13) - 1) - x4) < 601) ∧ ((0 ≤ ((M 0 13) - x4) ∧ ((M 0 13) - x4) < 601) ∧ ((0 ≤ (((M 0 10) - 1) - x4) ∧ (((M 0 10) - 1) - x4) < 601) ∧ ((0 ≤ ((M 0 10) - x4) ∧ ((M 0 10) - x4) < 601) ∧ (fX9_isAlike x2 (M 11 (((M 0 13) - 1) - x4)) (M 11 ((M 0 13) - x4)) x3 (M 10 (((M 0 10) - 1) - x4)) (M 10 ((M 0 10) - x4)) M (fun r_25 =>
        (rg r_25 ∧ (r_25 = 0 →
        Q x4 M) ∧
        (¬ r_25 = 0 →
        fX9_agree_L39 x2 x3 M n39 (x4 + 1) Q))))))))) ∧
      (¬ x4 < (M 0 13) →
      Q x4 M))) ∧
    (¬ x4 < (M 0 10) →
    Q x4 M))
set_option maxHeartbeats 4000000 in
set_option maxRecDepth 100000 in
theorem ctX9_agree_L39 {y : gY} {z : gZ} {l : Launch} {x2 : Int} {x3 : Int} {M : gMem} {Q : Int → gMem → Prop}  (hC : gC y z l cX9_agree RX9 5 wX9_agree rmX9_agree) (hR : gRI y z mL .int Q) (hZ : gZm z)  :
    ∀ (n : Nat) (x4 : Int), fX9_agree_L39 x2 x3 M n x4 Q → gW y z mL 39 [some (vr z 0), none, some (vi x2), some (vi x3), some (vi x4)] [] M := by
  intro n
  induction n with
  | zero => intro x4 h; exact False.elim h
  | succ n39 ih =>
    intro x4 h
    replace h : (rg x4 ∧ rg (M 0 10) ∧ (x4 < (M 0 10) →
    (rg x4 ∧ rg (M 0 13) ∧ (x4 < (M 0 13) →
      ((0 ≤ (((M 0 13) - 1) - x4) ∧ (((M 0 13) - 1) - x4) < 601) ∧ ((0 ≤ ((M 0 13) - x4) ∧ ((M 0 13) - x4) < 601) ∧ ((0 ≤ (((M 0 10) - 1) - x4) ∧ (((M 0 10) - 1) - x4) < 601) ∧ ((0 ≤ ((M 0 10) - x4) ∧ ((M 0 10) - x4) < 601) ∧ (fX9_isAlike x2 (M 11 (((M 0 13) - 1) - x4)) (M 11 ((M 0 13) - x4)) x3 (M 10 (((M 0 10) - 1) - x4)) (M 10 ((M 0 10) - x4)) M (fun r_25 =>
        (rg r_25 ∧ (r_25 = 0 →
        Q x4 M) ∧
        (¬ r_25 = 0 →
        fX9_agree_L39 x2 x3 M n39 (x4 + 1) Q))))))))) ∧
      (¬ x4 < (M 0 13) →
      Q x4 M))) ∧
    (¬ x4 < (M 0 10) →
    Q x4 M)) := h
    refine g_iload hC dX9_agree_39 rfl ?_
    refine g_aload_n hC dX9_agree_41 rfl rfl ?_
    refine g_geti (ji := 10) hC rfl (gm_k9 hZ) iwX9 10 (by decide) rfl rfl (wc wd_698) dX9_agree_42 rfl ?_
    obtain ⟨hr_15, hr_16, hA, hB⟩ := h
    refine g_cge hC 124 hr_15 hr_16 dX9_agree_45 (by decide) (fun hc_17 => ?_) (fun hc_17 => ?_)
    · replace h := hA hc_17
      clear hA hB
      refine g_iload hC dX9_agree_48 rfl ?_
      refine g_aload_n hC dX9_agree_50 rfl rfl ?_
      refine g_geti (ji := 13) hC rfl (gm_k9 hZ) iwX9 13 (by decide) rfl rfl (wc wd_701) dX9_agree_51 rfl ?_
      obtain ⟨hr_18, hr_19, hA, hB⟩ := h
      refine g_cge hC 124 hr_18 hr_19 dX9_agree_54 (by decide) (fun hc_20 => ?_) (fun hc_20 => ?_)
      · replace h := hA hc_20
        clear hA hB
        refine g_aload_n hC dX9_agree_57 rfl rfl ?_
        refine g_iload_n hC dX9_agree_58 rfl rfl ?_
        refine g_aload_n hC dX9_agree_59 rfl rfl ?_
        refine g_getr (r := 11) hC rfl (gm_k9 hZ) iwX9 12 (by decide) rfl rfl (wc wd_700) dX9_agree_60 ?_
        refine g_aload_n hC dX9_agree_63 rfl rfl ?_
        refine g_geti (ji := 13) hC rfl (gm_k9 hZ) iwX9 13 (by decide) rfl rfl (wc wd_701) dX9_agree_64 rfl ?_
        refine g_iconst hC dX9_agree_67 ?_
        refine g_isub hC dX9_agree_68 ?_
        refine g_iload hC dX9_agree_69 rfl ?_
        refine g_isub hC dX9_agree_71 ?_
        obtain ⟨hb_21, h⟩ := h
        refine g_iald hC 0 rfl (m_t0 hZ) (by decide) hb_21 dX9_agree_72 ?_
        refine g_aload_n hC dX9_agree_73 rfl rfl ?_
        refine g_getr (r := 11) hC rfl (gm_k9 hZ) iwX9 12 (by decide) rfl rfl (wc wd_700) dX9_agree_74 ?_
        refine g_aload_n hC dX9_agree_77 rfl rfl ?_
        refine g_geti (ji := 13) hC rfl (gm_k9 hZ) iwX9 13 (by decide) rfl rfl (wc wd_701) dX9_agree_78 rfl ?_
        refine g_iload hC dX9_agree_81 rfl ?_
        refine g_isub hC dX9_agree_83 ?_
        obtain ⟨hb_22, h⟩ := h
        refine g_iald hC 0 rfl (m_t0 hZ) (by decide) hb_22 dX9_agree_84 ?_
        refine g_iload_n hC dX9_agree_85 rfl rfl ?_
        refine g_aload_n hC dX9_agree_86 rfl rfl ?_
        refine g_getr (r := 10) hC rfl (gm_k9 hZ) iwX9 11 (by decide) rfl rfl (wc wd_699) dX9_agree_87 ?_
        refine g_aload_n hC dX9_agree_90 rfl rfl ?_
        refine g_geti (ji := 10) hC rfl (gm_k9 hZ) iwX9 10 (by decide) rfl rfl (wc wd_698) dX9_agree_91 rfl ?_
        refine g_iconst hC dX9_agree_94 ?_
        refine g_isub hC dX9_agree_95 ?_
        refine g_iload hC dX9_agree_96 rfl ?_
        refine g_isub hC dX9_agree_98 ?_
        obtain ⟨hb_23, h⟩ := h
        refine g_iald hC 0 rfl (m_t0 hZ) (by decide) hb_23 dX9_agree_99 ?_
        refine g_aload_n hC dX9_agree_100 rfl rfl ?_
        refine g_getr (r := 10) hC rfl (gm_k9 hZ) iwX9 11 (by decide) rfl rfl (wc wd_699) dX9_agree_101 ?_
        refine g_aload_n hC dX9_agree_104 rfl rfl ?_
        refine g_geti (ji := 10) hC rfl (gm_k9 hZ) iwX9 10 (by decide) rfl rfl (wc wd_698) dX9_agree_105 rfl ?_
        refine g_iload hC dX9_agree_108 rfl ?_
        refine g_isub hC dX9_agree_110 ?_
        obtain ⟨hb_24, h⟩ := h
        refine g_iald hC 0 rfl (m_t0 hZ) (by decide) hb_24 dX9_agree_111 ?_
        refine g_calli (g_runV (As := [(vi x2), (vi (M 11 (((M 0 13) - 1) - x4))), (vi (M 11 ((M 0 13) - x4))), (vi x3), (vi (M 10 (((M 0 10) - 1) - x4))), (vi (M 10 ((M 0 10) - x4)))]) (rest := []) hC rfl (ctX9_isAlike hZ  h) rfl (gm_k9 hZ) (kwX9_isAlike (by decide) (by decide)) rfl (wc wd_893) (wc wd_895) (wc wd_28) rfl (Nat.le_of_ble_eq_true rfl) rfl dX9_agree_112) (fun r_25 M_26 h => ?_)
        obtain ⟨rfl, h⟩ := h
        obtain ⟨hr_27, hA, hB⟩ := h
        refine g_ieq hC 124 hr_27 dX9_agree_115 (by decide) (fun hc_28 => ?_) (fun hc_28 => ?_)
        · replace h := hA hc_28
          clear hA hB
          refine g_iload hC dX9_agree_124 rfl ?_
          exact g_iret hC hR dX9_agree_126 h
        · replace h := hB hc_28
          clear hA hB
          refine g_iinc2 (lc' := [some (vr z 0), none, some (vi x2), some (vi x3), some (vi (x4 + 1))]) hC dX9_agree_118 rfl rfl ?_
          refine g_goto hC 39 dX9_agree_121 (by decide) ?_
          exact g_subk (ih (x4 + 1) h) (And.intro rfl (And.intro rfl (And.intro rfl (And.intro rfl trivial))))
      · replace h := hB hc_20
        clear hA hB
        refine g_iload hC dX9_agree_124 rfl ?_
        exact g_iret hC hR dX9_agree_126 h
    · replace h := hB hc_17
      clear hA hB
      refine g_iload hC dX9_agree_124 rfl ?_
      exact g_iret hC hR dX9_agree_126 h
def fX9_agree (x1 : Int) (x2 : Int) (x3 : Int) (M : gMem) (Q : Int → gMem → Prop) : Prop :=
  (fX9_isRule x1 M (fun r_1 =>
  (rg r_1 ∧ (r_1 = 0 →
  Q (-1) M) ∧
  (¬ r_1 = 0 →
  (fX9_isFile x2 M (fun r_5 =>
    (rg r_5 ∧ (r_5 = 0 →
    Q (-1) M) ∧
    (¬ r_5 = 0 →
    (fX9_isFile x3 M (fun r_9 =>
      (rg r_9 ∧ (r_9 = 0 →
      Q (-1) M) ∧
      (¬ r_9 = 0 →
      (fX9_othersOf x1 x2 M (fun M_13 =>
        (fX9_cutsOf x1 x3 M_13 (fun M_14 =>
        ∃ n_29, fX9_agree_L39 x2 x3 M_14 n_29 0 Q))))))))))))))))
set_option maxHeartbeats 4000000 in
set_option maxRecDepth 100000 in
theorem ctX9_agree {l : Launch} {z : gZ} (hZ : gZm z) {x1 : Int} {x2 : Int} {x3 : Int}  {M : gMem} {Q : Int → gMem → Prop} (h : fX9_agree x1 x2 x3 M Q) : gMI l z mL yX9_agree wX9_agree rmX9_agree [(vr z 0), (vi x1), (vi x2), (vi x3)] M Q := by
  refine g_metI .int (by decide) rfl rfl (gCat_all (And.intro rfl (And.intro rfl (And.intro rfl (And.intro rfl trivial))))) (Nat.le_of_ble_eq_true rfl) ?_
  intro y hC hR
  replace h : (fX9_isRule x1 M (fun r_1 =>
  (rg r_1 ∧ (r_1 = 0 →
  Q (-1) M) ∧
  (¬ r_1 = 0 →
  (fX9_isFile x2 M (fun r_5 =>
    (rg r_5 ∧ (r_5 = 0 →
    Q (-1) M) ∧
    (¬ r_5 = 0 →
    (fX9_isFile x3 M (fun r_9 =>
      (rg r_9 ∧ (r_9 = 0 →
      Q (-1) M) ∧
      (¬ r_9 = 0 →
      (fX9_othersOf x1 x2 M (fun M_13 =>
        (fX9_cutsOf x1 x3 M_13 (fun M_14 =>
        ∃ n_29, fX9_agree_L39 x2 x3 M_14 n_29 0 Q)))))))))))))))) := h
  refine g_lc (lc' := [some (vr z 0), some (vi x1), some (vi x2), some (vi x3), none]) rfl ?_
  refine g_aload_n hC dX9_agree_0 rfl rfl ?_
  refine g_iload_n hC dX9_agree_1 rfl rfl ?_
  refine g_calli (g_runV (As := [(vi x1)]) (rest := []) hC rfl (ctX9_isRule hZ  h) rfl (gm_k9 hZ) (kwX9_isRule (by decide) (by decide)) rfl (wc wd_852) (wc wd_854) (wc wd_21) rfl (Nat.le_of_ble_eq_true rfl) rfl dX9_agree_2) (fun r_1 M_2 h => ?_)
  obtain ⟨rfl, h⟩ := h
  obtain ⟨hr_3, hA, hB⟩ := h
  refine g_ieq hC 22 hr_3 dX9_agree_5 (by decide) (fun hc_4 => ?_) (fun hc_4 => ?_)
  · replace h := hA hc_4
    clear hA hB
    refine g_iconst hC dX9_agree_22 ?_
    exact g_iret hC hR dX9_agree_23 h
  · replace h := hB hc_4
    clear hA hB
    refine g_iload_n hC dX9_agree_8 rfl rfl ?_
    refine g_calli (g_runS (As := [(vi x2)]) (rest := []) hC rfl (ctX9_isFile hZ  h) (kwX9_isFile (by decide) (by decide)) (wc wd_813) (wc wd_814) rfl (Nat.le_of_ble_eq_true rfl) rfl dX9_agree_9) (fun r_5 M_6 h => ?_)
    obtain ⟨rfl, h⟩ := h
    obtain ⟨hr_7, hA, hB⟩ := h
    refine g_ieq hC 22 hr_7 dX9_agree_12 (by decide) (fun hc_8 => ?_) (fun hc_8 => ?_)
    · replace h := hA hc_8
      clear hA hB
      refine g_iconst hC dX9_agree_22 ?_
      exact g_iret hC hR dX9_agree_23 h
    · replace h := hB hc_8
      clear hA hB
      refine g_iload_n hC dX9_agree_15 rfl rfl ?_
      refine g_calli (g_runS (As := [(vi x3)]) (rest := []) hC rfl (ctX9_isFile hZ  h) (kwX9_isFile (by decide) (by decide)) (wc wd_813) (wc wd_814) rfl (Nat.le_of_ble_eq_true rfl) rfl dX9_agree_16) (fun r_9 M_10 h => ?_)
      obtain ⟨rfl, h⟩ := h
      obtain ⟨hr_11, hA, hB⟩ := h
      refine g_ine hC 24 hr_11 dX9_agree_19 (by decide) (fun hc_12 => ?_) (fun hc_12 => ?_)
      · replace h := hA hc_12
        clear hA hB
        refine g_iconst hC dX9_agree_22 ?_
        exact g_iret hC hR dX9_agree_23 h
      · replace h := hB hc_12
        clear hA hB
        refine g_aload_n hC dX9_agree_24 rfl rfl ?_
        refine g_iload_n hC dX9_agree_25 rfl rfl ?_
        refine g_iload_n hC dX9_agree_26 rfl rfl ?_
        refine g_callv (g_runV (As := [(vi x1), (vi x2)]) (rest := []) hC rfl (ctX9_othersOf hZ  h) rfl (gm_k9 hZ) (kwX9_othersOf (by decide) (by decide)) rfl (wc wd_889) (wc wd_891) (wc wd_27) rfl (Nat.le_of_ble_eq_true rfl) rfl dX9_agree_27) (fun M_13 h => ?_)
        refine g_aload_n hC dX9_agree_30 rfl rfl ?_
        refine g_iload_n hC dX9_agree_31 rfl rfl ?_
        refine g_iload_n hC dX9_agree_32 rfl rfl ?_
        refine g_callv (g_runV (As := [(vi x1), (vi x3)]) (rest := []) hC rfl (ctX9_cutsOf hZ  h) rfl (gm_k9 hZ) (kwX9_cutsOf (by decide) (by decide)) rfl (wc wd_869) (wc wd_871) (wc wd_24) rfl (Nat.le_of_ble_eq_true rfl) rfl dX9_agree_33) (fun M_14 h => ?_)
        refine g_iconst hC dX9_agree_36 ?_
        refine g_istore2 (lc' := [some (vr z 0), some (vi x1), some (vi x2), some (vi x3), some (vi 0)]) hC dX9_agree_37 (Nat.le_of_ble_eq_true rfl) rfl ?_
        obtain ⟨n_29, h⟩ := h
        refine g_subk (ctX9_agree_L39 hC hR hZ  n_29 0 h) (And.intro rfl (And.intro rfl (And.intro rfl (And.intro rfl trivial))))
abbrev wX9_sent : List Cond := Cond.code yX9_sent cX9_sent 8 (some .int) :: gTs
abbrev rmX9_sent : Room := { frames := 4, cells := 0, slots := 0, locals := 98 }
theorem kwX9_sent {c0 : Cond} {rm : Room} (h1 : rmX9_sent.frames + 1 ≤ rm.frames) (h2 : 8 + (8 + 11) + rmX9_sent.locals ≤ rm.locals) : gCw (c0 :: gTs) rm yX9_sent cX9_sent 8 (some .int) wX9_sent rmX9_sent 3 := gCw_of wd_900 wd_49 h1 h2 (by decide +kernel)
def fX9_sent_L57  (x2 : Int) (x3 : Int) (x5 : Int) (M : gMem) : Nat → Int → Int → (Int → Prop) → (Int → gMem → Prop) → Prop
  | 0, _, _, _, _ => False
  | n57 + 1, x6, x7, K117, Q =>
    (rg x7 ∧ rg (M 0 13) ∧ (x7 < (M 0 13) →
    (rg x6 ∧ (x6 = 0 →
      ((0 ≤ x7 ∧ x7 < 601) ∧ ((0 ≤ (x7 + 1) ∧ (x7 + 1) < 601) ∧ ((0 ≤ x5 ∧ x5 < 601) ∧ ((0 ≤ (x5 + 1) ∧ (x5 + 1) < 601) ∧ (fX9_isAlike x2 (M 11 x7) (M 11 (x7 + 1)) x3 (M 10 x5) (M 10 (x5 + 1)) M (fun r_27 =>
        fX9_sent_L57 x2 x3 x5 M n57 r_27 (x7 + 1) K117 Q))))))) ∧
      (¬ x6 = 0 →
      K117 x6))) ∧
    (¬ x7 < (M 0 13) →
    K117 x6))
set_option maxHeartbeats 4000000 in
set_option maxRecDepth 100000 in
theorem ctX9_sent_L57 {y : gY} {z : gZ} {l : Launch} {x2 : Int} {x3 : Int} {x4 : Int} {x5 : Int} {M : gMem} {Q : Int → gMem → Prop} {K117 : Int → Prop} (hC : gC y z l cX9_sent RX9 8 wX9_sent rmX9_sent) (hR : gRI y z mL .int Q) (hZ : gZm z)  (hK117 : ∀ (x6 : Int), K117 x6 → gW y z mL 117 [some (vr z 0), none, some (vi x2), some (vi x3), some (vi x4), some (vi x5), some (vi x6), none] [] M) :
    ∀ (n : Nat) (x6 : Int) (x7 : Int), fX9_sent_L57 x2 x3 x5 M n x6 x7 K117 Q → gW y z mL 57 [some (vr z 0), none, some (vi x2), some (vi x3), some (vi x4), some (vi x5), some (vi x6), some (vi x7)] [] M := by
  intro n
  induction n with
  | zero => intro x6 x7 h; exact False.elim h
  | succ n57 ih =>
    intro x6 x7 h
    replace h : (rg x7 ∧ rg (M 0 13) ∧ (x7 < (M 0 13) →
    (rg x6 ∧ (x6 = 0 →
      ((0 ≤ x7 ∧ x7 < 601) ∧ ((0 ≤ (x7 + 1) ∧ (x7 + 1) < 601) ∧ ((0 ≤ x5 ∧ x5 < 601) ∧ ((0 ≤ (x5 + 1) ∧ (x5 + 1) < 601) ∧ (fX9_isAlike x2 (M 11 x7) (M 11 (x7 + 1)) x3 (M 10 x5) (M 10 (x5 + 1)) M (fun r_27 =>
        fX9_sent_L57 x2 x3 x5 M n57 r_27 (x7 + 1) K117 Q))))))) ∧
      (¬ x6 = 0 →
      K117 x6))) ∧
    (¬ x7 < (M 0 13) →
    K117 x6)) := h
    refine g_iload hC dX9_sent_57 rfl ?_
    refine g_aload_n hC dX9_sent_59 rfl rfl ?_
    refine g_geti (ji := 13) hC rfl (gm_k9 hZ) iwX9 13 (by decide) rfl rfl (wc wd_701) dX9_sent_60 rfl ?_
    obtain ⟨hr_18, hr_19, hA, hB⟩ := h
    refine g_cge hC 117 hr_18 hr_19 dX9_sent_63 (by decide) (fun hc_20 => ?_) (fun hc_20 => ?_)
    · replace h := hA hc_20
      clear hA hB
      refine g_iload hC dX9_sent_66 rfl ?_
      obtain ⟨hr_21, hA, hB⟩ := h
      refine g_ine hC 117 hr_21 dX9_sent_68 (by decide) (fun hc_22 => ?_) (fun hc_22 => ?_)
      · replace h := hA hc_22
        clear hA hB
        refine g_aload_n hC dX9_sent_71 rfl rfl ?_
        refine g_iload_n hC dX9_sent_72 rfl rfl ?_
        refine g_aload_n hC dX9_sent_73 rfl rfl ?_
        refine g_getr (r := 11) hC rfl (gm_k9 hZ) iwX9 12 (by decide) rfl rfl (wc wd_700) dX9_sent_74 ?_
        refine g_iload hC dX9_sent_77 rfl ?_
        obtain ⟨hb_23, h⟩ := h
        refine g_iald hC 0 rfl (m_t0 hZ) (by decide) hb_23 dX9_sent_79 ?_
        refine g_aload_n hC dX9_sent_80 rfl rfl ?_
        refine g_getr (r := 11) hC rfl (gm_k9 hZ) iwX9 12 (by decide) rfl rfl (wc wd_700) dX9_sent_81 ?_
        refine g_iload hC dX9_sent_84 rfl ?_
        refine g_iconst hC dX9_sent_86 ?_
        refine g_iadd hC dX9_sent_87 ?_
        obtain ⟨hb_24, h⟩ := h
        refine g_iald hC 0 rfl (m_t0 hZ) (by decide) hb_24 dX9_sent_88 ?_
        refine g_iload_n hC dX9_sent_89 rfl rfl ?_
        refine g_aload_n hC dX9_sent_90 rfl rfl ?_
        refine g_getr (r := 10) hC rfl (gm_k9 hZ) iwX9 11 (by decide) rfl rfl (wc wd_699) dX9_sent_91 ?_
        refine g_iload hC dX9_sent_94 rfl ?_
        obtain ⟨hb_25, h⟩ := h
        refine g_iald hC 0 rfl (m_t0 hZ) (by decide) hb_25 dX9_sent_96 ?_
        refine g_aload_n hC dX9_sent_97 rfl rfl ?_
        refine g_getr (r := 10) hC rfl (gm_k9 hZ) iwX9 11 (by decide) rfl rfl (wc wd_699) dX9_sent_98 ?_
        refine g_iload hC dX9_sent_101 rfl ?_
        refine g_iconst hC dX9_sent_103 ?_
        refine g_iadd hC dX9_sent_104 ?_
        obtain ⟨hb_26, h⟩ := h
        refine g_iald hC 0 rfl (m_t0 hZ) (by decide) hb_26 dX9_sent_105 ?_
        refine g_calli (g_runV (As := [(vi x2), (vi (M 11 x7)), (vi (M 11 (x7 + 1))), (vi x3), (vi (M 10 x5)), (vi (M 10 (x5 + 1)))]) (rest := []) hC rfl (ctX9_isAlike hZ  h) rfl (gm_k9 hZ) (kwX9_isAlike (by decide) (by decide)) rfl (wc wd_893) (wc wd_895) (wc wd_28) rfl (Nat.le_of_ble_eq_true rfl) rfl dX9_sent_106) (fun r_27 M_28 h => ?_)
        obtain ⟨rfl, h⟩ := h
        refine g_istore2 (lc' := [some (vr z 0), none, some (vi x2), some (vi x3), some (vi x4), some (vi x5), some (vi r_27), some (vi x7)]) hC dX9_sent_109 (Nat.le_of_ble_eq_true rfl) rfl ?_
        refine g_iinc2 (lc' := [some (vr z 0), none, some (vi x2), some (vi x3), some (vi x4), some (vi x5), some (vi r_27), some (vi (x7 + 1))]) hC dX9_sent_111 rfl rfl ?_
        refine g_goto hC 57 dX9_sent_114 (by decide) ?_
        exact g_subk (ih r_27 (x7 + 1) h) (And.intro rfl (And.intro rfl (And.intro rfl (And.intro rfl (And.intro rfl (And.intro rfl (And.intro rfl trivial)))))))
      · replace h := hB hc_22
        clear hA hB
        exact g_subk (hK117 x6 h) (And.intro rfl (And.intro rfl (And.intro rfl (And.intro rfl (And.intro rfl (And.intro rfl trivial))))))
    · replace h := hB hc_20
      clear hA hB
      exact g_subk (hK117 x6 h) (And.intro rfl (And.intro rfl (And.intro rfl (And.intro rfl (And.intro rfl (And.intro rfl trivial))))))
def fX9_sent_L120  (x3 : Int) (x5 : Int) (M : gMem) : Nat → Int → Int → (Int → Prop) → (Int → gMem → Prop) → Prop
  | 0, _, _, _, _ => False
  | n120 + 1, x6, x7, K178, Q =>
    (rg x7 ∧ rg x5 ∧ (x7 < x5 →
    (rg x6 ∧ (x6 = 0 →
      ((0 ≤ x7 ∧ x7 < 601) ∧ ((0 ≤ (x7 + 1) ∧ (x7 + 1) < 601) ∧ ((0 ≤ x5 ∧ x5 < 601) ∧ ((0 ≤ (x5 + 1) ∧ (x5 + 1) < 601) ∧ (fX9_isAlike x3 (M 10 x7) (M 10 (x7 + 1)) x3 (M 10 x5) (M 10 (x5 + 1)) M (fun r_39 =>
        fX9_sent_L120 x3 x5 M n120 r_39 (x7 + 1) K178 Q))))))) ∧
      (¬ x6 = 0 →
      K178 x6))) ∧
    (¬ x7 < x5 →
    K178 x6))
set_option maxHeartbeats 4000000 in
set_option maxRecDepth 100000 in
theorem ctX9_sent_L120 {y : gY} {z : gZ} {l : Launch} {x2 : Int} {x3 : Int} {x4 : Int} {x5 : Int} {M : gMem} {Q : Int → gMem → Prop} {K178 : Int → Prop} (hC : gC y z l cX9_sent RX9 8 wX9_sent rmX9_sent) (hR : gRI y z mL .int Q) (hZ : gZm z)  (hK178 : ∀ (x6 : Int), K178 x6 → gW y z mL 178 [some (vr z 0), none, some (vi x2), some (vi x3), some (vi x4), some (vi x5), some (vi x6), none] [] M) :
    ∀ (n : Nat) (x6 : Int) (x7 : Int), fX9_sent_L120 x3 x5 M n x6 x7 K178 Q → gW y z mL 120 [some (vr z 0), none, some (vi x2), some (vi x3), some (vi x4), some (vi x5), some (vi x6), some (vi x7)] [] M := by
  intro n
  induction n with
  | zero => intro x6 x7 h; exact False.elim h
  | succ n120 ih =>
    intro x6 x7 h
    replace h : (rg x7 ∧ rg x5 ∧ (x7 < x5 →
    (rg x6 ∧ (x6 = 0 →
      ((0 ≤ x7 ∧ x7 < 601) ∧ ((0 ≤ (x7 + 1) ∧ (x7 + 1) < 601) ∧ ((0 ≤ x5 ∧ x5 < 601) ∧ ((0 ≤ (x5 + 1) ∧ (x5 + 1) < 601) ∧ (fX9_isAlike x3 (M 10 x7) (M 10 (x7 + 1)) x3 (M 10 x5) (M 10 (x5 + 1)) M (fun r_39 =>
        fX9_sent_L120 x3 x5 M n120 r_39 (x7 + 1) K178 Q))))))) ∧
      (¬ x6 = 0 →
      K178 x6))) ∧
    (¬ x7 < x5 →
    K178 x6)) := h
    refine g_iload hC dX9_sent_120 rfl ?_
    refine g_iload hC dX9_sent_122 rfl ?_
    obtain ⟨hr_30, hr_31, hA, hB⟩ := h
    refine g_cge hC 178 hr_30 hr_31 dX9_sent_124 (by decide) (fun hc_32 => ?_) (fun hc_32 => ?_)
    · replace h := hA hc_32
      clear hA hB
      refine g_iload hC dX9_sent_127 rfl ?_
      obtain ⟨hr_33, hA, hB⟩ := h
      refine g_ine hC 178 hr_33 dX9_sent_129 (by decide) (fun hc_34 => ?_) (fun hc_34 => ?_)
      · replace h := hA hc_34
        clear hA hB
        refine g_aload_n hC dX9_sent_132 rfl rfl ?_
        refine g_iload_n hC dX9_sent_133 rfl rfl ?_
        refine g_aload_n hC dX9_sent_134 rfl rfl ?_
        refine g_getr (r := 10) hC rfl (gm_k9 hZ) iwX9 11 (by decide) rfl rfl (wc wd_699) dX9_sent_135 ?_
        refine g_iload hC dX9_sent_138 rfl ?_
        obtain ⟨hb_35, h⟩ := h
        refine g_iald hC 0 rfl (m_t0 hZ) (by decide) hb_35 dX9_sent_140 ?_
        refine g_aload_n hC dX9_sent_141 rfl rfl ?_
        refine g_getr (r := 10) hC rfl (gm_k9 hZ) iwX9 11 (by decide) rfl rfl (wc wd_699) dX9_sent_142 ?_
        refine g_iload hC dX9_sent_145 rfl ?_
        refine g_iconst hC dX9_sent_147 ?_
        refine g_iadd hC dX9_sent_148 ?_
        obtain ⟨hb_36, h⟩ := h
        refine g_iald hC 0 rfl (m_t0 hZ) (by decide) hb_36 dX9_sent_149 ?_
        refine g_iload_n hC dX9_sent_150 rfl rfl ?_
        refine g_aload_n hC dX9_sent_151 rfl rfl ?_
        refine g_getr (r := 10) hC rfl (gm_k9 hZ) iwX9 11 (by decide) rfl rfl (wc wd_699) dX9_sent_152 ?_
        refine g_iload hC dX9_sent_155 rfl ?_
        obtain ⟨hb_37, h⟩ := h
        refine g_iald hC 0 rfl (m_t0 hZ) (by decide) hb_37 dX9_sent_157 ?_
        refine g_aload_n hC dX9_sent_158 rfl rfl ?_
        refine g_getr (r := 10) hC rfl (gm_k9 hZ) iwX9 11 (by decide) rfl rfl (wc wd_699) dX9_sent_159 ?_
        refine g_iload hC dX9_sent_162 rfl ?_
        refine g_iconst hC dX9_sent_164 ?_
        refine g_iadd hC dX9_sent_165 ?_
        obtain ⟨hb_38, h⟩ := h
        refine g_iald hC 0 rfl (m_t0 hZ) (by decide) hb_38 dX9_sent_166 ?_
        refine g_calli (g_runV (As := [(vi x3), (vi (M 10 x7)), (vi (M 10 (x7 + 1))), (vi x3), (vi (M 10 x5)), (vi (M 10 (x5 + 1)))]) (rest := []) hC rfl (ctX9_isAlike hZ  h) rfl (gm_k9 hZ) (kwX9_isAlike (by decide) (by decide)) rfl (wc wd_893) (wc wd_895) (wc wd_28) rfl (Nat.le_of_ble_eq_true rfl) rfl dX9_sent_167) (fun r_39 M_40 h => ?_)
        obtain ⟨rfl, h⟩ := h
        refine g_istore2 (lc' := [some (vr z 0), none, some (vi x2), some (vi x3), some (vi x4), some (vi x5), some (vi r_39), some (vi x7)]) hC dX9_sent_170 (Nat.le_of_ble_eq_true rfl) rfl ?_
        refine g_iinc2 (lc' := [some (vr z 0), none, some (vi x2), some (vi x3), some (vi x4), some (vi x5), some (vi r_39), some (vi (x7 + 1))]) hC dX9_sent_172 rfl rfl ?_
        refine g_goto hC 120 dX9_sent_175 (by decide) ?_
        exact g_subk (ih r_39 (x7 + 1) h) (And.intro rfl (And.intro rfl (And.intro rfl (And.intro rfl (And.intro rfl (And.intro rfl (And.intro rfl trivial)))))))
      · replace h := hB hc_34
        clear hA hB
        exact g_subk (hK178 x6 h) (And.intro rfl (And.intro rfl (And.intro rfl (And.intro rfl (And.intro rfl (And.intro rfl trivial))))))
    · replace h := hB hc_32
      clear hA hB
      exact g_subk (hK178 x6 h) (And.intro rfl (And.intro rfl (And.intro rfl (And.intro rfl (And.intro rfl (And.intro rfl trivial))))))
def fX9_sent_J178  (x2 : Int) (x3 : Int) (M : gMem) (x4 : Int) (x5 : Int) (x6 : Int) (K42 : Int → Int → Prop) (Q : Int → gMem → Prop) : Prop :=
  (rg x6 ∧ (x6 = 0 →
  ((0 ≤ (x5 + 1) ∧ (x5 + 1) < 601) ∧ ((0 ≤ x5 ∧ x5 < 601) ∧ K42 (x4 + ((M 10 (x5 + 1)) - (M 10 x5))) (x5 + 1)))) ∧
  (¬ x6 = 0 →
  K42 x4 (x5 + 1)))
set_option maxHeartbeats 4000000 in
set_option maxRecDepth 100000 in
theorem ctX9_sent_J178 {y : gY} {z : gZ} {l : Launch}  {x2 : Int} {x3 : Int} {M : gMem} {Q : Int → gMem → Prop} {K42 : Int → Int → Prop} (hC : gC y z l cX9_sent RX9 8 wX9_sent rmX9_sent) (hR : gRI y z mL .int Q) (hZ : gZm z)  (hK42 : ∀ (x4 : Int) (x5 : Int), K42 x4 x5 → gW y z mL 42 [some (vr z 0), none, some (vi x2), some (vi x3), some (vi x4), some (vi x5), none, none] [] M) :
    ∀ (x4 : Int) (x5 : Int) (x6 : Int), fX9_sent_J178 x2 x3 M x4 x5 x6 K42 Q → gW y z mL 178 [some (vr z 0), none, some (vi x2), some (vi x3), some (vi x4), some (vi x5), some (vi x6), none] [] M := by
  intro x4 x5 x6 h
  replace h : (rg x6 ∧ (x6 = 0 →
  ((0 ≤ (x5 + 1) ∧ (x5 + 1) < 601) ∧ ((0 ≤ x5 ∧ x5 < 601) ∧ K42 (x4 + ((M 10 (x5 + 1)) - (M 10 x5))) (x5 + 1)))) ∧
  (¬ x6 = 0 →
  K42 x4 (x5 + 1))) := h
  refine g_iload hC dX9_sent_178 rfl ?_
  obtain ⟨hr_42, hA, hB⟩ := h
  refine g_ine hC 205 hr_42 dX9_sent_180 (by decide) (fun hc_43 => ?_) (fun hc_43 => ?_)
  · replace h := hA hc_43
    clear hA hB
    refine g_iload hC dX9_sent_183 rfl ?_
    refine g_aload_n hC dX9_sent_185 rfl rfl ?_
    refine g_getr (r := 10) hC rfl (gm_k9 hZ) iwX9 11 (by decide) rfl rfl (wc wd_699) dX9_sent_186 ?_
    refine g_iload hC dX9_sent_189 rfl ?_
    refine g_iconst hC dX9_sent_191 ?_
    refine g_iadd hC dX9_sent_192 ?_
    obtain ⟨hb_44, h⟩ := h
    refine g_iald hC 0 rfl (m_t0 hZ) (by decide) hb_44 dX9_sent_193 ?_
    refine g_aload_n hC dX9_sent_194 rfl rfl ?_
    refine g_getr (r := 10) hC rfl (gm_k9 hZ) iwX9 11 (by decide) rfl rfl (wc wd_699) dX9_sent_195 ?_
    refine g_iload hC dX9_sent_198 rfl ?_
    obtain ⟨hb_45, h⟩ := h
    refine g_iald hC 0 rfl (m_t0 hZ) (by decide) hb_45 dX9_sent_200 ?_
    refine g_isub hC dX9_sent_201 ?_
    refine g_iadd hC dX9_sent_202 ?_
    refine g_istore2 (lc' := [some (vr z 0), none, some (vi x2), some (vi x3), some (vi (x4 + ((M 10 (x5 + 1)) - (M 10 x5)))), some (vi x5), some (vi x6), none]) hC dX9_sent_203 (Nat.le_of_ble_eq_true rfl) rfl ?_
    refine g_iinc2 (lc' := [some (vr z 0), none, some (vi x2), some (vi x3), some (vi (x4 + ((M 10 (x5 + 1)) - (M 10 x5)))), some (vi (x5 + 1)), some (vi x6), none]) hC dX9_sent_205 rfl rfl ?_
    refine g_goto hC 42 dX9_sent_208 (by decide) ?_
    exact g_subk (hK42 (x4 + ((M 10 (x5 + 1)) - (M 10 x5))) (x5 + 1) h) (And.intro rfl (And.intro rfl (And.intro rfl (And.intro rfl (And.intro rfl trivial)))))
  · replace h := hB hc_43
    clear hA hB
    refine g_iinc2 (lc' := [some (vr z 0), none, some (vi x2), some (vi x3), some (vi x4), some (vi (x5 + 1)), some (vi x6), none]) hC dX9_sent_205 rfl rfl ?_
    refine g_goto hC 42 dX9_sent_208 (by decide) ?_
    exact g_subk (hK42 x4 (x5 + 1) h) (And.intro rfl (And.intro rfl (And.intro rfl (And.intro rfl (And.intro rfl trivial)))))
def fX9_sent_L42  (x2 : Int) (x3 : Int) (M : gMem) : Nat → Int → Int → (Int → gMem → Prop) → Prop
  | 0, _, _, _ => False
  | n42 + 1, x4, x5, Q =>
    (rg x5 ∧ rg (M 0 10) ∧ (x5 < (M 0 10) →
    ∃ n_49, fX9_sent_L57 x2 x3 x5 M n_49 0 0 (fun x6_29 =>
      ∃ n_48, fX9_sent_L120 x3 x5 M n_48 x6_29 0 (fun x6_41 =>
        fX9_sent_J178 x2 x3 M x4 x5 x6_41 (fun x4_46 x5_47 => fX9_sent_L42 x2 x3 M n42 x4_46 x5_47 Q) Q) Q) Q) ∧
    (¬ x5 < (M 0 10) →
    Q x4 M))
set_option maxHeartbeats 4000000 in
set_option maxRecDepth 100000 in
theorem ctX9_sent_L42 {y : gY} {z : gZ} {l : Launch} {x2 : Int} {x3 : Int} {M : gMem} {Q : Int → gMem → Prop}  (hC : gC y z l cX9_sent RX9 8 wX9_sent rmX9_sent) (hR : gRI y z mL .int Q) (hZ : gZm z)  :
    ∀ (n : Nat) (x4 : Int) (x5 : Int), fX9_sent_L42 x2 x3 M n x4 x5 Q → gW y z mL 42 [some (vr z 0), none, some (vi x2), some (vi x3), some (vi x4), some (vi x5), none, none] [] M := by
  intro n
  induction n with
  | zero => intro x4 x5 h; exact False.elim h
  | succ n42 ih =>
    intro x4 x5 h
    replace h : (rg x5 ∧ rg (M 0 10) ∧ (x5 < (M 0 10) →
    ∃ n_49, fX9_sent_L57 x2 x3 x5 M n_49 0 0 (fun x6_29 =>
      ∃ n_48, fX9_sent_L120 x3 x5 M n_48 x6_29 0 (fun x6_41 =>
        fX9_sent_J178 x2 x3 M x4 x5 x6_41 (fun x4_46 x5_47 => fX9_sent_L42 x2 x3 M n42 x4_46 x5_47 Q) Q) Q) Q) ∧
    (¬ x5 < (M 0 10) →
    Q x4 M)) := h
    refine g_iload hC dX9_sent_42 rfl ?_
    refine g_aload_n hC dX9_sent_44 rfl rfl ?_
    refine g_geti (ji := 10) hC rfl (gm_k9 hZ) iwX9 10 (by decide) rfl rfl (wc wd_698) dX9_sent_45 rfl ?_
    obtain ⟨hr_15, hr_16, hA, hB⟩ := h
    refine g_cge hC 211 hr_15 hr_16 dX9_sent_48 (by decide) (fun hc_17 => ?_) (fun hc_17 => ?_)
    · replace h := hA hc_17
      clear hA hB
      refine g_iconst hC dX9_sent_51 ?_
      refine g_istore2 (lc' := [some (vr z 0), none, some (vi x2), some (vi x3), some (vi x4), some (vi x5), some (vi 0), none]) hC dX9_sent_52 (Nat.le_of_ble_eq_true rfl) rfl ?_
      refine g_iconst hC dX9_sent_54 ?_
      refine g_istore2 (lc' := [some (vr z 0), none, some (vi x2), some (vi x3), some (vi x4), some (vi x5), some (vi 0), some (vi 0)]) hC dX9_sent_55 (Nat.le_of_ble_eq_true rfl) rfl ?_
      obtain ⟨n_49, h⟩ := h
      refine g_subk (ctX9_sent_L57 hC hR hZ ?_ n_49 0 0 h) (And.intro rfl (And.intro rfl (And.intro rfl (And.intro rfl (And.intro rfl (And.intro rfl (And.intro rfl trivial)))))))
      intro x6_29 h
      refine g_iconst hC dX9_sent_117 ?_
      refine g_istore2 (lc' := [some (vr z 0), none, some (vi x2), some (vi x3), some (vi x4), some (vi x5), some (vi x6_29), some (vi 0)]) hC dX9_sent_118 (Nat.le_of_ble_eq_true rfl) rfl ?_
      obtain ⟨n_48, h⟩ := h
      refine g_subk (ctX9_sent_L120 hC hR hZ ?_ n_48 x6_29 0 h) (And.intro rfl (And.intro rfl (And.intro rfl (And.intro rfl (And.intro rfl (And.intro rfl (And.intro rfl trivial)))))))
      intro x6_41 h
      refine g_subk (ctX9_sent_J178 hC hR hZ ?_ x4 x5 x6_41 h) (And.intro rfl (And.intro rfl (And.intro rfl (And.intro rfl (And.intro rfl (And.intro rfl trivial))))))
      · intro x4_46 x5_47 h
        exact g_subk (ih x4_46 x5_47 h) (And.intro rfl (And.intro rfl (And.intro rfl (And.intro rfl (And.intro rfl trivial)))))
    · replace h := hB hc_17
      clear hA hB
      refine g_iload hC dX9_sent_211 rfl ?_
      exact g_iret hC hR dX9_sent_213 h
def fX9_sent (x1 : Int) (x2 : Int) (x3 : Int) (M : gMem) (Q : Int → gMem → Prop) : Prop :=
  (fX9_isRule x1 M (fun r_1 =>
  (rg r_1 ∧ (r_1 = 0 →
  Q (-1) M) ∧
  (¬ r_1 = 0 →
  (fX9_isFile x2 M (fun r_5 =>
    (rg r_5 ∧ (r_5 = 0 →
    Q (-1) M) ∧
    (¬ r_5 = 0 →
    (fX9_isFile x3 M (fun r_9 =>
      (rg r_9 ∧ (r_9 = 0 →
      Q (-1) M) ∧
      (¬ r_9 = 0 →
      (fX9_othersOf x1 x2 M (fun M_13 =>
        (fX9_cutsOf x1 x3 M_13 (fun M_14 =>
        ∃ n_50, fX9_sent_L42 x2 x3 M_14 n_50 0 0 Q))))))))))))))))
set_option maxHeartbeats 4000000 in
set_option maxRecDepth 100000 in
theorem ctX9_sent {l : Launch} {z : gZ} (hZ : gZm z) {x1 : Int} {x2 : Int} {x3 : Int}  {M : gMem} {Q : Int → gMem → Prop} (h : fX9_sent x1 x2 x3 M Q) : gMI l z mL yX9_sent wX9_sent rmX9_sent [(vr z 0), (vi x1), (vi x2), (vi x3)] M Q := by
  refine g_metI .int (by decide) rfl rfl (gCat_all (And.intro rfl (And.intro rfl (And.intro rfl (And.intro rfl trivial))))) (Nat.le_of_ble_eq_true rfl) ?_
  intro y hC hR
  replace h : (fX9_isRule x1 M (fun r_1 =>
  (rg r_1 ∧ (r_1 = 0 →
  Q (-1) M) ∧
  (¬ r_1 = 0 →
  (fX9_isFile x2 M (fun r_5 =>
    (rg r_5 ∧ (r_5 = 0 →
    Q (-1) M) ∧
    (¬ r_5 = 0 →
    (fX9_isFile x3 M (fun r_9 =>
      (rg r_9 ∧ (r_9 = 0 →
      Q (-1) M) ∧
      (¬ r_9 = 0 →
      (fX9_othersOf x1 x2 M (fun M_13 =>
        (fX9_cutsOf x1 x3 M_13 (fun M_14 =>
        ∃ n_50, fX9_sent_L42 x2 x3 M_14 n_50 0 0 Q)))))))))))))))) := h
  refine g_lc (lc' := [some (vr z 0), some (vi x1), some (vi x2), some (vi x3), none, none, none, none]) rfl ?_
  refine g_aload_n hC dX9_sent_0 rfl rfl ?_
  refine g_iload_n hC dX9_sent_1 rfl rfl ?_
  refine g_calli (g_runV (As := [(vi x1)]) (rest := []) hC rfl (ctX9_isRule hZ  h) rfl (gm_k9 hZ) (kwX9_isRule (by decide) (by decide)) rfl (wc wd_852) (wc wd_854) (wc wd_21) rfl (Nat.le_of_ble_eq_true rfl) rfl dX9_sent_2) (fun r_1 M_2 h => ?_)
  obtain ⟨rfl, h⟩ := h
  obtain ⟨hr_3, hA, hB⟩ := h
  refine g_ieq hC 22 hr_3 dX9_sent_5 (by decide) (fun hc_4 => ?_) (fun hc_4 => ?_)
  · replace h := hA hc_4
    clear hA hB
    refine g_iconst hC dX9_sent_22 ?_
    exact g_iret hC hR dX9_sent_23 h
  · replace h := hB hc_4
    clear hA hB
    refine g_iload_n hC dX9_sent_8 rfl rfl ?_
    refine g_calli (g_runS (As := [(vi x2)]) (rest := []) hC rfl (ctX9_isFile hZ  h) (kwX9_isFile (by decide) (by decide)) (wc wd_813) (wc wd_814) rfl (Nat.le_of_ble_eq_true rfl) rfl dX9_sent_9) (fun r_5 M_6 h => ?_)
    obtain ⟨rfl, h⟩ := h
    obtain ⟨hr_7, hA, hB⟩ := h
    refine g_ieq hC 22 hr_7 dX9_sent_12 (by decide) (fun hc_8 => ?_) (fun hc_8 => ?_)
    · replace h := hA hc_8
      clear hA hB
      refine g_iconst hC dX9_sent_22 ?_
      exact g_iret hC hR dX9_sent_23 h
    · replace h := hB hc_8
      clear hA hB
      refine g_iload_n hC dX9_sent_15 rfl rfl ?_
      refine g_calli (g_runS (As := [(vi x3)]) (rest := []) hC rfl (ctX9_isFile hZ  h) (kwX9_isFile (by decide) (by decide)) (wc wd_813) (wc wd_814) rfl (Nat.le_of_ble_eq_true rfl) rfl dX9_sent_16) (fun r_9 M_10 h => ?_)
      obtain ⟨rfl, h⟩ := h
      obtain ⟨hr_11, hA, hB⟩ := h
      refine g_ine hC 24 hr_11 dX9_sent_19 (by decide) (fun hc_12 => ?_) (fun hc_12 => ?_)
      · replace h := hA hc_12
        clear hA hB
        refine g_iconst hC dX9_sent_22 ?_
        exact g_iret hC hR dX9_sent_23 h
      · replace h := hB hc_12
        clear hA hB
        refine g_aload_n hC dX9_sent_24 rfl rfl ?_
        refine g_iload_n hC dX9_sent_25 rfl rfl ?_
        refine g_iload_n hC dX9_sent_26 rfl rfl ?_
        refine g_callv (g_runV (As := [(vi x1), (vi x2)]) (rest := []) hC rfl (ctX9_othersOf hZ  h) rfl (gm_k9 hZ) (kwX9_othersOf (by decide) (by decide)) rfl (wc wd_889) (wc wd_891) (wc wd_27) rfl (Nat.le_of_ble_eq_true rfl) rfl dX9_sent_27) (fun M_13 h => ?_)
        refine g_aload_n hC dX9_sent_30 rfl rfl ?_
        refine g_iload_n hC dX9_sent_31 rfl rfl ?_
        refine g_iload_n hC dX9_sent_32 rfl rfl ?_
        refine g_callv (g_runV (As := [(vi x1), (vi x3)]) (rest := []) hC rfl (ctX9_cutsOf hZ  h) rfl (gm_k9 hZ) (kwX9_cutsOf (by decide) (by decide)) rfl (wc wd_869) (wc wd_871) (wc wd_24) rfl (Nat.le_of_ble_eq_true rfl) rfl dX9_sent_33) (fun M_14 h => ?_)
        refine g_iconst hC dX9_sent_36 ?_
        refine g_istore2 (lc' := [some (vr z 0), some (vi x1), some (vi x2), some (vi x3), some (vi 0), none, none, none]) hC dX9_sent_37 (Nat.le_of_ble_eq_true rfl) rfl ?_
        refine g_iconst hC dX9_sent_39 ?_
        refine g_istore2 (lc' := [some (vr z 0), some (vi x1), some (vi x2), some (vi x3), some (vi 0), some (vi 0), none, none]) hC dX9_sent_40 (Nat.le_of_ble_eq_true rfl) rfl ?_
        obtain ⟨n_50, h⟩ := h
        refine g_subk (ctX9_sent_L42 hC hR hZ  n_50 0 0 h) (And.intro rfl (And.intro rfl (And.intro rfl (And.intro rfl (And.intro rfl trivial)))))
