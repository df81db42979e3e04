abbrev wX8_agree : List Cond := Cond.code yX8_agree cX8_agree 6 (some .int) :: gTs
abbrev rmX8_agree : Room := { frames := 4, cells := 0, slots := 0, locals := 93 }
theorem kwX8_agree {c0 : Cond} {rm : Room} (h1 : rmX8_agree.frames + 1 ≤ rm.frames) (h2 : 8 + (6 + 11) + rmX8_agree.locals ≤ rm.locals) : gCw (c0 :: gTs) rm yX8_agree cX8_agree 6 (some .int) wX8_agree rmX8_agree 3 := gCw_of wd_475 wd_39 h1 h2 (by decide +kernel)
def fX8_agree_L74  (x4 : Int) (M : gMem) : Nat → Int → (Int → gMem → Prop) → Prop
  | 0, _, _ => False
  | n74 + 1, x5, Q =>
    (rg x5 ∧ rg x4 ∧ (x5 < x4 →
    (fX8_agreesFromEnd x5 M (fun r_22 =>
      (rg r_22 ∧ (r_22 = 0 →
      Q x5 M) ∧
      (¬ r_22 = 0 →
      fX8_agree_L74 x4 M n74 (x5 + 1) Q))))) ∧
    (¬ x5 < x4 →
    Q x5 M))
set_option maxHeartbeats 4000000 in
set_option maxRecDepth 100000 in
theorem ctX8_agree_L74 {y : gY} {z : gZ} {l : Launch} {x4 : Int} {M : gMem} {Q : Int → gMem → Prop}  (hC : gC y z l cX8_agree RX8 6 wX8_agree rmX8_agree) (hR : gRI y z cL .int Q) (hZ : gZc z)  :
    ∀ (n : Nat) (x5 : Int), fX8_agree_L74 x4 M n x5 Q → gW y z cL 74 [some (vr z 0), none, none, none, some (vi x4), some (vi x5)] [] M := by
  intro n
  induction n with
  | zero => intro x5 h; exact False.elim h
  | succ n74 ih =>
    intro x5 h
    replace h : (rg x5 ∧ rg x4 ∧ (x5 < x4 →
    (fX8_agreesFromEnd x5 M (fun r_22 =>
      (rg r_22 ∧ (r_22 = 0 →
      Q x5 M) ∧
      (¬ r_22 = 0 →
      fX8_agree_L74 x4 M n74 (x5 + 1) Q))))) ∧
    (¬ x5 < x4 →
    Q x5 M)) := h
    refine g_iload hC dX8_agree_74 rfl ?_
    refine g_iload hC dX8_agree_76 rfl ?_
    obtain ⟨hr_19, hr_20, hA, hB⟩ := h
    refine g_cge hC 96 hr_19 hr_20 dX8_agree_78 (by decide) (fun hc_21 => ?_) (fun hc_21 => ?_)
    · replace h := hA hc_21
      clear hA hB
      refine g_aload_n hC dX8_agree_81 rfl rfl ?_
      refine g_iload hC dX8_agree_82 rfl ?_
      refine g_calli (g_runV (As := [(vi x5)]) (rest := []) hC rfl (ctX8_agreesFromEnd hZ  h) rfl (gc_k8 hZ) (kwX8_agreesFromEnd (by decide) (by decide)) rfl (wc wd_477) (wc wd_479) (wc wd_4) rfl (Nat.le_of_ble_eq_true rfl) rfl dX8_agree_84) (fun r_22 M_23 h => ?_)
      obtain ⟨rfl, h⟩ := h
      obtain ⟨hr_24, hA, hB⟩ := h
      refine g_ieq hC 96 hr_24 dX8_agree_87 (by decide) (fun hc_25 => ?_) (fun hc_25 => ?_)
      · replace h := hA hc_25
        clear hA hB
        refine g_iload hC dX8_agree_96 rfl ?_
        exact g_iret hC hR dX8_agree_98 h
      · replace h := hB hc_25
        clear hA hB
        refine g_iinc2 (lc' := [some (vr z 0), none, none, none, some (vi x4), some (vi (x5 + 1))]) hC dX8_agree_90 rfl rfl ?_
        refine g_goto hC 74 dX8_agree_93 (by decide) ?_
        exact g_subk (ih (x5 + 1) h) (And.intro rfl (And.intro rfl (And.intro rfl trivial)))
    · replace h := hB hc_21
      clear hA hB
      refine g_iload hC dX8_agree_96 rfl ?_
      exact g_iret hC hR dX8_agree_98 h
def fX8_agree (x1 : Int) (x2 : Int) (x3 : Int) (M : gMem) (Q : Int → gMem → Prop) : Prop :=
  (fX8_isSetRule x1 M (fun r_1 =>
  (rg r_1 ∧ (r_1 = 0 →
  Q (-1) M) ∧
  (¬ r_1 = 0 →
  (fX8_isFile x2 M (fun r_5 =>
    (rg r_5 ∧ (r_5 = 0 →
    Q (-1) M) ∧
    (¬ r_5 = 0 →
    (fX8_isFile x3 M (fun r_9 =>
      (rg r_9 ∧ (r_9 = 0 →
      Q (-1) M) ∧
      (¬ r_9 = 0 →
      ((0 ≤ x1 ∧ x1 < 6) ∧ (fX0_divide 13 (7 + (x1).toNat) x2 M (fun M_14 =>
        ((0 ≤ x1 ∧ x1 < 6) ∧ (fX0_divide 16 (7 + (x1).toNat) x3 M_14 (fun M_16 =>
        (rg (M_16 13 3) ∧ rg (M_16 16 3) ∧ ∃ n_26, fX8_agree_L74 (min (M_16 13 3) (M_16 16 3)) M_16 n_26 0 Q)))))))))))))))))))
set_option maxHeartbeats 4000000 in
set_option maxRecDepth 100000 in
theorem ctX8_agree {l : Launch} {z : gZ} (hZ : gZc z) {x1 : Int} {x2 : Int} {x3 : Int}  {M : gMem} {Q : Int → gMem → Prop} (h : fX8_agree x1 x2 x3 M Q) : gMI l z cL yX8_agree wX8_agree rmX8_agree [(vr z 0), (vi x1), (vi x2), (vi x3)] M Q := by
  refine g_metI .int (by decide) rfl rfl (gCat_all (And.intro rfl (And.intro rfl (And.intro rfl (And.intro rfl trivial))))) (Nat.le_of_ble_eq_true rfl) ?_
  intro y hC hR
  replace h : (fX8_isSetRule x1 M (fun r_1 =>
  (rg r_1 ∧ (r_1 = 0 →
  Q (-1) M) ∧
  (¬ r_1 = 0 →
  (fX8_isFile x2 M (fun r_5 =>
    (rg r_5 ∧ (r_5 = 0 →
    Q (-1) M) ∧
    (¬ r_5 = 0 →
    (fX8_isFile x3 M (fun r_9 =>
      (rg r_9 ∧ (r_9 = 0 →
      Q (-1) M) ∧
      (¬ r_9 = 0 →
      ((0 ≤ x1 ∧ x1 < 6) ∧ (fX0_divide 13 (7 + (x1).toNat) x2 M (fun M_14 =>
        ((0 ≤ x1 ∧ x1 < 6) ∧ (fX0_divide 16 (7 + (x1).toNat) x3 M_14 (fun M_16 =>
        (rg (M_16 13 3) ∧ rg (M_16 16 3) ∧ ∃ n_26, fX8_agree_L74 (min (M_16 13 3) (M_16 16 3)) M_16 n_26 0 Q))))))))))))))))))) := h
  refine g_lc (lc' := [some (vr z 0), some (vi x1), some (vi x2), some (vi x3), none, none]) rfl ?_
  refine g_aload_n hC dX8_agree_0 rfl rfl ?_
  refine g_iload_n hC dX8_agree_1 rfl rfl ?_
  refine g_calli (g_runV (As := [(vi x1)]) (rest := []) hC rfl (ctX8_isSetRule hZ  h) rfl (gc_k8 hZ) (kwX8_isSetRule (by decide) (by decide)) rfl (wc wd_422) (wc wd_424) (wc wd_1) rfl (Nat.le_of_ble_eq_true rfl) rfl dX8_agree_2) (fun r_1 M_2 h => ?_)
  obtain ⟨rfl, h⟩ := h
  obtain ⟨hr_3, hA, hB⟩ := h
  refine g_ieq hC 22 hr_3 dX8_agree_5 (by decide) (fun hc_4 => ?_) (fun hc_4 => ?_)
  · replace h := hA hc_4
    clear hA hB
    refine g_iconst hC dX8_agree_22 ?_
    exact g_iret hC hR dX8_agree_23 h
  · replace h := hB hc_4
    clear hA hB
    refine g_iload_n hC dX8_agree_8 rfl rfl ?_
    refine g_calli (g_runS (As := [(vi x2)]) (rest := []) hC rfl (ctX8_isFile hZ  h) (kwX8_isFile (by decide) (by decide)) (wc wd_346) (wc wd_347) rfl (Nat.le_of_ble_eq_true rfl) rfl dX8_agree_9) (fun r_5 M_6 h => ?_)
    obtain ⟨rfl, h⟩ := h
    obtain ⟨hr_7, hA, hB⟩ := h
    refine g_ieq hC 22 hr_7 dX8_agree_12 (by decide) (fun hc_8 => ?_) (fun hc_8 => ?_)
    · replace h := hA hc_8
      clear hA hB
      refine g_iconst hC dX8_agree_22 ?_
      exact g_iret hC hR dX8_agree_23 h
    · replace h := hB hc_8
      clear hA hB
      refine g_iload_n hC dX8_agree_15 rfl rfl ?_
      refine g_calli (g_runS (As := [(vi x3)]) (rest := []) hC rfl (ctX8_isFile hZ  h) (kwX8_isFile (by decide) (by decide)) (wc wd_346) (wc wd_347) rfl (Nat.le_of_ble_eq_true rfl) rfl dX8_agree_16) (fun r_9 M_10 h => ?_)
      obtain ⟨rfl, h⟩ := h
      obtain ⟨hr_11, hA, hB⟩ := h
      refine g_ine hC 24 hr_11 dX8_agree_19 (by decide) (fun hc_12 => ?_) (fun hc_12 => ?_)
      · replace h := hA hc_12
        clear hA hB
        refine g_iconst hC dX8_agree_22 ?_
        exact g_iret hC hR dX8_agree_23 h
      · replace h := hB hc_12
        clear hA hB
        refine g_aload_n hC dX8_agree_24 rfl rfl ?_
        refine g_getr (r := 13) hC rfl (gc_k8 hZ) iwX8 3 (by decide) rfl rfl (wc wd_302) dX8_agree_25 ?_
        refine g_aload_n hC dX8_agree_28 rfl rfl ?_
        refine g_getr (r := 6) hC rfl (gc_k8 hZ) iwX8 2 (by decide) rfl rfl (wc wd_301) dX8_agree_29 ?_
        refine g_iload_n hC dX8_agree_32 rfl rfl ?_
        obtain ⟨hb_13, h⟩ := h
        refine g_aald hC 2 rfl (c_t3 hZ) rfl (by decide) hb_13 dX8_agree_33 ?_
        refine g_iload_n hC dX8_agree_34 rfl rfl ?_
        refine g_callv (g_runV (As := [(vr z (7 + (x1).toNat)), (vi x2)]) (rest := []) hC rfl (ctX0_divide hZ (by omega) (by omega) h) rfl (gc_k0 hZ) (kwX0_divide (by decide) (by decide)) rfl (wc wd_440) (wc wd_441) (wc wd_442) rfl (Nat.le_of_ble_eq_true rfl) rfl dX8_agree_35) (fun M_14 h => ?_)
        refine g_aload_n hC dX8_agree_38 rfl rfl ?_
        refine g_getr (r := 16) hC rfl (gc_k8 hZ) iwX8 4 (by decide) rfl rfl (wc wd_303) dX8_agree_39 ?_
        refine g_aload_n hC dX8_agree_42 rfl rfl ?_
        refine g_getr (r := 6) hC rfl (gc_k8 hZ) iwX8 2 (by decide) rfl rfl (wc wd_301) dX8_agree_43 ?_
        refine g_iload_n hC dX8_agree_46 rfl rfl ?_
        obtain ⟨hb_15, h⟩ := h
        refine g_aald hC 2 rfl (c_t3 hZ) rfl (by decide) hb_15 dX8_agree_47 ?_
        refine g_iload_n hC dX8_agree_48 rfl rfl ?_
        refine g_callv (g_runV (As := [(vr z (7 + (x1).toNat)), (vi x3)]) (rest := []) hC rfl (ctX0_divide hZ (by omega) (by omega) h) rfl (gc_k0 hZ) (kwX0_divide (by decide) (by decide)) rfl (wc wd_440) (wc wd_441) (wc wd_442) rfl (Nat.le_of_ble_eq_true rfl) rfl dX8_agree_49) (fun M_16 h => ?_)
        refine g_aload_n hC dX8_agree_52 rfl rfl ?_
        refine g_getr (r := 13) hC rfl (gc_k8 hZ) iwX8 3 (by decide) rfl rfl (wc wd_302) dX8_agree_53 ?_
        refine g_geti (ji := 3) hC rfl (gc_k0 hZ) iwX0 3 (by decide) rfl rfl (wc wd_141) dX8_agree_56 rfl ?_
        refine g_aload_n hC dX8_agree_59 rfl rfl ?_
        refine g_getr (r := 16) hC rfl (gc_k8 hZ) iwX8 4 (by decide) rfl rfl (wc wd_303) dX8_agree_60 ?_
        refine g_geti (ji := 3) hC rfl (gc_k0 hZ) iwX0 3 (by decide) rfl rfl (wc wd_141) dX8_agree_63 rfl ?_
        obtain ⟨hr_17, hr_18, h⟩ := h
        refine g_min hC rfl hr_17 hr_18 (wc wd_476) (wc wd_451) (wc wd_51) (wc wd_452) (by decide) (Nat.le_of_ble_eq_true rfl) dX8_agree_66 ?_
        refine g_istore2 (lc' := [some (vr z 0), some (vi x1), some (vi x2), some (vi x3), some (vi (min (M_16 13 3) (M_16 16 3))), none]) hC dX8_agree_69 (Nat.le_of_ble_eq_true rfl) rfl ?_
        refine g_iconst hC dX8_agree_71 ?_
        refine g_istore2 (lc' := [some (vr z 0), some (vi x1), some (vi x2), some (vi x3), some (vi (min (M_16 13 3) (M_16 16 3))), some (vi 0)]) hC dX8_agree_72 (Nat.le_of_ble_eq_true rfl) rfl ?_
        obtain ⟨n_26, h⟩ := h
        refine g_subk (ctX8_agree_L74 hC hR hZ  n_26 0 h) (And.intro rfl (And.intro rfl (And.intro rfl trivial)))
abbrev wX8_sent : List Cond := Cond.code yX8_sent cX8_sent 4 (some .int) :: gTs
abbrev rmX8_sent : Room := { frames := 4, cells := 0, slots := 0, locals := 93 }
theorem kwX8_sent {c0 : Cond} {rm : Room} (h1 : rmX8_sent.frames + 1 ≤ rm.frames) (h2 : 8 + (4 + 11) + rmX8_sent.locals ≤ rm.locals) : gCw (c0 :: gTs) rm yX8_sent cX8_sent 4 (some .int) wX8_sent rmX8_sent 3 := gCw_of wd_496 wd_39 h1 h2 (by decide +kernel)
def fX8_sent (x1 : Int) (x2 : Int) (x3 : Int) (M : gMem) (Q : Int → gMem → Prop) : Prop :=
  (fX8_isSetRule x1 M (fun r_1 =>
  (rg r_1 ∧ (r_1 = 0 →
  Q (-1) M) ∧
  (¬ r_1 = 0 →
  (fX8_isFile x2 M (fun r_5 =>
    (rg r_5 ∧ (r_5 = 0 →
    Q (-1) M) ∧
    (¬ r_5 = 0 →
    (fX8_isFile x3 M (fun r_9 =>
      (rg r_9 ∧ (r_9 = 0 →
      Q (-1) M) ∧
      (¬ r_9 = 0 →
      (fX1_clear M (fun M_13 =>
        ((0 ≤ x1 ∧ x1 < 6) ∧ (fX0_divide 13 (7 + (x1).toNat) x2 M_13 (fun M_15 =>
        (fX1_addPieces 13 M_15 (fun r_16 M_17 =>
        ((0 ≤ x1 ∧ x1 < 6) ∧ (fX0_divide 13 (7 + (x1).toNat) x3 M_17 (fun M_19 =>
        (fX1_addPieces 13 M_19 (fun r_20 M_21 =>
        Q r_20 M_21))))))))))))))))))))))))
set_option maxHeartbeats 4000000 in
set_option maxRecDepth 100000 in
theorem ctX8_sent {l : Launch} {z : gZ} (hZ : gZc z) {x1 : Int} {x2 : Int} {x3 : Int}  {M : gMem} {Q : Int → gMem → Prop} (h : fX8_sent x1 x2 x3 M Q) : gMI l z cL yX8_sent wX8_sent rmX8_sent [(vr z 0), (vi x1), (vi x2), (vi x3)] M Q := by
  refine g_metI .int (by decide) rfl rfl (gCat_all (And.intro rfl (And.intro rfl (And.intro rfl (And.intro rfl trivial))))) (Nat.le_of_ble_eq_true rfl) ?_
  intro y hC hR
  replace h : (fX8_isSetRule x1 M (fun r_1 =>
  (rg r_1 ∧ (r_1 = 0 →
  Q (-1) M) ∧
  (¬ r_1 = 0 →
  (fX8_isFile x2 M (fun r_5 =>
    (rg r_5 ∧ (r_5 = 0 →
    Q (-1) M) ∧
    (¬ r_5 = 0 →
    (fX8_isFile x3 M (fun r_9 =>
      (rg r_9 ∧ (r_9 = 0 →
      Q (-1) M) ∧
      (¬ r_9 = 0 →
      (fX1_clear M (fun M_13 =>
        ((0 ≤ x1 ∧ x1 < 6) ∧ (fX0_divide 13 (7 + (x1).toNat) x2 M_13 (fun M_15 =>
        (fX1_addPieces 13 M_15 (fun r_16 M_17 =>
        ((0 ≤ x1 ∧ x1 < 6) ∧ (fX0_divide 13 (7 + (x1).toNat) x3 M_17 (fun M_19 =>
        (fX1_addPieces 13 M_19 (fun r_20 M_21 =>
        Q r_20 M_21)))))))))))))))))))))))) := h
  refine g_lc (lc' := [some (vr z 0), some (vi x1), some (vi x2), some (vi x3)]) rfl ?_
  refine g_aload_n hC dX8_sent_0 rfl rfl ?_
  refine g_iload_n hC dX8_sent_1 rfl rfl ?_
  refine g_calli (g_runV (As := [(vi x1)]) (rest := []) hC rfl (ctX8_isSetRule hZ  h) rfl (gc_k8 hZ) (kwX8_isSetRule (by decide) (by decide)) rfl (wc wd_422) (wc wd_424) (wc wd_1) rfl (Nat.le_of_ble_eq_true rfl) rfl dX8_sent_2) (fun r_1 M_2 h => ?_)
  obtain ⟨rfl, h⟩ := h
  obtain ⟨hr_3, hA, hB⟩ := h
  refine g_ieq hC 22 hr_3 dX8_sent_5 (by decide) (fun hc_4 => ?_) (fun hc_4 => ?_)
  · replace h := hA hc_4
    clear hA hB
    refine g_iconst hC dX8_sent_22 ?_
    exact g_iret hC hR dX8_sent_23 h
  · replace h := hB hc_4
    clear hA hB
    refine g_iload_n hC dX8_sent_8 rfl rfl ?_
    refine g_calli (g_runS (As := [(vi x2)]) (rest := []) hC rfl (ctX8_isFile hZ  h) (kwX8_isFile (by decide) (by decide)) (wc wd_346) (wc wd_347) rfl (Nat.le_of_ble_eq_true rfl) rfl dX8_sent_9) (fun r_5 M_6 h => ?_)
    obtain ⟨rfl, h⟩ := h
    obtain ⟨hr_7, hA, hB⟩ := h
    refine g_ieq hC 22 hr_7 dX8_sent_12 (by decide) (fun hc_8 => ?_) (fun hc_8 => ?_)
    · replace h := hA hc_8
      clear hA hB
      refine g_iconst hC dX8_sent_22 ?_
      exact g_iret hC hR dX8_sent_23 h
    · replace h := hB hc_8
      clear hA hB
      refine g_iload_n hC dX8_sent_15 rfl rfl ?_
      refine g_calli (g_runS (As := [(vi x3)]) (rest := []) hC rfl (ctX8_isFile hZ  h) (kwX8_isFile (by decide) (by decide)) (wc wd_346) (wc wd_347) rfl (Nat.le_of_ble_eq_true rfl) rfl dX8_sent_16) (fun r_9 M_10 h => ?_)
      obtain ⟨rfl, h⟩ := h
      obtain ⟨hr_11, hA, hB⟩ := h
      refine g_ine hC 24 hr_11 dX8_sent_19 (by decide) (fun hc_12 => ?_) (fun hc_12 => ?_)
      · replace h := hA hc_12
        clear hA hB
        refine g_iconst hC dX8_sent_22 ?_
        exact g_iret hC hR dX8_sent_23 h
      · replace h := hB hc_12
        clear hA hB
        refine g_aload_n hC dX8_sent_24 rfl rfl ?_
        refine g_getr (r := 19) hC rfl (gc_k8 hZ) iwX8 5 (by decide) rfl rfl (wc wd_304) dX8_sent_25 ?_
        refine g_callv (g_runV (As := []) (rest := []) hC rfl (ctX1_clear hZ  h) rfl (gc_k1 hZ) (kwX1_clear (by decide) (by decide)) rfl (wc wd_497) (wc wd_498) (wc wd_499) rfl (Nat.le_of_ble_eq_true rfl) rfl dX8_sent_28) (fun M_13 h => ?_)
        refine g_aload_n hC dX8_sent_31 rfl rfl ?_
        refine g_getr (r := 13) hC rfl (gc_k8 hZ) iwX8 3 (by decide) rfl rfl (wc wd_302) dX8_sent_32 ?_
        refine g_aload_n hC dX8_sent_35 rfl rfl ?_
        refine g_getr (r := 6) hC rfl (gc_k8 hZ) iwX8 2 (by decide) rfl rfl (wc wd_301) dX8_sent_36 ?_
        refine g_iload_n hC dX8_sent_39 rfl rfl ?_
        obtain ⟨hb_14, h⟩ := h
        refine g_aald hC 2 rfl (c_t3 hZ) rfl (by decide) hb_14 dX8_sent_40 ?_
        refine g_iload_n hC dX8_sent_41 rfl rfl ?_
        refine g_callv (g_runV (As := [(vr z (7 + (x1).toNat)), (vi x2)]) (rest := []) hC rfl (ctX0_divide hZ (by omega) (by omega) h) rfl (gc_k0 hZ) (kwX0_divide (by decide) (by decide)) rfl (wc wd_440) (wc wd_441) (wc wd_442) rfl (Nat.le_of_ble_eq_true rfl) rfl dX8_sent_42) (fun M_15 h => ?_)
        refine g_aload_n hC dX8_sent_45 rfl rfl ?_
        refine g_getr (r := 19) hC rfl (gc_k8 hZ) iwX8 5 (by decide) rfl rfl (wc wd_304) dX8_sent_46 ?_
        refine g_aload_n hC dX8_sent_49 rfl rfl ?_
        refine g_getr (r := 13) hC rfl (gc_k8 hZ) iwX8 3 (by decide) rfl rfl (wc wd_302) dX8_sent_50 ?_
        refine g_calli (g_runV (As := [(vr z 13)]) (rest := []) hC rfl (ctX1_addPieces hZ (by omega) h) rfl (gc_k1 hZ) (kwX1_addPieces (by decide) (by decide)) rfl (wc wd_502) (wc wd_503) (wc wd_504) rfl (Nat.le_of_ble_eq_true rfl) rfl dX8_sent_53) (fun r_16 M_17 h => ?_)
        refine g_pop hC dX8_sent_56 rfl ?_
        refine g_aload_n hC dX8_sent_57 rfl rfl ?_
        refine g_getr (r := 13) hC rfl (gc_k8 hZ) iwX8 3 (by decide) rfl rfl (wc wd_302) dX8_sent_58 ?_
        refine g_aload_n hC dX8_sent_61 rfl rfl ?_
        refine g_getr (r := 6) hC rfl (gc_k8 hZ) iwX8 2 (by decide) rfl rfl (wc wd_301) dX8_sent_62 ?_
        refine g_iload_n hC dX8_sent_65 rfl rfl ?_
        obtain ⟨hb_18, h⟩ := h
        refine g_aald hC 2 rfl (c_t3 hZ) rfl (by decide) hb_18 dX8_sent_66 ?_
        refine g_iload_n hC dX8_sent_67 rfl rfl ?_
        refine g_callv (g_runV (As := [(vr z (7 + (x1).toNat)), (vi x3)]) (rest := []) hC rfl (ctX0_divide hZ (by omega) (by omega) h) rfl (gc_k0 hZ) (kwX0_divide (by decide) (by decide)) rfl (wc wd_440) (wc wd_441) (wc wd_442) rfl (Nat.le_of_ble_eq_true rfl) rfl dX8_sent_68) (fun M_19 h => ?_)
        refine g_aload_n hC dX8_sent_71 rfl rfl ?_
        refine g_getr (r := 19) hC rfl (gc_k8 hZ) iwX8 5 (by decide) rfl rfl (wc wd_304) dX8_sent_72 ?_
        refine g_aload_n hC dX8_sent_75 rfl rfl ?_
        refine g_getr (r := 13) hC rfl (gc_k8 hZ) iwX8 3 (by decide) rfl rfl (wc wd_302) dX8_sent_76 ?_
        refine g_calli (g_runV (As := [(vr z 13)]) (rest := []) hC rfl (ctX1_addPieces hZ (by omega) h) rfl (gc_k1 hZ) (kwX1_addPieces (by decide) (by decide)) rfl (wc wd_502) (wc wd_503) (wc wd_504) rfl (Nat.le_of_ble_eq_true rfl) rfl dX8_sent_79) (fun r_20 M_21 h => ?_)
        exact g_iret hC hR dX8_sent_82 h
abbrev wX8_roomOf : List Cond := Cond.code yX8_roomOf cX8_roomOf 4 (some .int) :: gTs
abbrev rmX8_roomOf : Room := { frames := 0, cells := 0, slots := 0, locals := 0 }
theorem kwX8_roomOf {c0 : Cond} {rm : Room} (h1 : rmX8_roomOf.frames + 1 ≤ rm.frames) (h2 : 8 + (4 + 11) + rmX8_roomOf.locals ≤ rm.locals) : gCw (c0 :: gTs) rm yX8_roomOf cX8_roomOf 4 (some .int) wX8_roomOf rmX8_roomOf 3 := gCw_of wd_532 wd_39 h1 h2 (by decide +kernel)
def fX8_roomOf (x1 : Int) (x2 : Int) (x3 : Int) (M : gMem) (Q : Int → Prop) : Prop :=
  Q ((x1 + ((M 0 8) * x2)) + ((M 0 9) * x3))
set_option maxHeartbeats 4000000 in
set_option maxRecDepth 100000 in
theorem ctX8_roomOf {l : Launch} {z : gZ} (hZ : gZc z) {x1 : Int} {x2 : Int} {x3 : Int}  {M : gMem} {Q : Int → Prop} (h : fX8_roomOf x1 x2 x3 M Q) : gMI l z cL yX8_roomOf wX8_roomOf rmX8_roomOf [(vr z 0), (vi x1), (vi x2), (vi x3)] M (fun r M' => M = M' ∧ Q r) := by
  refine g_metI .int (by decide) rfl rfl (gCat_all (And.intro rfl (And.intro rfl (And.intro rfl (And.intro rfl trivial))))) (Nat.le_of_ble_eq_true rfl) ?_
  intro y hC hR
  replace h : Q ((x1 + ((M 0 8) * x2)) + ((M 0 9) * x3)) := h
  refine g_lc (lc' := [some (vr z 0), some (vi x1), some (vi x2), some (vi x3)]) rfl ?_
  refine g_iload_n hC dX8_roomOf_0 rfl rfl ?_
  refine g_aload_n hC dX8_roomOf_1 rfl rfl ?_
  refine g_geti (ji := 8) hC rfl (gc_k8 hZ) iwX8 8 (by decide) rfl rfl (wc wd_307) dX8_roomOf_2 rfl ?_
  refine g_iload_n hC dX8_roomOf_5 rfl rfl ?_
  refine g_imul hC dX8_roomOf_6 ?_
  refine g_iadd hC dX8_roomOf_7 ?_
  refine g_aload_n hC dX8_roomOf_8 rfl rfl ?_
  refine g_geti (ji := 9) hC rfl (gc_k8 hZ) iwX8 9 (by decide) rfl rfl (wc wd_308) dX8_roomOf_9 rfl ?_
  refine g_iload_n hC dX8_roomOf_12 rfl rfl ?_
  refine g_imul hC dX8_roomOf_13 ?_
  refine g_iadd hC dX8_roomOf_14 ?_
  exact g_iret hC hR dX8_roomOf_15 ⟨rfl, h⟩
abbrev wX8_roomByRule : List Cond := Cond.code yX8_roomByRule cX8_roomByRule 6 (some .int) :: gTs
abbrev rmX8_roomByRule : Room := { frames := 4, cells := 0, slots := 0, locals := 93 }
theorem kwX8_roomByRule {c0 : Cond} {rm : Room} (h1 : rmX8_roomByRule.frames + 1 ≤ rm.frames) (h2 : 8 + (6 + 11) + rmX8_roomByRule.locals ≤ rm.locals) : gCw (c0 :: gTs) rm yX8_roomByRule cX8_roomByRule 6 (some .int) wX8_roomByRule rmX8_roomByRule 2 := gCw_of wd_528 wd_39 h1 h2 (by decide +kernel)
def fX8_roomByRule_L15 (k1 : Nat) (x2 : Int) : Nat → Int → Int → Int → gMem → (Int → Int → gMem → Prop) → (Int → gMem → Prop) → Prop
  | 0, _, _, _, _, _, _ => False
  | n15 + 1, x3, x4, x5, M, K74, Q =>
    (rg x5 ∧ (x5 < 8 →
    (rg x2 ∧ (0 ≤ x5 ∧ x5 < 32) ∧ (rg (band (shr x2 x5) 1) ∧ ((band (shr x2 x5) 1) = 1 →
      (fX0_divide 13 k1 x5 M (fun M_8 =>
        (fX1_addPieces 13 M_8 (fun r_9 M_10 =>
        fX8_roomByRule_L15 k1 x2 n15 (x3 + r_9) (x4 + (M_10 13 3)) (x5 + 1) M_10 K74 Q))))) ∧
      (¬ (band (shr x2 x5) 1) = 1 →
      fX8_roomByRule_L15 k1 x2 n15 x3 x4 (x5 + 1) M K74 Q)))) ∧
    (¬ x5 < 8 →
    K74 x3 x4 M))
set_option maxHeartbeats 4000000 in
set_option maxRecDepth 100000 in
theorem ctX8_roomByRule_L15 {y : gY} {z : gZ} {l : Launch} {k1 : Nat} {x2 : Int} {Q : Int → gMem → Prop} {K74 : Int → Int → gMem → Prop} (hC : gC y z l cX8_roomByRule RX8 6 wX8_roomByRule rmX8_roomByRule) (hR : gRI y z cL .int Q) (hZ : gZc z) (h1 : 7 ≤ k1 ∧ k1 < 13) (hK74 : ∀ (x3 : Int) (x4 : Int) (M : gMem), K74 x3 x4 M → gW y z cL 74 [some (vr z 0), none, none, some (vi x3), some (vi x4), none] [] M) :
    ∀ (n : Nat) (x3 : Int) (x4 : Int) (x5 : Int) (M : gMem), fX8_roomByRule_L15 k1 x2 n x3 x4 x5 M K74 Q → gW y z cL 15 [some (vr z 0), some (vr z k1), some (vi x2), some (vi x3), some (vi x4), some (vi x5)] [] M := by
  intro n
  induction n with
  | zero => intro x3 x4 x5 M h; exact False.elim h
  | succ n15 ih =>
    intro x3 x4 x5 M h
    replace h : (rg x5 ∧ (x5 < 8 →
    (rg x2 ∧ (0 ≤ x5 ∧ x5 < 32) ∧ (rg (band (shr x2 x5) 1) ∧ ((band (shr x2 x5) 1) = 1 →
      (fX0_divide 13 k1 x5 M (fun M_8 =>
        (fX1_addPieces 13 M_8 (fun r_9 M_10 =>
        fX8_roomByRule_L15 k1 x2 n15 (x3 + r_9) (x4 + (M_10 13 3)) (x5 + 1) M_10 K74 Q))))) ∧
      (¬ (band (shr x2 x5) 1) = 1 →
      fX8_roomByRule_L15 k1 x2 n15 x3 x4 (x5 + 1) M K74 Q)))) ∧
    (¬ x5 < 8 →
    K74 x3 x4 M)) := h
    refine g_iload hC dX8_roomByRule_15 rfl ?_
    refine g_bipush hC dX8_roomByRule_17 (by decide) ?_
    obtain ⟨hr_2, hA, hB⟩ := h
    refine g_cge hC 74 hr_2 (by decide) dX8_roomByRule_19 (by decide) (fun hc_3 => ?_) (fun hc_3 => ?_)
    · replace h := hA hc_3
      clear hA hB
      refine g_iload_n hC dX8_roomByRule_22 rfl rfl ?_
      refine g_iload hC dX8_roomByRule_23 rfl ?_
      obtain ⟨hr_4, hr_5, h⟩ := h
      refine g_ishr hC hr_4 hr_5 dX8_roomByRule_25 ?_
      refine g_iconst hC dX8_roomByRule_26 ?_
      refine g_iand hC dX8_roomByRule_27 ?_
      refine g_iconst hC dX8_roomByRule_28 ?_
      obtain ⟨hr_6, hA, hB⟩ := h
      refine g_cne hC 68 hr_6 (by decide) dX8_roomByRule_29 (by decide) (fun hc_7 => ?_) (fun hc_7 => ?_)
      · replace h := hA hc_7
        clear hA hB
        refine g_aload_n hC dX8_roomByRule_32 rfl rfl ?_
        refine g_getr (r := 13) hC rfl (gc_k8 hZ) iwX8 3 (by decide) rfl rfl (wc wd_302) dX8_roomByRule_33 ?_
        refine g_aload_n hC dX8_roomByRule_36 rfl rfl ?_
        refine g_iload hC dX8_roomByRule_37 rfl ?_
        refine g_callv (g_runV (As := [(vr z k1), (vi x5)]) (rest := []) hC rfl (ctX0_divide hZ (by omega) h1 h) rfl (gc_k0 hZ) (kwX0_divide (by decide) (by decide)) rfl (wc wd_440) (wc wd_441) (wc wd_442) rfl (Nat.le_of_ble_eq_true rfl) rfl dX8_roomByRule_39) (fun M_8 h => ?_)
        refine g_iload_n hC dX8_roomByRule_42 rfl rfl ?_
        refine g_aload_n hC dX8_roomByRule_43 rfl rfl ?_
        refine g_getr (r := 19) hC rfl (gc_k8 hZ) iwX8 5 (by decide) rfl rfl (wc wd_304) dX8_roomByRule_44 ?_
        refine g_aload_n hC dX8_roomByRule_47 rfl rfl ?_
        refine g_getr (r := 13) hC rfl (gc_k8 hZ) iwX8 3 (by decide) rfl rfl (wc wd_302) dX8_roomByRule_48 ?_
        refine g_calli (g_runV (As := [(vr z 13)]) (rest := [(vi x3)]) hC rfl (ctX1_addPieces hZ (by omega) h) rfl (gc_k1 hZ) (kwX1_addPieces (by decide) (by decide)) rfl (wc wd_502) (wc wd_503) (wc wd_504) rfl (Nat.le_of_ble_eq_true rfl) rfl dX8_roomByRule_51) (fun r_9 M_10 h => ?_)
        refine g_iadd hC dX8_roomByRule_54 ?_
        refine g_istore_n2 (lc' := [some (vr z 0), some (vr z k1), some (vi x2), some (vi (x3 + r_9)), some (vi x4), some (vi x5)]) hC dX8_roomByRule_55 rfl (Nat.le_of_ble_eq_true rfl) rfl ?_
        refine g_iload hC dX8_roomByRule_56 rfl ?_
        refine g_aload_n hC dX8_roomByRule_58 rfl rfl ?_
        refine g_getr (r := 13) hC rfl (gc_k8 hZ) iwX8 3 (by decide) rfl rfl (wc wd_302) dX8_roomByRule_59 ?_
        refine g_geti (ji := 3) hC rfl (gc_k0 hZ) iwX0 3 (by decide) rfl rfl (wc wd_141) dX8_roomByRule_62 rfl ?_
        refine g_iadd hC dX8_roomByRule_65 ?_
        refine g_istore2 (lc' := [some (vr z 0), some (vr z k1), some (vi x2), some (vi (x3 + r_9)), some (vi (x4 + (M_10 13 3))), some (vi x5)]) hC dX8_roomByRule_66 (Nat.le_of_ble_eq_true rfl) rfl ?_
        refine g_iinc2 (lc' := [some (vr z 0), some (vr z k1), some (vi x2), some (vi (x3 + r_9)), some (vi (x4 + (M_10 13 3))), some (vi (x5 + 1))]) hC dX8_roomByRule_68 rfl rfl ?_
        refine g_goto hC 15 dX8_roomByRule_71 (by decide) ?_
        exact g_subk (ih (x3 + r_9) (x4 + (M_10 13 3)) (x5 + 1) M_10 h) (And.intro rfl (And.intro rfl (And.intro rfl (And.intro rfl (And.intro rfl (And.intro rfl trivial))))))
      · replace h := hB hc_7
        clear hA hB
        refine g_iinc2 (lc' := [some (vr z 0), some (vr z k1), some (vi x2), some (vi x3), some (vi x4), some (vi (x5 + 1))]) hC dX8_roomByRule_68 rfl rfl ?_
        refine g_goto hC 15 dX8_roomByRule_71 (by decide) ?_
        exact g_subk (ih x3 x4 (x5 + 1) M h) (And.intro rfl (And.intro rfl (And.intro rfl (And.intro rfl (And.intro rfl (And.intro rfl trivial))))))
    · replace h := hB hc_3
      clear hA hB
      exact g_subk (hK74 x3 x4 M h) (And.intro rfl (And.intro rfl (And.intro rfl trivial)))
def fX8_roomByRule (k1 : Nat) (x2 : Int) (M : gMem) (Q : Int → gMem → Prop) : Prop :=
  (fX1_clear M (fun M_1 =>
  ∃ n_16, fX8_roomByRule_L15 k1 x2 n_16 0 0 0 M_1 (fun x3_11 x4_12 M_13 =>
  (fX8_roomOf x3_11 (M_13 19 3) x4_12 M_13 (fun r_14 =>
    Q r_14 M_13))) Q))
set_option maxHeartbeats 4000000 in
set_option maxRecDepth 100000 in
theorem ctX8_roomByRule {l : Launch} {z : gZ} (hZ : gZc z) {k1 : Nat} {x2 : Int} (h1 : 7 ≤ k1 ∧ k1 < 13) {M : gMem} {Q : Int → gMem → Prop} (h : fX8_roomByRule k1 x2 M Q) : gMI l z cL yX8_roomByRule wX8_roomByRule rmX8_roomByRule [(vr z 0), (vr z k1), (vi x2)] M Q := by
  refine g_metI .int (by decide) rfl rfl (gCat_all (And.intro rfl (And.intro rfl (And.intro rfl trivial)))) (Nat.le_of_ble_eq_true rfl) ?_
  intro y hC hR
  replace h : (fX1_clear M (fun M_1 =>
  ∃ n_16, fX8_roomByRule_L15 k1 x2 n_16 0 0 0 M_1 (fun x3_11 x4_12 M_13 =>
  (fX8_roomOf x3_11 (M_13 19 3) x4_12 M_13 (fun r_14 =>
    Q r_14 M_13))) Q)) := h
  refine g_lc (lc' := [some (vr z 0), some (vr z k1), some (vi x2), none, none, none]) rfl ?_
  refine g_aload_n hC dX8_roomByRule_0 rfl rfl ?_
  refine g_getr (r := 19) hC rfl (gc_k8 hZ) iwX8 5 (by decide) rfl rfl (wc wd_304) dX8_roomByRule_1 ?_
  refine g_callv (g_runV (As := []) (rest := []) hC rfl (ctX1_clear hZ  h) rfl (gc_k1 hZ) (kwX1_clear (by decide) (by decide)) rfl (wc wd_497) (wc wd_498) (wc wd_499) rfl (Nat.le_of_ble_eq_true rfl) rfl dX8_roomByRule_4) (fun M_1 h => ?_)
  refine g_iconst hC dX8_roomByRule_7 ?_
  refine g_istore_n2 (lc' := [some (vr z 0), some (vr z k1), some (vi x2), some (vi 0), none, none]) hC dX8_roomByRule_8 rfl (Nat.le_of_ble_eq_true rfl) rfl ?_
  refine g_iconst hC dX8_roomByRule_9 ?_
  refine g_istore2 (lc' := [some (vr z 0), some (vr z k1), some (vi x2), some (vi 0), some (vi 0), none]) hC dX8_roomByRule_10 (Nat.le_of_ble_eq_true rfl) rfl ?_
  refine g_iconst hC dX8_roomByRule_12 ?_
  refine g_istore2 (lc' := [some (vr z 0), some (vr z k1), some (vi x2), some (vi 0), some (vi 0), some (vi 0)]) hC dX8_roomByRule_13 (Nat.le_of_ble_eq_true rfl) rfl ?_
  obtain ⟨n_16, h⟩ := h
  refine g_subk (ctX8_roomByRule_L15 hC hR hZ h1 ?_ n_16 0 0 0 M_1 h) (And.intro rfl (And.intro rfl (And.intro rfl (And.intro rfl (And.intro rfl (And.intro rfl trivial))))))
  intro x3_11 x4_12 M_13 h
  refine g_aload_n hC dX8_roomByRule_74 rfl rfl ?_
  refine g_iload_n hC dX8_roomByRule_75 rfl rfl ?_
  refine g_aload_n hC dX8_roomByRule_76 rfl rfl ?_
  refine g_getr (r := 19) hC rfl (gc_k8 hZ) iwX8 5 (by decide) rfl rfl (wc wd_304) dX8_roomByRule_77 ?_
  refine g_geti (ji := 3) hC rfl (gc_k1 hZ) iwX1 3 (by decide) rfl rfl (wc wd_164) dX8_roomByRule_80 rfl ?_
  refine g_iload hC dX8_roomByRule_83 rfl ?_
  refine g_calli (g_runV (As := [(vi x3_11), (vi (M_13 19 3)), (vi x4_12)]) (rest := []) hC rfl (ctX8_roomOf hZ  h) rfl (gc_k8 hZ) (kwX8_roomOf (by decide) (by decide)) rfl (wc wd_529) (wc wd_531) (wc wd_8) rfl (Nat.le_of_ble_eq_true rfl) rfl dX8_roomByRule_85) (fun r_14 M_15 h => ?_)
  obtain ⟨rfl, h⟩ := h
  exact g_iret hC hR dX8_roomByRule_88 h
abbrev wX8_cost : List Cond := Cond.code yX8_cost cX8_cost 3 (some .int) :: gTs
abbrev rmX8_cost : Room := { frames := 5, cells := 0, slots := 0, locals := 118 }
theorem kwX8_cost {c0 : Cond} {rm : Room} (h1 : rmX8_cost.frames + 1 ≤ rm.frames) (h2 : 8 + (3 + 11) + rmX8_cost.locals ≤ rm.locals) : gCw (c0 :: gTs) rm yX8_cost cX8_cost 3 (some .int) wX8_cost rmX8_cost 2 := gCw_of wd_524 wd_39 h1 h2 (by decide +kernel)
def fX8_cost (x1 : Int) (x2 : Int) (M : gMem) (Q : Int → gMem → Prop) : Prop :=
  (fX8_isSetRule x1 M (fun r_1 =>
  (rg r_1 ∧ (r_1 = 0 →
  Q (-1) M) ∧
  (¬ r_1 = 0 →
  ((0 ≤ x1 ∧ x1 < 6) ∧ (fX8_roomByRule (7 + (x1).toNat) x2 M (fun r_6 M_7 =>
    Q r_6 M_7)))))))
set_option maxHeartbeats 4000000 in
set_option maxRecDepth 100000 in
theorem ctX8_cost {l : Launch} {z : gZ} (hZ : gZc z) {x1 : Int} {x2 : Int}  {M : gMem} {Q : Int → gMem → Prop} (h : fX8_cost x1 x2 M Q) : gMI l z cL yX8_cost wX8_cost rmX8_cost [(vr z 0), (vi x1), (vi x2)] M Q := by
  refine g_metI .int (by decide) rfl rfl (gCat_all (And.intro rfl (And.intro rfl (And.intro rfl trivial)))) (Nat.le_of_ble_eq_true rfl) ?_
  intro y hC hR
  replace h : (fX8_isSetRule x1 M (fun r_1 =>
  (rg r_1 ∧ (r_1 = 0 →
  Q (-1) M) ∧
  (¬ r_1 = 0 →
  ((0 ≤ x1 ∧ x1 < 6) ∧ (fX8_roomByRule (7 + (x1).toNat) x2 M (fun r_6 M_7 =>
    Q r_6 M_7))))))) := h
  refine g_lc (lc' := [some (vr z 0), some (vi x1), some (vi x2)]) rfl ?_
  refine g_aload_n hC dX8_cost_0 rfl rfl ?_
  refine g_iload_n hC dX8_cost_1 rfl rfl ?_
  refine g_calli (g_runV (As := [(vi x1)]) (rest := []) hC rfl (ctX8_isSetRule hZ  h) rfl (gc_k8 hZ) (kwX8_isSetRule (by decide) (by decide)) rfl (wc wd_422) (wc wd_424) (wc wd_1) rfl (Nat.le_of_ble_eq_true rfl) rfl dX8_cost_2) (fun r_1 M_2 h => ?_)
  obtain ⟨rfl, h⟩ := h
  obtain ⟨hr_3, hA, hB⟩ := h
  refine g_ieq hC 22 hr_3 dX8_cost_5 (by decide) (fun hc_4 => ?_) (fun hc_4 => ?_)
  · replace h := hA hc_4
    clear hA hB
    refine g_iconst hC dX8_cost_22 ?_
    exact g_iret hC hR dX8_cost_23 h
  · replace h := hB hc_4
    clear hA hB
    refine g_aload_n hC dX8_cost_8 rfl rfl ?_
    refine g_aload_n hC dX8_cost_9 rfl rfl ?_
    refine g_getr (r := 6) hC rfl (gc_k8 hZ) iwX8 2 (by decide) rfl rfl (wc wd_301) dX8_cost_10 ?_
    refine g_iload_n hC dX8_cost_13 rfl rfl ?_
    obtain ⟨hb_5, h⟩ := h
    refine g_aald hC 2 rfl (c_t3 hZ) rfl (by decide) hb_5 dX8_cost_14 ?_
    refine g_iload_n hC dX8_cost_15 rfl rfl ?_
    refine g_calli (g_runV (As := [(vr z (7 + (x1).toNat)), (vi x2)]) (rest := []) hC rfl (ctX8_roomByRule hZ (by omega) h) rfl (gc_k8 hZ) (kwX8_roomByRule (by decide) (by decide)) rfl (wc wd_525) (wc wd_527) (wc wd_7) rfl (Nat.le_of_ble_eq_true rfl) rfl dX8_cost_16) (fun r_6 M_7 h => ?_)
    refine g_goto hC 23 dX8_cost_19 (by decide) ?_
    exact g_iret hC hR dX8_cost_23 h
abbrev wX8_best : List Cond := Cond.code yX8_best cX8_best 6 (some .int) :: gTs
abbrev rmX8_best : Room := { frames := 5, cells := 0, slots := 0, locals := 118 }
theorem kwX8_best {c0 : Cond} {rm : Room} (h1 : rmX8_best.frames + 1 ≤ rm.frames) (h2 : 8 + (6 + 11) + rmX8_best.locals ≤ rm.locals) : gCw (c0 :: gTs) rm yX8_best cX8_best 6 (some .int) wX8_best rmX8_best 1 := gCw_of wd_536 wd_39 h1 h2 (by decide +kernel)
def fX8_best_L7  (x1 : Int) : Nat → Int → Int → Int → gMem → (Int → gMem → Prop) → Prop
  | 0, _, _, _, _, _ => False
  | n7 + 1, x2, x3, x4, M, Q =>
    (rg x4 ∧ (x4 < 6 →
    (fX8_isSetRule x4 M (fun r_3 =>
      (rg r_3 ∧ (r_3 = 0 →
      fX8_best_L7 x1 n7 x2 x3 (x4 + 1) M Q) ∧
      (¬ r_3 = 0 →
      ((0 ≤ x4 ∧ x4 < 6) ∧ (fX8_roomByRule (7 + (x4).toNat) x1 M (fun r_8 M_9 =>
        (rg x2 ∧ (x2 = (-1) →
        fX8_best_L7 x1 n7 x4 r_8 (x4 + 1) M_9 Q) ∧
        (¬ x2 = (-1) →
        (rg r_8 ∧ rg x3 ∧ (r_8 < x3 →
          fX8_best_L7 x1 n7 x4 r_8 (x4 + 1) M_9 Q) ∧
          (¬ r_8 < x3 →
          fX8_best_L7 x1 n7 x2 x3 (x4 + 1) M_9 Q)))))))))))) ∧
    (¬ x4 < 6 →
    Q x2 M))
set_option maxHeartbeats 4000000 in
set_option maxRecDepth 100000 in
theorem ctX8_best_L7 {y : gY} {z : gZ} {l : Launch} {x1 : Int} {Q : Int → gMem → Prop}  (hC : gC y z l cX8_best RX8 6 wX8_best rmX8_best) (hR : gRI y z cL .int Q) (hZ : gZc z)  :
    ∀ (n : Nat) (x2 : Int) (x3 : Int) (x4 : Int) (M : gMem), fX8_best_L7 x1 n x2 x3 x4 M Q → gW y z cL 7 [some (vr z 0), some (vi x1), some (vi x2), some (vi x3), some (vi x4), none] [] M := by
  intro n
  induction n with
  | zero => intro x2 x3 x4 M h; exact False.elim h
  | succ n7 ih =>
    intro x2 x3 x4 M h
    replace h : (rg x4 ∧ (x4 < 6 →
    (fX8_isSetRule x4 M (fun r_3 =>
      (rg r_3 ∧ (r_3 = 0 →
      fX8_best_L7 x1 n7 x2 x3 (x4 + 1) M Q) ∧
      (¬ r_3 = 0 →
      ((0 ≤ x4 ∧ x4 < 6) ∧ (fX8_roomByRule (7 + (x4).toNat) x1 M (fun r_8 M_9 =>
        (rg x2 ∧ (x2 = (-1) →
        fX8_best_L7 x1 n7 x4 r_8 (x4 + 1) M_9 Q) ∧
        (¬ x2 = (-1) →
        (rg r_8 ∧ rg x3 ∧ (r_8 < x3 →
          fX8_best_L7 x1 n7 x4 r_8 (x4 + 1) M_9 Q) ∧
          (¬ r_8 < x3 →
          fX8_best_L7 x1 n7 x2 x3 (x4 + 1) M_9 Q)))))))))))) ∧
    (¬ x4 < 6 →
    Q x2 M)) := h
    refine g_iload hC dX8_best_7 rfl ?_
    refine g_bipush hC dX8_best_9 (by decide) ?_
    obtain ⟨hr_1, hA, hB⟩ := h
    refine g_cge hC 60 hr_1 (by decide) dX8_best_11 (by decide) (fun hc_2 => ?_) (fun hc_2 => ?_)
    · replace h := hA hc_2
      clear hA hB
      refine g_aload_n hC dX8_best_14 rfl rfl ?_
      refine g_iload hC dX8_best_15 rfl ?_
      refine g_calli (g_runV (As := [(vi x4)]) (rest := []) hC rfl (ctX8_isSetRule hZ  h) rfl (gc_k8 hZ) (kwX8_isSetRule (by decide) (by decide)) rfl (wc wd_422) (wc wd_424) (wc wd_1) rfl (Nat.le_of_ble_eq_true rfl) rfl dX8_best_17) (fun r_3 M_4 h => ?_)
      obtain ⟨rfl, h⟩ := h
      obtain ⟨hr_5, hA, hB⟩ := h
      refine g_ieq hC 54 hr_5 dX8_best_20 (by decide) (fun hc_6 => ?_) (fun hc_6 => ?_)
      · replace h := hA hc_6
        clear hA hB
        refine g_iinc2 (lc' := [some (vr z 0), some (vi x1), some (vi x2), some (vi x3), some (vi (x4 + 1)), none]) hC dX8_best_54 rfl rfl ?_
        refine g_goto hC 7 dX8_best_57 (by decide) ?_
        exact g_subk (ih x2 x3 (x4 + 1) M h) (And.intro rfl (And.intro rfl (And.intro rfl (And.intro rfl (And.intro rfl trivial)))))
      · replace h := hB hc_6
        clear hA hB
        refine g_aload_n hC dX8_best_23 rfl rfl ?_
        refine g_aload_n hC dX8_best_24 rfl rfl ?_
        refine g_getr (r := 6) hC rfl (gc_k8 hZ) iwX8 2 (by decide) rfl rfl (wc wd_301) dX8_best_25 ?_
        refine g_iload hC dX8_best_28 rfl ?_
        obtain ⟨hb_7, h⟩ := h
        refine g_aald hC 2 rfl (c_t3 hZ) rfl (by decide) hb_7 dX8_best_30 ?_
        refine g_iload_n hC dX8_best_31 rfl rfl ?_
        refine g_calli (g_runV (As := [(vr z (7 + (x4).toNat)), (vi x1)]) (rest := []) hC rfl (ctX8_roomByRule hZ (by omega) h) rfl (gc_k8 hZ) (kwX8_roomByRule (by decide) (by decide)) rfl (wc wd_525) (wc wd_527) (wc wd_7) rfl (Nat.le_of_ble_eq_true rfl) rfl dX8_best_32) (fun r_8 M_9 h => ?_)
        refine g_istore2 (lc' := [some (vr z 0), some (vi x1), some (vi x2), some (vi x3), some (vi x4), some (vi r_8)]) hC dX8_best_35 (Nat.le_of_ble_eq_true rfl) rfl ?_
        refine g_iload_n hC dX8_best_37 rfl rfl ?_
        refine g_iconst hC dX8_best_38 ?_
        obtain ⟨hr_10, hA, hB⟩ := h
        refine g_ceq hC 48 hr_10 (by decide) dX8_best_39 (by decide) (fun hc_11 => ?_) (fun hc_11 => ?_)
        · replace h := hA hc_11
          clear hA hB
          refine g_iload hC dX8_best_48 rfl ?_
          refine g_istore_n2 (lc' := [some (vr z 0), some (vi x1), some (vi x4), some (vi x3), some (vi x4), some (vi r_8)]) hC dX8_best_50 rfl (Nat.le_of_ble_eq_true rfl) rfl ?_
          refine g_iload hC dX8_best_51 rfl ?_
          refine g_istore_n2 (lc' := [some (vr z 0), some (vi x1), some (vi x4), some (vi r_8), some (vi x4), some (vi r_8)]) hC dX8_best_53 rfl (Nat.le_of_ble_eq_true rfl) rfl ?_
          refine g_iinc2 (lc' := [some (vr z 0), some (vi x1), some (vi x4), some (vi r_8), some (vi (x4 + 1)), some (vi r_8)]) hC dX8_best_54 rfl rfl ?_
          refine g_goto hC 7 dX8_best_57 (by decide) ?_
          exact g_subk (ih x4 r_8 (x4 + 1) M_9 h) (And.intro rfl (And.intro rfl (And.intro rfl (And.intro rfl (And.intro rfl trivial)))))
        · replace h := hB hc_11
          clear hA hB
          refine g_iload hC dX8_best_42 rfl ?_
          refine g_iload_n hC dX8_best_44 rfl rfl ?_
          obtain ⟨hr_12, hr_13, hA, hB⟩ := h
          refine g_cge hC 54 hr_12 hr_13 dX8_best_45 (by decide) (fun hc_14 => ?_) (fun hc_14 => ?_)
          · replace h := hA hc_14
            clear hA hB
            refine g_iload hC dX8_best_48 rfl ?_
            refine g_istore_n2 (lc' := [some (vr z 0), some (vi x1), some (vi x4), some (vi x3), some (vi x4), some (vi r_8)]) hC dX8_best_50 rfl (Nat.le_of_ble_eq_true rfl) rfl ?_
            refine g_iload hC dX8_best_51 rfl ?_
            refine g_istore_n2 (lc' := [some (vr z 0), some (vi x1), some (vi x4), some (vi r_8), some (vi x4), some (vi r_8)]) hC dX8_best_53 rfl (Nat.le_of_ble_eq_true rfl) rfl ?_
            refine g_iinc2 (lc' := [some (vr z 0), some (vi x1), some (vi x4), some (vi r_8), some (vi (x4 + 1)), some (vi r_8)]) hC dX8_best_54 rfl rfl ?_
            refine g_goto hC 7 dX8_best_57 (by decide) ?_
            exact g_subk (ih x4 r_8 (x4 + 1) M_9 h) (And.intro rfl (And.intro rfl (And.intro rfl (And.intro rfl (And.intro rfl trivial)))))
          · replace h := hB hc_14
            clear hA hB
            refine g_iinc2 (lc' := [some (vr z 0), some (vi x1), some (vi x2), some (vi x3), some (vi (x4 + 1)), some (vi r_8)]) hC dX8_best_54 rfl rfl ?_
            refine g_goto hC 7 dX8_best_57 (by decide) ?_
            exact g_subk (ih x2 x3 (x4 + 1) M_9 h) (And.intro rfl (And.intro rfl (And.intro rfl (And.intro rfl (And.intro rfl trivial)))))
    · replace h := hB hc_2
      clear hA hB
      refine g_iload_n hC dX8_best_60 rfl rfl ?_
      exact g_iret hC hR dX8_best_61 h
def fX8_best (x1 : Int) (M : gMem) (Q : Int → gMem → Prop) : Prop :=
  ∃ n_15, fX8_best_L7 x1 n_15 (-1) 0 0 M Q
set_option maxHeartbeats 4000000 in
set_option maxRecDepth 100000 in
theorem ctX8_best {l : Launch} {z : gZ} (hZ : gZc z) {x1 : Int}  {M : gMem} {Q : Int → gMem → Prop} (h : fX8_best x1 M Q) : gMI l z cL yX8_best wX8_best rmX8_best [(vr z 0), (vi x1)] M Q := by
  refine g_metI .int (by decide) rfl rfl (gCat_all (And.intro rfl (And.intro rfl trivial))) (Nat.le_of_ble_eq_true rfl) ?_
  intro y hC hR
  replace h : ∃ n_15, fX8_best_L7 x1 n_15 (-1) 0 0 M Q := h
  refine g_lc (lc' := [some (vr z 0), some (vi x1), none, none, none, none]) rfl ?_
  refine g_iconst hC dX8_best_0 ?_
  refine g_istore_n2 (lc' := [some (vr z 0), some (vi x1), some (vi (-1)), none, none, none]) hC dX8_best_1 rfl (Nat.le_of_ble_eq_true rfl) rfl ?_
  refine g_iconst hC dX8_best_2 ?_
  refine g_istore_n2 (lc' := [some (vr z 0), some (vi x1), some (vi (-1)), some (vi 0), none, none]) hC dX8_best_3 rfl (Nat.le_of_ble_eq_true rfl) rfl ?_
  refine g_iconst hC dX8_best_4 ?_
  refine g_istore2 (lc' := [some (vr z 0), some (vi x1), some (vi (-1)), some (vi 0), some (vi 0), none]) hC dX8_best_5 (Nat.le_of_ble_eq_true rfl) rfl ?_
  obtain ⟨n_15, h⟩ := h
  refine g_subk (ctX8_best_L7 hC hR hZ  n_15 (-1) 0 0 M h) (And.intro rfl (And.intro rfl (And.intro rfl (And.intro rfl (And.intro rfl trivial)))))
abbrev wX8_keep : List Cond := Cond.code yX8_keep cX8_keep 3 (some .int) :: gTs
abbrev rmX8_keep : Room := { frames := 4, cells := 0, slots := 0, locals := 100 }
theorem kwX8_keep {c0 : Cond} {rm : Room} (h1 : rmX8_keep.frames + 1 ≤ rm.frames) (h2 : 8 + (3 + 11) + rmX8_keep.locals ≤ rm.locals) : gCw (c0 :: gTs) rm yX8_keep cX8_keep 3 (some .int) wX8_keep rmX8_keep 2 := gCw_of wd_540 wd_39 h1 h2 (by decide +kernel)
def fX8_keep (x1 : Int) (x2 : Int) (M : gMem) (Q : Int → gMem → Prop) : Prop :=
  (fX8_isSetRule x1 M (fun r_1 =>
  (rg r_1 ∧ (r_1 = 0 →
  Q (-1) M) ∧
  (¬ r_1 = 0 →
  (fX8_isFile x2 M (fun r_5 =>
    (rg r_5 ∧ (r_5 = 0 →
    Q (-1) M) ∧
    (¬ r_5 = 0 →
    ((0 ≤ x1 ∧ x1 < 6) ∧ (fX0_divide 13 (7 + (x1).toNat) x2 M (fun M_10 =>
      (fX5_take 13 x2 M_10 (fun r_11 M_12 =>
      Q r_11 M_12)))))))))))))
set_option maxHeartbeats 4000000 in
set_option maxRecDepth 100000 in
theorem ctX8_keep {l : Launch} {z : gZ} (hZ : gZc z) {x1 : Int} {x2 : Int}  {M : gMem} {Q : Int → gMem → Prop} (h : fX8_keep x1 x2 M Q) : gMI l z cL yX8_keep wX8_keep rmX8_keep [(vr z 0), (vi x1), (vi x2)] M Q := by
  refine g_metI .int (by decide) rfl rfl (gCat_all (And.intro rfl (And.intro rfl (And.intro rfl trivial)))) (Nat.le_of_ble_eq_true rfl) ?_
  intro y hC hR
  replace h : (fX8_isSetRule x1 M (fun r_1 =>
  (rg r_1 ∧ (r_1 = 0 →
  Q (-1) M) ∧
  (¬ r_1 = 0 →
  (fX8_isFile x2 M (fun r_5 =>
    (rg r_5 ∧ (r_5 = 0 →
    Q (-1) M) ∧
    (¬ r_5 = 0 →
    ((0 ≤ x1 ∧ x1 < 6) ∧ (fX0_divide 13 (7 + (x1).toNat) x2 M (fun M_10 =>
      (fX5_take 13 x2 M_10 (fun r_11 M_12 =>
      Q r_11 M_12))))))))))))) := h
  refine g_lc (lc' := [some (vr z 0), some (vi x1), some (vi x2)]) rfl ?_
  refine g_aload_n hC dX8_keep_0 rfl rfl ?_
  refine g_iload_n hC dX8_keep_1 rfl rfl ?_
  refine g_calli (g_runV (As := [(vi x1)]) (rest := []) hC rfl (ctX8_isSetRule hZ  h) rfl (gc_k8 hZ) (kwX8_isSetRule (by decide) (by decide)) rfl (wc wd_422) (wc wd_424) (wc wd_1) rfl (Nat.le_of_ble_eq_true rfl) rfl dX8_keep_2) (fun r_1 M_2 h => ?_)
  obtain ⟨rfl, h⟩ := h
  obtain ⟨hr_3, hA, hB⟩ := h
  refine g_ieq hC 15 hr_3 dX8_keep_5 (by decide) (fun hc_4 => ?_) (fun hc_4 => ?_)
  · replace h := hA hc_4
    clear hA hB
    refine g_iconst hC dX8_keep_15 ?_
    exact g_iret hC hR dX8_keep_16 h
  · replace h := hB hc_4
    clear hA hB
    refine g_iload_n hC dX8_keep_8 rfl rfl ?_
    refine g_calli (g_runS (As := [(vi x2)]) (rest := []) hC rfl (ctX8_isFile hZ  h) (kwX8_isFile (by decide) (by decide)) (wc wd_346) (wc wd_347) rfl (Nat.le_of_ble_eq_true rfl) rfl dX8_keep_9) (fun r_5 M_6 h => ?_)
    obtain ⟨rfl, h⟩ := h
    obtain ⟨hr_7, hA, hB⟩ := h
    refine g_ine hC 17 hr_7 dX8_keep_12 (by decide) (fun hc_8 => ?_) (fun hc_8 => ?_)
    · replace h := hA hc_8
      clear hA hB
      refine g_iconst hC dX8_keep_15 ?_
      exact g_iret hC hR dX8_keep_16 h
    · replace h := hB hc_8
      clear hA hB
      refine g_aload_n hC dX8_keep_17 rfl rfl ?_
      refine g_getr (r := 13) hC rfl (gc_k8 hZ) iwX8 3 (by decide) rfl rfl (wc wd_302) dX8_keep_18 ?_
      refine g_aload_n hC dX8_keep_21 rfl rfl ?_
      refine g_getr (r := 6) hC rfl (gc_k8 hZ) iwX8 2 (by decide) rfl rfl (wc wd_301) dX8_keep_22 ?_
      refine g_iload_n hC dX8_keep_25 rfl rfl ?_
      obtain ⟨hb_9, h⟩ := h
      refine g_aald hC 2 rfl (c_t3 hZ) rfl (by decide) hb_9 dX8_keep_26 ?_
      refine g_iload_n hC dX8_keep_27 rfl rfl ?_
      refine g_callv (g_runV (As := [(vr z (7 + (x1).toNat)), (vi x2)]) (rest := []) hC rfl (ctX0_divide hZ (by omega) (by omega) h) rfl (gc_k0 hZ) (kwX0_divide (by decide) (by decide)) rfl (wc wd_440) (wc wd_441) (wc wd_442) rfl (Nat.le_of_ble_eq_true rfl) rfl dX8_keep_28) (fun M_10 h => ?_)
      refine g_aload_n hC dX8_keep_31 rfl rfl ?_
      refine g_getr (r := 22) hC rfl (gc_k8 hZ) iwX8 6 (by decide) rfl rfl (wc wd_305) dX8_keep_32 ?_
      refine g_aload_n hC dX8_keep_35 rfl rfl ?_
      refine g_getr (r := 13) hC rfl (gc_k8 hZ) iwX8 3 (by decide) rfl rfl (wc wd_302) dX8_keep_36 ?_
      refine g_iload_n hC dX8_keep_39 rfl rfl ?_
      refine g_calli (g_runV (As := [(vr z 13), (vi x2)]) (rest := []) hC rfl (ctX5_take hZ (by omega) h) rfl (gc_k5 hZ) (kwX5_take (by decide) (by decide)) rfl (wc wd_541) (wc wd_542) (wc wd_543) rfl (Nat.le_of_ble_eq_true rfl) rfl dX8_keep_40) (fun r_11 M_12 h => ?_)
      exact g_iret hC hR dX8_keep_43 h
abbrev wX8_isKept : List Cond := Cond.code yX8_isKept cX8_isKept 2 (some .boolean) :: gTs
abbrev rmX8_isKept : Room := { frames := 2, cells := 0, slots := 0, locals := 42 }
theorem kwX8_isKept {c0 : Cond} {rm : Room} (h1 : rmX8_isKept.frames + 1 ≤ rm.frames) (h2 : 8 + (2 + 11) + rmX8_isKept.locals ≤ rm.locals) : gCw (c0 :: gTs) rm yX8_isKept cX8_isKept 2 (some .boolean) wX8_isKept rmX8_isKept 1 := gCw_of wd_584 wd_39 h1 h2 (by decide +kernel)
def fX8_isKept (x1 : Int) (M : gMem) (Q : Int → Prop) : Prop :=
  (fX8_isFile x1 M (fun r_1 =>
  (rg r_1 ∧ (r_1 = 0 →
  Q 0) ∧
  (¬ r_1 = 0 →
  ((0 ≤ x1 ∧ x1 < 8) ∧ (rg (M 38 x1) ∧ ((M 38 x1) = (-1) →
    Q 0) ∧
    (¬ (M 38 x1) = (-1) →
    Q 1)))))))
set_option maxHeartbeats 4000000 in
set_option maxRecDepth 100000 in
theorem ctX8_isKept {l : Launch} {z : gZ} (hZ : gZc z) {x1 : Int}  {M : gMem} {Q : Int → Prop} (h : fX8_isKept x1 M Q) : gMI l z cL yX8_isKept wX8_isKept rmX8_isKept [(vr z 0), (vi x1)] M (fun r M' => M = M' ∧ Q r) := by
  refine g_metI .boolean (by decide) rfl rfl (gCat_all (And.intro rfl (And.intro rfl trivial))) (Nat.le_of_ble_eq_true rfl) ?_
  intro y hC hR
  replace h : (fX8_isFile x1 M (fun r_1 =>
  (rg r_1 ∧ (r_1 = 0 →
  Q 0) ∧
  (¬ r_1 = 0 →
  ((0 ≤ x1 ∧ x1 < 8) ∧ (rg (M 38 x1) ∧ ((M 38 x1) = (-1) →
    Q 0) ∧
    (¬ (M 38 x1) = (-1) →
    Q 1))))))) := h
  refine g_lc (lc' := [some (vr z 0), some (vi x1)]) rfl ?_
  refine g_iload_n hC dX8_isKept_0 rfl rfl ?_
  refine g_calli (g_runS (As := [(vi x1)]) (rest := []) hC rfl (ctX8_isFile hZ  h) (kwX8_isFile (by decide) (by decide)) (wc wd_346) (wc wd_347) rfl (Nat.le_of_ble_eq_true rfl) rfl dX8_isKept_1) (fun r_1 M_2 h => ?_)
  obtain ⟨rfl, h⟩ := h
  obtain ⟨hr_3, hA, hB⟩ := h
  refine g_ieq hC 24 hr_3 dX8_isKept_4 (by decide) (fun hc_4 => ?_) (fun hc_4 => ?_)
  · replace h := hA hc_4
    clear hA hB
    refine g_iconst hC dX8_isKept_24 ?_
    exact g_zret hC hR (by decide) dX8_isKept_25 ⟨rfl, h⟩
  · replace h := hB hc_4
    clear hA hB
    refine g_aload_n hC dX8_isKept_7 rfl rfl ?_
    refine g_getr (r := 22) hC rfl (gc_k8 hZ) iwX8 6 (by decide) rfl rfl (wc wd_305) dX8_isKept_8 ?_
    refine g_getr (r := 38) hC rfl (gc_k5 hZ) iwX5 7 (by decide) rfl rfl (wc wd_197) dX8_isKept_11 ?_
    refine g_iload_n hC dX8_isKept_14 rfl rfl ?_
    obtain ⟨hb_5, h⟩ := h
    refine g_iald hC 0 rfl (c_t0 hZ) (by decide) hb_5 dX8_isKept_15 ?_
    refine g_iconst hC dX8_isKept_16 ?_
    obtain ⟨hr_6, hA, hB⟩ := h
    refine g_ceq hC 24 hr_6 (by decide) dX8_isKept_17 (by decide) (fun hc_7 => ?_) (fun hc_7 => ?_)
    · replace h := hA hc_7
      clear hA hB
      refine g_iconst hC dX8_isKept_24 ?_
      exact g_zret hC hR (by decide) dX8_isKept_25 ⟨rfl, h⟩
    · replace h := hB hc_7
      clear hA hB
      refine g_iconst hC dX8_isKept_20 ?_
      refine g_goto hC 25 dX8_isKept_21 (by decide) ?_
      exact g_zret hC hR (by decide) dX8_isKept_25 ⟨rfl, h⟩
abbrev wX8_drop : List Cond := Cond.code yX8_drop cX8_drop 2 (some .int) :: gTs
abbrev rmX8_drop : Room := { frames := 4, cells := 0, slots := 0, locals := 95 }
theorem kwX8_drop {c0 : Cond} {rm : Room} (h1 : rmX8_drop.frames + 1 ≤ rm.frames) (h2 : 8 + (2 + 11) + rmX8_drop.locals ≤ rm.locals) : gCw (c0 :: gTs) rm yX8_drop cX8_drop 2 (some .int) wX8_drop rmX8_drop 1 := gCw_of wd_580 wd_39 h1 h2 (by decide +kernel)
def fX8_drop (x1 : Int) (M : gMem) (Q : Int → gMem → Prop) : Prop :=
  (fX8_isKept x1 M (fun r_1 =>
  (rg r_1 ∧ (r_1 = 0 →
  Q (-1) M) ∧
  (¬ r_1 = 0 →
  (fX5_letGo x1 M (fun r_5 M_6 =>
    Q r_5 M_6))))))
set_option maxHeartbeats 4000000 in
set_option maxRecDepth 100000 in
theorem ctX8_drop {l : Launch} {z : gZ} (hZ : gZc z) {x1 : Int}  {M : gMem} {Q : Int → gMem → Prop} (h : fX8_drop x1 M Q) : gMI l z cL yX8_drop wX8_drop rmX8_drop [(vr z 0), (vi x1)] M Q := by
  refine g_metI .int (by decide) rfl rfl (gCat_all (And.intro rfl (And.intro rfl trivial))) (Nat.le_of_ble_eq_true rfl) ?_
  intro y hC hR
  replace h : (fX8_isKept x1 M (fun r_1 =>
  (rg r_1 ∧ (r_1 = 0 →
  Q (-1) M) ∧
  (¬ r_1 = 0 →
  (fX5_letGo x1 M (fun r_5 M_6 =>
    Q r_5 M_6)))))) := h
  refine g_lc (lc' := [some (vr z 0), some (vi x1)]) rfl ?_
  refine g_aload_n hC dX8_drop_0 rfl rfl ?_
  refine g_iload_n hC dX8_drop_1 rfl rfl ?_
  refine g_calli (g_runV (As := [(vi x1)]) (rest := []) hC rfl (ctX8_isKept hZ  h) rfl (gc_k8 hZ) (kwX8_isKept (by decide) (by decide)) rfl (wc wd_581) (wc wd_583) (wc wd_16) rfl (Nat.le_of_ble_eq_true rfl) rfl dX8_drop_2) (fun r_1 M_2 h => ?_)
  obtain ⟨rfl, h⟩ := h
  obtain ⟨hr_3, hA, hB⟩ := h
  refine g_ieq hC 19 hr_3 dX8_drop_5 (by decide) (fun hc_4 => ?_) (fun hc_4 => ?_)
  · replace h := hA hc_4
    clear hA hB
    refine g_iconst hC dX8_drop_19 ?_
    exact g_iret hC hR dX8_drop_20 h
  · replace h := hB hc_4
    clear hA hB
    refine g_aload_n hC dX8_drop_8 rfl rfl ?_
    refine g_getr (r := 22) hC rfl (gc_k8 hZ) iwX8 6 (by decide) rfl rfl (wc wd_305) dX8_drop_9 ?_
    refine g_iload_n hC dX8_drop_12 rfl rfl ?_
    refine g_calli (g_runV (As := [(vi x1)]) (rest := []) hC rfl (ctX5_letGo hZ  h) rfl (gc_k5 hZ) (kwX5_letGo (by decide) (by decide)) rfl (wc wd_585) (wc wd_586) (wc wd_587) rfl (Nat.le_of_ble_eq_true rfl) rfl dX8_drop_13) (fun r_5 M_6 h => ?_)
    refine g_goto hC 20 dX8_drop_16 (by decide) ?_
    exact g_iret hC hR dX8_drop_20 h
abbrev wX8_bring : List Cond := Cond.code yX8_bring cX8_bring 2 (some .int) :: gTs
abbrev rmX8_bring : Room := { frames := 3, cells := 0, slots := 0, locals := 73 }
theorem kwX8_bring {c0 : Cond} {rm : Room} (h1 : rmX8_bring.frames + 1 ≤ rm.frames) (h2 : 8 + (2 + 11) + rmX8_bring.locals ≤ rm.locals) : gCw (c0 :: gTs) rm yX8_bring cX8_bring 2 (some .int) wX8_bring rmX8_bring 1 := gCw_of wd_592 wd_39 h1 h2 (by decide +kernel)
def fX8_bring (x1 : Int) (M : gMem) (Q : Int → gMem → Prop) : Prop :=
  (fX8_isKept x1 M (fun r_1 =>
  (rg r_1 ∧ (r_1 = 0 →
  Q (-1) M) ∧
  (¬ r_1 = 0 →
  (fX5_restore x1 M (fun M_5 =>
    ((0 ≤ x1 ∧ x1 < 8) ∧ Q (M_5 3 x1) M_5)))))))
set_option maxHeartbeats 4000000 in
set_option maxRecDepth 100000 in
theorem ctX8_bring {l : Launch} {z : gZ} (hZ : gZc z) {x1 : Int}  {M : gMem} {Q : Int → gMem → Prop} (h : fX8_bring x1 M Q) : gMI l z cL yX8_bring wX8_bring rmX8_bring [(vr z 0), (vi x1)] M Q := by
  refine g_metI .int (by decide) rfl rfl (gCat_all (And.intro rfl (And.intro rfl trivial))) (Nat.le_of_ble_eq_true rfl) ?_
  intro y hC hR
  replace h : (fX8_isKept x1 M (fun r_1 =>
  (rg r_1 ∧ (r_1 = 0 →
  Q (-1) M) ∧
  (¬ r_1 = 0 →
  (fX5_restore x1 M (fun M_5 =>
    ((0 ≤ x1 ∧ x1 < 8) ∧ Q (M_5 3 x1) M_5))))))) := h
  refine g_lc (lc' := [some (vr z 0), some (vi x1)]) rfl ?_
  refine g_aload_n hC dX8_bring_0 rfl rfl ?_
  refine g_iload_n hC dX8_bring_1 rfl rfl ?_
  refine g_calli (g_runV (As := [(vi x1)]) (rest := []) hC rfl (ctX8_isKept hZ  h) rfl (gc_k8 hZ) (kwX8_isKept (by decide) (by decide)) rfl (wc wd_581) (wc wd_583) (wc wd_16) rfl (Nat.le_of_ble_eq_true rfl) rfl dX8_bring_2) (fun r_1 M_2 h => ?_)
  obtain ⟨rfl, h⟩ := h
  obtain ⟨hr_3, hA, hB⟩ := h
  refine g_ine hC 10 hr_3 dX8_bring_5 (by decide) (fun hc_4 => ?_) (fun hc_4 => ?_)
  · replace h := hA hc_4
    clear hA hB
    refine g_iconst hC dX8_bring_8 ?_
    exact g_iret hC hR dX8_bring_9 h
  · replace h := hB hc_4
    clear hA hB
    refine g_aload_n hC dX8_bring_10 rfl rfl ?_
    refine g_getr (r := 22) hC rfl (gc_k8 hZ) iwX8 6 (by decide) rfl rfl (wc wd_305) dX8_bring_11 ?_
    refine g_iload_n hC dX8_bring_14 rfl rfl ?_
    refine g_callv (g_runV (As := [(vi x1)]) (rest := []) hC rfl (ctX5_restore hZ  h) rfl (gc_k5 hZ) (kwX5_restore (by decide) (by decide)) rfl (wc wd_593) (wc wd_594) (wc wd_595) rfl (Nat.le_of_ble_eq_true rfl) rfl dX8_bring_15) (fun M_5 h => ?_)
    refine g_aload_n hC dX8_bring_18 rfl rfl ?_
    refine g_getr (r := 1) hC rfl (gc_k8 hZ) iwX8 0 (by decide) rfl rfl (wc wd_299) dX8_bring_19 ?_
    refine g_getr (r := 3) hC rfl (gc_k2 hZ) iwX2 1 (by decide) rfl rfl (wc wd_72) dX8_bring_22 ?_
    refine g_iload_n hC dX8_bring_25 rfl rfl ?_
    obtain ⟨hb_6, h⟩ := h
    refine g_iald hC 0 rfl (c_t0 hZ) (by decide) hb_6 dX8_bring_26 ?_
    exact g_iret hC hR dX8_bring_27 h
abbrev wX8_jumps : List Cond := Cond.code yX8_jumps cX8_jumps 2 (some .int) :: gTs
abbrev rmX8_jumps : Room := { frames := 3, cells := 0, slots := 0, locals := 63 }
theorem kwX8_jumps {c0 : Cond} {rm : Room} (h1 : rmX8_jumps.frames + 1 ≤ rm.frames) (h2 : 8 + (2 + 11) + rmX8_jumps.locals ≤ rm.locals) : gCw (c0 :: gTs) rm yX8_jumps cX8_jumps 2 (some .int) wX8_jumps rmX8_jumps 1 := gCw_of wd_604 wd_39 h1 h2 (by decide +kernel)
def fX8_jumps (x1 : Int) (M : gMem) (Q : Int → Prop) : Prop :=
  (fX8_isKept x1 M (fun r_1 =>
  (rg r_1 ∧ (r_1 = 0 →
  Q (-1)) ∧
  (¬ r_1 = 0 →
  (fX5_countJumps x1 M (fun r_5 =>
    Q r_5))))))
set_option maxHeartbeats 4000000 in
set_option maxRecDepth 100000 in
theorem ctX8_jumps {l : Launch} {z : gZ} (hZ : gZc z) {x1 : Int}  {M : gMem} {Q : Int → Prop} (h : fX8_jumps x1 M Q) : gMI l z cL yX8_jumps wX8_jumps rmX8_jumps [(vr z 0), (vi x1)] M (fun r M' => M = M' ∧ Q r) := by
  refine g_metI .int (by decide) rfl rfl (gCat_all (And.intro rfl (And.intro rfl trivial))) (Nat.le_of_ble_eq_true rfl) ?_
  intro y hC hR
  replace h : (fX8_isKept x1 M (fun r_1 =>
  (rg r_1 ∧ (r_1 = 0 →
  Q (-1)) ∧
  (¬ r_1 = 0 →
  (fX5_countJumps x1 M (fun r_5 =>
    Q r_5)))))) := h
  refine g_lc (lc' := [some (vr z 0), some (vi x1)]) rfl ?_
  refine g_aload_n hC dX8_jumps_0 rfl rfl ?_
  refine g_iload_n hC dX8_jumps_1 rfl rfl ?_
  refine g_calli (g_runV (As := [(vi x1)]) (rest := []) hC rfl (ctX8_isKept hZ  h) rfl (gc_k8 hZ) (kwX8_isKept (by decide) (by decide)) rfl (wc wd_581) (wc wd_583) (wc wd_16) rfl (Nat.le_of_ble_eq_true rfl) rfl dX8_jumps_2) (fun r_1 M_2 h => ?_)
  obtain ⟨rfl, h⟩ := h
  obtain ⟨hr_3, hA, hB⟩ := h
  refine g_ieq hC 19 hr_3 dX8_jumps_5 (by decide) (fun hc_4 => ?_) (fun hc_4 => ?_)
  · replace h := hA hc_4
    clear hA hB
    refine g_iconst hC dX8_jumps_19 ?_
    exact g_iret hC hR dX8_jumps_20 ⟨rfl, h⟩
  · replace h := hB hc_4
    clear hA hB
    refine g_aload_n hC dX8_jumps_8 rfl rfl ?_
    refine g_getr (r := 22) hC rfl (gc_k8 hZ) iwX8 6 (by decide) rfl rfl (wc wd_305) dX8_jumps_9 ?_
    refine g_iload_n hC dX8_jumps_12 rfl rfl ?_
    refine g_calli (g_runV (As := [(vi x1)]) (rest := []) hC rfl (ctX5_countJumps hZ  h) rfl (gc_k5 hZ) (kwX5_countJumps (by decide) (by decide)) rfl (wc wd_605) (wc wd_606) (wc wd_607) rfl (Nat.le_of_ble_eq_true rfl) rfl dX8_jumps_13) (fun r_5 M_6 h => ?_)
    obtain ⟨rfl, h⟩ := h
    refine g_goto hC 20 dX8_jumps_16 (by decide) ?_
    exact g_iret hC hR dX8_jumps_20 ⟨rfl, h⟩
abbrev wX8_number : List Cond := Cond.code yX8_number cX8_number 3 (some .int) :: gTs
abbrev rmX8_number : Room := { frames := 3, cells := 0, slots := 0, locals := 63 }
theorem kwX8_number {c0 : Cond} {rm : Room} (h1 : rmX8_number.frames + 1 ≤ rm.frames) (h2 : 8 + (3 + 11) + rmX8_number.locals ≤ rm.locals) : gCw (c0 :: gTs) rm yX8_number cX8_number 3 (some .int) wX8_number rmX8_number 2 := gCw_of wd_612 wd_39 h1 h2 (by decide +kernel)
def fX8_number (x1 : Int) (x2 : Int) (M : gMem) (Q : Int → Prop) : Prop :=
  (fX8_isKept x1 M (fun r_1 =>
  (rg r_1 ∧ (r_1 = 0 →
  Q (-1)) ∧
  (¬ r_1 = 0 →
  ((0 ≤ x1 ∧ x1 < 8) ∧ (fX8_isWithin x2 0 ((M 38 x1) - 1) M (fun r_6 =>
    (rg r_6 ∧ (r_6 = 0 →
    Q (-1)) ∧
    (¬ r_6 = 0 →
    ((0 ≤ x1 ∧ x1 < 8) ∧ ((0 ≤ x2 ∧ x2 < 600) ∧ Q (M (29 + (x1).toNat) x2))))))))))))
set_option maxHeartbeats 4000000 in
set_option maxRecDepth 100000 in
theorem ctX8_number {l : Launch} {z : gZ} (hZ : gZc z) {x1 : Int} {x2 : Int}  {M : gMem} {Q : Int → Prop} (h : fX8_number x1 x2 M Q) : gMI l z cL yX8_number wX8_number rmX8_number [(vr z 0), (vi x1), (vi x2)] M (fun r M' => M = M' ∧ Q r) := by
  refine g_metI .int (by decide) rfl rfl (gCat_all (And.intro rfl (And.intro rfl (And.intro rfl trivial)))) (Nat.le_of_ble_eq_true rfl) ?_
  intro y hC hR
  replace h : (fX8_isKept x1 M (fun r_1 =>
  (rg r_1 ∧ (r_1 = 0 →
  Q (-1)) ∧
  (¬ r_1 = 0 →
  ((0 ≤ x1 ∧ x1 < 8) ∧ (fX8_isWithin x2 0 ((M 38 x1) - 1) M (fun r_6 =>
    (rg r_6 ∧ (r_6 = 0 →
    Q (-1)) ∧
    (¬ r_6 = 0 →
    ((0 ≤ x1 ∧ x1 < 8) ∧ ((0 ≤ x2 ∧ x2 < 600) ∧ Q (M (29 + (x1).toNat) x2)))))))))))) := h
  refine g_lc (lc' := [some (vr z 0), some (vi x1), some (vi x2)]) rfl ?_
  refine g_aload_n hC dX8_number_0 rfl rfl ?_
  refine g_iload_n hC dX8_number_1 rfl rfl ?_
  refine g_calli (g_runV (As := [(vi x1)]) (rest := []) hC rfl (ctX8_isKept hZ  h) rfl (gc_k8 hZ) (kwX8_isKept (by decide) (by decide)) rfl (wc wd_581) (wc wd_583) (wc wd_16) rfl (Nat.le_of_ble_eq_true rfl) rfl dX8_number_2) (fun r_1 M_2 h => ?_)
  obtain ⟨rfl, h⟩ := h
  obtain ⟨hr_3, hA, hB⟩ := h
  refine g_ieq hC 41 hr_3 dX8_number_5 (by decide) (fun hc_4 => ?_) (fun hc_4 => ?_)
  · replace h := hA hc_4
    clear hA hB
    refine g_iconst hC dX8_number_41 ?_
    exact g_iret hC hR dX8_number_42 ⟨rfl, h⟩
  · replace h := hB hc_4
    clear hA hB
    refine g_iload_n hC dX8_number_8 rfl rfl ?_
    refine g_iconst hC dX8_number_9 ?_
    refine g_aload_n hC dX8_number_10 rfl rfl ?_
    refine g_getr (r := 22) hC rfl (gc_k8 hZ) iwX8 6 (by decide) rfl rfl (wc wd_305) dX8_number_11 ?_
    refine g_getr (r := 38) hC rfl (gc_k5 hZ) iwX5 7 (by decide) rfl rfl (wc wd_197) dX8_number_14 ?_
    refine g_iload_n hC dX8_number_17 rfl rfl ?_
    obtain ⟨hb_5, h⟩ := h
    refine g_iald hC 0 rfl (c_t0 hZ) (by decide) hb_5 dX8_number_18 ?_
    refine g_iconst hC dX8_number_19 ?_
    refine g_isub hC dX8_number_20 ?_
    refine g_calli (g_runS (As := [(vi x2), (vi 0), (vi ((M 38 x1) - 1))]) (rest := []) hC rfl (ctX8_isWithin hZ  h) (kwX8_isWithin (by decide) (by decide)) (wc wd_349) (wc wd_350) rfl (Nat.le_of_ble_eq_true rfl) rfl dX8_number_21) (fun r_6 M_7 h => ?_)
    obtain ⟨rfl, h⟩ := h
    obtain ⟨hr_8, hA, hB⟩ := h
    refine g_ieq hC 41 hr_8 dX8_number_24 (by decide) (fun hc_9 => ?_) (fun hc_9 => ?_)
    · replace h := hA hc_9
      clear hA hB
      refine g_iconst hC dX8_number_41 ?_
      exact g_iret hC hR dX8_number_42 ⟨rfl, h⟩
    · replace h := hB hc_9
      clear hA hB
      refine g_aload_n hC dX8_number_27 rfl rfl ?_
      refine g_getr (r := 22) hC rfl (gc_k8 hZ) iwX8 6 (by decide) rfl rfl (wc wd_305) dX8_number_28 ?_
      refine g_getr (r := 28) hC rfl (gc_k5 hZ) iwX5 6 (by decide) rfl rfl (wc wd_195) dX8_number_31 ?_
      refine g_iload_n hC dX8_number_34 rfl rfl ?_
      obtain ⟨hb_10, h⟩ := h
      refine g_aald hC 3 rfl (c_t4 hZ) rfl (by decide) hb_10 dX8_number_35 ?_
      refine g_iload_n hC dX8_number_36 rfl rfl ?_
      obtain ⟨hb_11, h⟩ := h
      refine g_iald hC 0 (lay_row (by omega)) (c_t0 hZ) (by decide) hb_11 dX8_number_37 ?_
      refine g_goto hC 42 dX8_number_38 (by decide) ?_
      exact g_iret hC hR dX8_number_42 ⟨rfl, h⟩
