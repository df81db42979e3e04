abbrev wX8_copy : List Cond := Cond.code yX8_copy cX8_copy 3 (some .int) :: gTs
abbrev rmX8_copy : Room := { frames := 2, cells := 0, slots := 0, locals := 48 }
theorem kwX8_copy {c0 : Cond} {rm : Room} (h1 : rmX8_copy.frames + 1 ≤ rm.frames) (h2 : 8 + (3 + 11) + rmX8_copy.locals ≤ rm.locals) : gCw (c0 :: gTs) rm yX8_copy cX8_copy 3 (some .int) wX8_copy rmX8_copy 2 := gCw_of wd_375 wd_39 h1 h2 (by decide +kernel)
def fX8_copy (x1 : Int) (x2 : Int) (M : gMem) (Q : Int → gMem → Prop) : Prop :=
  (fX8_isFile x1 M (fun r_1 =>
  (rg r_1 ∧ (r_1 = 0 →
  Q (-1) M) ∧
  (¬ r_1 = 0 →
  (fX8_isFile x2 M (fun r_5 =>
    (rg r_5 ∧ (r_5 = 0 →
    Q (-1) M) ∧
    (¬ r_5 = 0 →
    (fX2_duplicate x1 x2 M (fun M_9 =>
      ((0 ≤ x2 ∧ x2 < 8) ∧ Q (M_9 3 x2) M_9)))))))))))
set_option maxHeartbeats 4000000 in
set_option maxRecDepth 100000 in
theorem ctX8_copy {l : Launch} {z : gZ} (hZ : gZc z) {x1 : Int} {x2 : Int}  {M : gMem} {Q : Int → gMem → Prop} (h : fX8_copy x1 x2 M Q) : gMI l z cL yX8_copy wX8_copy rmX8_copy [(vr z 0), (vi x1), (vi x2)] M Q := by
  refine g_metI .int (by decide) rfl rfl (gCat_all (And.intro rfl (And.intro rfl (And.intro rfl trivial)))) (Nat.le_of_ble_eq_true rfl) ?_
  intro y hC hR
  replace h : (fX8_isFile x1 M (fun r_1 =>
  (rg r_1 ∧ (r_1 = 0 →
  Q (-1) M) ∧
  (¬ r_1 = 0 →
  (fX8_isFile x2 M (fun r_5 =>
    (rg r_5 ∧ (r_5 = 0 →
    Q (-1) M) ∧
    (¬ r_5 = 0 →
    (fX2_duplicate x1 x2 M (fun M_9 =>
      ((0 ≤ x2 ∧ x2 < 8) ∧ Q (M_9 3 x2) M_9))))))))))) := h
  refine g_lc (lc' := [some (vr z 0), some (vi x1), some (vi x2)]) rfl ?_
  refine g_iload_n hC dX8_copy_0 rfl rfl ?_
  refine g_calli (g_runS (As := [(vi x1)]) (rest := []) hC rfl (ctX8_isFile hZ  h) (kwX8_isFile (by decide) (by decide)) (wc wd_346) (wc wd_347) rfl (Nat.le_of_ble_eq_true rfl) rfl dX8_copy_1) (fun r_1 M_2 h => ?_)
  obtain ⟨rfl, h⟩ := h
  obtain ⟨hr_3, hA, hB⟩ := h
  refine g_ieq hC 14 hr_3 dX8_copy_4 (by decide) (fun hc_4 => ?_) (fun hc_4 => ?_)
  · replace h := hA hc_4
    clear hA hB
    refine g_iconst hC dX8_copy_14 ?_
    exact g_iret hC hR dX8_copy_15 h
  · replace h := hB hc_4
    clear hA hB
    refine g_iload_n hC dX8_copy_7 rfl rfl ?_
    refine g_calli (g_runS (As := [(vi x2)]) (rest := []) hC rfl (ctX8_isFile hZ  h) (kwX8_isFile (by decide) (by decide)) (wc wd_346) (wc wd_347) rfl (Nat.le_of_ble_eq_true rfl) rfl dX8_copy_8) (fun r_5 M_6 h => ?_)
    obtain ⟨rfl, h⟩ := h
    obtain ⟨hr_7, hA, hB⟩ := h
    refine g_ine hC 16 hr_7 dX8_copy_11 (by decide) (fun hc_8 => ?_) (fun hc_8 => ?_)
    · replace h := hA hc_8
      clear hA hB
      refine g_iconst hC dX8_copy_14 ?_
      exact g_iret hC hR dX8_copy_15 h
    · replace h := hB hc_8
      clear hA hB
      refine g_aload_n hC dX8_copy_16 rfl rfl ?_
      refine g_getr (r := 1) hC rfl (gc_k8 hZ) iwX8 0 (by decide) rfl rfl (wc wd_299) dX8_copy_17 ?_
      refine g_iload_n hC dX8_copy_20 rfl rfl ?_
      refine g_iload_n hC dX8_copy_21 rfl rfl ?_
      refine g_callv (g_runV (As := [(vi x1), (vi x2)]) (rest := []) hC rfl (ctX2_duplicate hZ  h) rfl (gc_k2 hZ) (kwX2_duplicate (by decide) (by decide)) rfl (wc wd_376) (wc wd_377) (wc wd_378) rfl (Nat.le_of_ble_eq_true rfl) rfl dX8_copy_22) (fun M_9 h => ?_)
      refine g_aload_n hC dX8_copy_25 rfl rfl ?_
      refine g_getr (r := 1) hC rfl (gc_k8 hZ) iwX8 0 (by decide) rfl rfl (wc wd_299) dX8_copy_26 ?_
      refine g_getr (r := 3) hC rfl (gc_k2 hZ) iwX2 1 (by decide) rfl rfl (wc wd_72) dX8_copy_29 ?_
      refine g_iload_n hC dX8_copy_32 rfl rfl ?_
      obtain ⟨hb_10, h⟩ := h
      refine g_iald hC 0 rfl (c_t0 hZ) (by decide) hb_10 dX8_copy_33 ?_
      exact g_iret hC hR dX8_copy_34 h
abbrev wX8_isPlace : List Cond := Cond.code yX8_isPlace cX8_isPlace 3 (some .boolean) :: gTs
abbrev rmX8_isPlace : Room := { frames := 2, cells := 0, slots := 0, locals := 42 }
theorem kwX8_isPlace {c0 : Cond} {rm : Room} (h1 : rmX8_isPlace.frames + 1 ≤ rm.frames) (h2 : 8 + (3 + 11) + rmX8_isPlace.locals ≤ rm.locals) : gCw (c0 :: gTs) rm yX8_isPlace cX8_isPlace 3 (some .boolean) wX8_isPlace rmX8_isPlace 2 := gCw_of wd_387 wd_39 h1 h2 (by decide +kernel)
def fX8_isPlace (x1 : Int) (x2 : Int) (M : gMem) (Q : Int → Prop) : Prop :=
  (fX8_isFile x1 M (fun r_1 =>
  (rg r_1 ∧ (r_1 = 0 →
  Q 0) ∧
  (¬ r_1 = 0 →
  ((0 ≤ x1 ∧ x1 < 8) ∧ (fX8_isWithin x2 0 ((M 3 x1) - 1) M (fun r_6 =>
    (rg r_6 ∧ (r_6 = 0 →
    Q 0) ∧
    (¬ r_6 = 0 →
    Q 1)))))))))
set_option maxHeartbeats 4000000 in
set_option maxRecDepth 100000 in
theorem ctX8_isPlace {l : Launch} {z : gZ} (hZ : gZc z) {x1 : Int} {x2 : Int}  {M : gMem} {Q : Int → Prop} (h : fX8_isPlace x1 x2 M Q) : gMI l z cL yX8_isPlace wX8_isPlace rmX8_isPlace [(vr z 0), (vi x1), (vi x2)] M (fun r M' => M = M' ∧ Q r) := by
  refine g_metI .boolean (by decide) rfl rfl (gCat_all (And.intro rfl (And.intro rfl (And.intro rfl trivial)))) (Nat.le_of_ble_eq_true rfl) ?_
  intro y hC hR
  replace h : (fX8_isFile x1 M (fun r_1 =>
  (rg r_1 ∧ (r_1 = 0 →
  Q 0) ∧
  (¬ r_1 = 0 →
  ((0 ≤ x1 ∧ x1 < 8) ∧ (fX8_isWithin x2 0 ((M 3 x1) - 1) M (fun r_6 =>
    (rg r_6 ∧ (r_6 = 0 →
    Q 0) ∧
    (¬ r_6 = 0 →
    Q 1))))))))) := h
  refine g_lc (lc' := [some (vr z 0), some (vi x1), some (vi x2)]) rfl ?_
  refine g_iload_n hC dX8_isPlace_0 rfl rfl ?_
  refine g_calli (g_runS (As := [(vi x1)]) (rest := []) hC rfl (ctX8_isFile hZ  h) (kwX8_isFile (by decide) (by decide)) (wc wd_346) (wc wd_347) rfl (Nat.le_of_ble_eq_true rfl) rfl dX8_isPlace_1) (fun r_1 M_2 h => ?_)
  obtain ⟨rfl, h⟩ := h
  obtain ⟨hr_3, hA, hB⟩ := h
  refine g_ieq hC 30 hr_3 dX8_isPlace_4 (by decide) (fun hc_4 => ?_) (fun hc_4 => ?_)
  · replace h := hA hc_4
    clear hA hB
    refine g_iconst hC dX8_isPlace_30 ?_
    exact g_zret hC hR (by decide) dX8_isPlace_31 ⟨rfl, h⟩
  · replace h := hB hc_4
    clear hA hB
    refine g_iload_n hC dX8_isPlace_7 rfl rfl ?_
    refine g_iconst hC dX8_isPlace_8 ?_
    refine g_aload_n hC dX8_isPlace_9 rfl rfl ?_
    refine g_getr (r := 1) hC rfl (gc_k8 hZ) iwX8 0 (by decide) rfl rfl (wc wd_299) dX8_isPlace_10 ?_
    refine g_getr (r := 3) hC rfl (gc_k2 hZ) iwX2 1 (by decide) rfl rfl (wc wd_72) dX8_isPlace_13 ?_
    refine g_iload_n hC dX8_isPlace_16 rfl rfl ?_
    obtain ⟨hb_5, h⟩ := h
    refine g_iald hC 0 rfl (c_t0 hZ) (by decide) hb_5 dX8_isPlace_17 ?_
    refine g_iconst hC dX8_isPlace_18 ?_
    refine g_isub hC dX8_isPlace_19 ?_
    refine g_calli (g_runS (As := [(vi x2), (vi 0), (vi ((M 3 x1) - 1))]) (rest := []) hC rfl (ctX8_isWithin hZ  h) (kwX8_isWithin (by decide) (by decide)) (wc wd_349) (wc wd_350) rfl (Nat.le_of_ble_eq_true rfl) rfl dX8_isPlace_20) (fun r_6 M_7 h => ?_)
    obtain ⟨rfl, h⟩ := h
    obtain ⟨hr_8, hA, hB⟩ := h
    refine g_ieq hC 30 hr_8 dX8_isPlace_23 (by decide) (fun hc_9 => ?_) (fun hc_9 => ?_)
    · replace h := hA hc_9
      clear hA hB
      refine g_iconst hC dX8_isPlace_30 ?_
      exact g_zret hC hR (by decide) dX8_isPlace_31 ⟨rfl, h⟩
    · replace h := hB hc_9
      clear hA hB
      refine g_iconst hC dX8_isPlace_26 ?_
      refine g_goto hC 31 dX8_isPlace_27 (by decide) ?_
      exact g_zret hC hR (by decide) dX8_isPlace_31 ⟨rfl, h⟩
abbrev wX8_at : List Cond := Cond.code yX8_at cX8_at 3 (some .int) :: gTs
abbrev rmX8_at : Room := { frames := 3, cells := 0, slots := 0, locals := 64 }
theorem kwX8_at {c0 : Cond} {rm : Room} (h1 : rmX8_at.frames + 1 ≤ rm.frames) (h2 : 8 + (3 + 11) + rmX8_at.locals ≤ rm.locals) : gCw (c0 :: gTs) rm yX8_at cX8_at 3 (some .int) wX8_at rmX8_at 2 := gCw_of wd_383 wd_39 h1 h2 (by decide +kernel)
def fX8_at (x1 : Int) (x2 : Int) (M : gMem) (Q : Int → Prop) : Prop :=
  (fX8_isPlace x1 x2 M (fun r_1 =>
  (rg r_1 ∧ (r_1 = 0 →
  Q (-1)) ∧
  (¬ r_1 = 0 →
  (fX2_byteAt x1 x2 M (fun r_5 =>
    Q r_5))))))
set_option maxHeartbeats 4000000 in
set_option maxRecDepth 100000 in
theorem ctX8_at {l : Launch} {z : gZ} (hZ : gZc z) {x1 : Int} {x2 : Int}  {M : gMem} {Q : Int → Prop} (h : fX8_at x1 x2 M Q) : gMI l z cL yX8_at wX8_at rmX8_at [(vr z 0), (vi x1), (vi x2)] M (fun r M' => M = M' ∧ Q r) := by
  refine g_metI .int (by decide) rfl rfl (gCat_all (And.intro rfl (And.intro rfl (And.intro rfl trivial)))) (Nat.le_of_ble_eq_true rfl) ?_
  intro y hC hR
  replace h : (fX8_isPlace x1 x2 M (fun r_1 =>
  (rg r_1 ∧ (r_1 = 0 →
  Q (-1)) ∧
  (¬ r_1 = 0 →
  (fX2_byteAt x1 x2 M (fun r_5 =>
    Q r_5)))))) := h
  refine g_lc (lc' := [some (vr z 0), some (vi x1), some (vi x2)]) rfl ?_
  refine g_aload_n hC dX8_at_0 rfl rfl ?_
  refine g_iload_n hC dX8_at_1 rfl rfl ?_
  refine g_iload_n hC dX8_at_2 rfl rfl ?_
  refine g_calli (g_runV (As := [(vi x1), (vi x2)]) (rest := []) hC rfl (ctX8_isPlace hZ  h) rfl (gc_k8 hZ) (kwX8_isPlace (by decide) (by decide)) rfl (wc wd_384) (wc wd_386) (wc wd_0) rfl (Nat.le_of_ble_eq_true rfl) rfl dX8_at_3) (fun r_1 M_2 h => ?_)
  obtain ⟨rfl, h⟩ := h
  obtain ⟨hr_3, hA, hB⟩ := h
  refine g_ieq hC 21 hr_3 dX8_at_6 (by decide) (fun hc_4 => ?_) (fun hc_4 => ?_)
  · replace h := hA hc_4
    clear hA hB
    refine g_iconst hC dX8_at_21 ?_
    exact g_iret hC hR dX8_at_22 ⟨rfl, h⟩
  · replace h := hB hc_4
    clear hA hB
    refine g_aload_n hC dX8_at_9 rfl rfl ?_
    refine g_getr (r := 1) hC rfl (gc_k8 hZ) iwX8 0 (by decide) rfl rfl (wc wd_299) dX8_at_10 ?_
    refine g_iload_n hC dX8_at_13 rfl rfl ?_
    refine g_iload_n hC dX8_at_14 rfl rfl ?_
    refine g_calli (g_runV (As := [(vi x1), (vi x2)]) (rest := []) hC rfl (ctX2_byteAt hZ  h) rfl (gc_k2 hZ) (kwX2_byteAt (by decide) (by decide)) rfl (wc wd_388) (wc wd_389) (wc wd_390) rfl (Nat.le_of_ble_eq_true rfl) rfl dX8_at_15) (fun r_5 M_6 h => ?_)
    obtain ⟨rfl, h⟩ := h
    refine g_goto hC 22 dX8_at_18 (by decide) ?_
    exact g_iret hC hR dX8_at_22 ⟨rfl, h⟩
abbrev wX8_isRule : List Cond := Cond.code yX8_isRule cX8_isRule 1 (some .boolean) :: gTs
abbrev rmX8_isRule : Room := { frames := 1, cells := 0, slots := 0, locals := 22 }
theorem kwX8_isRule {c0 : Cond} {rm : Room} (h1 : rmX8_isRule.frames + 1 ≤ rm.frames) (h2 : 8 + (1 + 11) + rmX8_isRule.locals ≤ rm.locals) : gCw (c0 :: gTs) rm yX8_isRule cX8_isRule 1 (some .boolean) wX8_isRule rmX8_isRule 1 := gCw_of wd_398 wd_39 h1 h2 (by decide +kernel)
def fX8_isRule (x0 : Int) (M : gMem) (Q : Int → Prop) : Prop :=
  (fX8_isWithin x0 0 5 M (fun r_1 =>
  (r_1 = 0 ∨ r_1 = 1) ∧ Q r_1))
set_option maxHeartbeats 4000000 in
set_option maxRecDepth 100000 in
theorem ctX8_isRule {l : Launch} {z : gZ} (hZ : gZc z) {x0 : Int}  {M : gMem} {Q : Int → Prop} (h : fX8_isRule x0 M Q) : gMI l z cL yX8_isRule wX8_isRule rmX8_isRule [(vi x0)] M (fun r M' => M = M' ∧ Q r) := by
  refine g_metI .boolean (by decide) rfl rfl (gCat_all (And.intro rfl trivial)) (Nat.le_of_ble_eq_true rfl) ?_
  intro y hC hR
  replace h : (fX8_isWithin x0 0 5 M (fun r_1 =>
  (r_1 = 0 ∨ r_1 = 1) ∧ Q r_1)) := h
  refine g_lc (lc' := [some (vi x0)]) rfl ?_
  refine g_iload_n hC dX8_isRule_0 rfl rfl ?_
  refine g_iconst hC dX8_isRule_1 ?_
  refine g_iconst hC dX8_isRule_2 ?_
  refine g_calli (g_runS (As := [(vi x0), (vi 0), (vi 5)]) (rest := []) hC rfl (ctX8_isWithin hZ  h) (kwX8_isWithin (by decide) (by decide)) (wc wd_349) (wc wd_350) rfl (Nat.le_of_ble_eq_true rfl) rfl dX8_isRule_3) (fun r_1 M_2 h => ?_)
  obtain ⟨rfl, h⟩ := h
  exact g_zret hC hR h.1 dX8_isRule_6 ⟨rfl, h.2⟩
abbrev wX8_fixed : List Cond := Cond.code yX8_fixed cX8_fixed 3 (some .boolean) :: gTs
abbrev rmX8_fixed : Room := { frames := 2, cells := 0, slots := 0, locals := 42 }
theorem kwX8_fixed {c0 : Cond} {rm : Room} (h1 : rmX8_fixed.frames + 1 ≤ rm.frames) (h2 : 8 + (3 + 11) + rmX8_fixed.locals ≤ rm.locals) : gCw (c0 :: gTs) rm yX8_fixed cX8_fixed 3 (some .boolean) wX8_fixed rmX8_fixed 2 := gCw_of wd_395 wd_39 h1 h2 (by decide +kernel)
def fX8_fixed (x1 : Int) (x2 : Int) (M : gMem) (Q : Int → gMem → Prop) : Prop :=
  (fX8_isRule x1 M (fun r_1 =>
  (rg r_1 ∧ (r_1 = 0 →
  Q 0 M) ∧
  (¬ r_1 = 0 →
  (fX8_isWithin x2 1 200 M (fun r_5 =>
    (rg r_5 ∧ (r_5 = 0 →
    Q 0 M) ∧
    (¬ r_5 = 0 →
    ((0 ≤ x1 ∧ x1 < 6) ∧ (fX4_become (7 + (x1).toNat) 0 x2 x2 0 M (fun M_10 =>
      Q 1 M_10)))))))))))
set_option maxHeartbeats 4000000 in
set_option maxRecDepth 100000 in
theorem ctX8_fixed {l : Launch} {z : gZ} (hZ : gZc z) {x1 : Int} {x2 : Int}  {M : gMem} {Q : Int → gMem → Prop} (h : fX8_fixed x1 x2 M Q) : gMI l z cL yX8_fixed wX8_fixed rmX8_fixed [(vr z 0), (vi x1), (vi x2)] M Q := by
  refine g_metI .boolean (by decide) rfl rfl (gCat_all (And.intro rfl (And.intro rfl (And.intro rfl trivial)))) (Nat.le_of_ble_eq_true rfl) ?_
  intro y hC hR
  replace h : (fX8_isRule x1 M (fun r_1 =>
  (rg r_1 ∧ (r_1 = 0 →
  Q 0 M) ∧
  (¬ r_1 = 0 →
  (fX8_isWithin x2 1 200 M (fun r_5 =>
    (rg r_5 ∧ (r_5 = 0 →
    Q 0 M) ∧
    (¬ r_5 = 0 →
    ((0 ≤ x1 ∧ x1 < 6) ∧ (fX4_become (7 + (x1).toNat) 0 x2 x2 0 M (fun M_10 =>
      Q 1 M_10))))))))))) := h
  refine g_lc (lc' := [some (vr z 0), some (vi x1), some (vi x2)]) rfl ?_
  refine g_iload_n hC dX8_fixed_0 rfl rfl ?_
  refine g_calli (g_runS (As := [(vi x1)]) (rest := []) hC rfl (ctX8_isRule hZ  h) (kwX8_isRule (by decide) (by decide)) (wc wd_396) (wc wd_397) rfl (Nat.le_of_ble_eq_true rfl) rfl dX8_fixed_1) (fun r_1 M_2 h => ?_)
  obtain ⟨rfl, h⟩ := h
  obtain ⟨hr_3, hA, hB⟩ := h
  refine g_ieq hC 18 hr_3 dX8_fixed_4 (by decide) (fun hc_4 => ?_) (fun hc_4 => ?_)
  · replace h := hA hc_4
    clear hA hB
    refine g_iconst hC dX8_fixed_18 ?_
    exact g_zret hC hR (by decide) dX8_fixed_19 h
  · replace h := hB hc_4
    clear hA hB
    refine g_iload_n hC dX8_fixed_7 rfl rfl ?_
    refine g_iconst hC dX8_fixed_8 ?_
    refine g_sipush hC dX8_fixed_9 (by decide) ?_
    refine g_calli (g_runS (As := [(vi x2), (vi 1), (vi 200)]) (rest := []) hC rfl (ctX8_isWithin hZ  h) (kwX8_isWithin (by decide) (by decide)) (wc wd_349) (wc wd_350) rfl (Nat.le_of_ble_eq_true rfl) rfl dX8_fixed_12) (fun r_5 M_6 h => ?_)
    obtain ⟨rfl, h⟩ := h
    obtain ⟨hr_7, hA, hB⟩ := h
    refine g_ine hC 20 hr_7 dX8_fixed_15 (by decide) (fun hc_8 => ?_) (fun hc_8 => ?_)
    · replace h := hA hc_8
      clear hA hB
      refine g_iconst hC dX8_fixed_18 ?_
      exact g_zret hC hR (by decide) dX8_fixed_19 h
    · replace h := hB hc_8
      clear hA hB
      refine g_aload_n hC dX8_fixed_20 rfl rfl ?_
      refine g_getr (r := 6) hC rfl (gc_k8 hZ) iwX8 2 (by decide) rfl rfl (wc wd_301) dX8_fixed_21 ?_
      refine g_iload_n hC dX8_fixed_24 rfl rfl ?_
      obtain ⟨hb_9, h⟩ := h
      refine g_aald hC 2 rfl (c_t3 hZ) rfl (by decide) hb_9 dX8_fixed_25 ?_
      refine g_iconst hC dX8_fixed_26 ?_
      refine g_iload_n hC dX8_fixed_27 rfl rfl ?_
      refine g_iload_n hC dX8_fixed_28 rfl rfl ?_
      refine g_iconst hC dX8_fixed_29 ?_
      refine g_callv (g_runV (As := [(vi 0), (vi x2), (vi x2), (vi 0)]) (rest := []) hC rfl (ctX4_become hZ (by omega) h) (lay_rule (by omega)) (gc_k4 hZ) (kwX4_become (by decide) (by decide)) rfl (wc wd_399) (wc wd_400) (wc wd_401) rfl (Nat.le_of_ble_eq_true rfl) rfl dX8_fixed_30) (fun M_10 h => ?_)
      refine g_iconst hC dX8_fixed_33 ?_
      exact g_zret hC hR (by decide) dX8_fixed_34 h
abbrev wX8_isMarkRule : List Cond := Cond.code yX8_isMarkRule cX8_isMarkRule 3 (some .boolean) :: gTs
abbrev rmX8_isMarkRule : Room := { frames := 1, cells := 0, slots := 0, locals := 22 }
theorem kwX8_isMarkRule {c0 : Cond} {rm : Room} (h1 : rmX8_isMarkRule.frames + 1 ≤ rm.frames) (h2 : 8 + (3 + 11) + rmX8_isMarkRule.locals ≤ rm.locals) : gCw (c0 :: gTs) rm yX8_isMarkRule cX8_isMarkRule 3 (some .boolean) wX8_isMarkRule rmX8_isMarkRule 3 := gCw_of wd_409 wd_39 h1 h2 (by decide +kernel)
def fX8_isMarkRule (x0 : Int) (x1 : Int) (x2 : Int) (M : gMem) (Q : Int → Prop) : Prop :=
  (fX8_isWithin x1 1 200 M (fun r_1 =>
  (rg r_1 ∧ (r_1 = 0 →
  Q 0) ∧
  (¬ r_1 = 0 →
  (fX8_isWithin x0 1 x1 M (fun r_5 =>
    (rg r_5 ∧ (r_5 = 0 →
    Q 0) ∧
    (¬ r_5 = 0 →
    (fX8_isWithin x2 0 255 M (fun r_9 =>
      (rg r_9 ∧ (r_9 = 0 →
      Q 0) ∧
      (¬ r_9 = 0 →
      Q 1))))))))))))
set_option maxHeartbeats 4000000 in
set_option maxRecDepth 100000 in
theorem ctX8_isMarkRule {l : Launch} {z : gZ} (hZ : gZc z) {x0 : Int} {x1 : Int} {x2 : Int}  {M : gMem} {Q : Int → Prop} (h : fX8_isMarkRule x0 x1 x2 M Q) : gMI l z cL yX8_isMarkRule wX8_isMarkRule rmX8_isMarkRule [(vi x0), (vi x1), (vi x2)] M (fun r M' => M = M' ∧ Q r) := by
  refine g_metI .boolean (by decide) rfl rfl (gCat_all (And.intro rfl (And.intro rfl (And.intro rfl trivial)))) (Nat.le_of_ble_eq_true rfl) ?_
  intro y hC hR
  replace h : (fX8_isWithin x1 1 200 M (fun r_1 =>
  (rg r_1 ∧ (r_1 = 0 →
  Q 0) ∧
  (¬ r_1 = 0 →
  (fX8_isWithin x0 1 x1 M (fun r_5 =>
    (rg r_5 ∧ (r_5 = 0 →
    Q 0) ∧
    (¬ r_5 = 0 →
    (fX8_isWithin x2 0 255 M (fun r_9 =>
      (rg r_9 ∧ (r_9 = 0 →
      Q 0) ∧
      (¬ r_9 = 0 →
      Q 1)))))))))))) := h
  refine g_lc (lc' := [some (vi x0), some (vi x1), some (vi x2)]) rfl ?_
  refine g_iload_n hC dX8_isMarkRule_0 rfl rfl ?_
  refine g_iconst hC dX8_isMarkRule_1 ?_
  refine g_sipush hC dX8_isMarkRule_2 (by decide) ?_
  refine g_calli (g_runS (As := [(vi x1), (vi 1), (vi 200)]) (rest := []) hC rfl (ctX8_isWithin hZ  h) (kwX8_isWithin (by decide) (by decide)) (wc wd_349) (wc wd_350) rfl (Nat.le_of_ble_eq_true rfl) rfl dX8_isMarkRule_5) (fun r_1 M_2 h => ?_)
  obtain ⟨rfl, h⟩ := h
  obtain ⟨hr_3, hA, hB⟩ := h
  refine g_ieq hC 35 hr_3 dX8_isMarkRule_8 (by decide) (fun hc_4 => ?_) (fun hc_4 => ?_)
  · replace h := hA hc_4
    clear hA hB
    refine g_iconst hC dX8_isMarkRule_35 ?_
    exact g_zret hC hR (by decide) dX8_isMarkRule_36 ⟨rfl, h⟩
  · replace h := hB hc_4
    clear hA hB
    refine g_iload_n hC dX8_isMarkRule_11 rfl rfl ?_
    refine g_iconst hC dX8_isMarkRule_12 ?_
    refine g_iload_n hC dX8_isMarkRule_13 rfl rfl ?_
    refine g_calli (g_runS (As := [(vi x0), (vi 1), (vi x1)]) (rest := []) hC rfl (ctX8_isWithin hZ  h) (kwX8_isWithin (by decide) (by decide)) (wc wd_349) (wc wd_350) rfl (Nat.le_of_ble_eq_true rfl) rfl dX8_isMarkRule_14) (fun r_5 M_6 h => ?_)
    obtain ⟨rfl, h⟩ := h
    obtain ⟨hr_7, hA, hB⟩ := h
    refine g_ieq hC 35 hr_7 dX8_isMarkRule_17 (by decide) (fun hc_8 => ?_) (fun hc_8 => ?_)
    · replace h := hA hc_8
      clear hA hB
      refine g_iconst hC dX8_isMarkRule_35 ?_
      exact g_zret hC hR (by decide) dX8_isMarkRule_36 ⟨rfl, h⟩
    · replace h := hB hc_8
      clear hA hB
      refine g_iload_n hC dX8_isMarkRule_20 rfl rfl ?_
      refine g_iconst hC dX8_isMarkRule_21 ?_
      refine g_sipush hC dX8_isMarkRule_22 (by decide) ?_
      refine g_calli (g_runS (As := [(vi x2), (vi 0), (vi 255)]) (rest := []) hC rfl (ctX8_isWithin hZ  h) (kwX8_isWithin (by decide) (by decide)) (wc wd_349) (wc wd_350) rfl (Nat.le_of_ble_eq_true rfl) rfl dX8_isMarkRule_25) (fun r_9 M_10 h => ?_)
      obtain ⟨rfl, h⟩ := h
      obtain ⟨hr_11, hA, hB⟩ := h
      refine g_ieq hC 35 hr_11 dX8_isMarkRule_28 (by decide) (fun hc_12 => ?_) (fun hc_12 => ?_)
      · replace h := hA hc_12
        clear hA hB
        refine g_iconst hC dX8_isMarkRule_35 ?_
        exact g_zret hC hR (by decide) dX8_isMarkRule_36 ⟨rfl, h⟩
      · replace h := hB hc_12
        clear hA hB
        refine g_iconst hC dX8_isMarkRule_31 ?_
        refine g_goto hC 36 dX8_isMarkRule_32 (by decide) ?_
        exact g_zret hC hR (by decide) dX8_isMarkRule_36 ⟨rfl, h⟩
abbrev wX8_rolling : List Cond := Cond.code yX8_rolling cX8_rolling 8 (some .boolean) :: gTs
abbrev rmX8_rolling : Room := { frames := 2, cells := 0, slots := 0, locals := 44 }
theorem kwX8_rolling {c0 : Cond} {rm : Room} (h1 : rmX8_rolling.frames + 1 ≤ rm.frames) (h2 : 8 + (8 + 11) + rmX8_rolling.locals ≤ rm.locals) : gCw (c0 :: gTs) rm yX8_rolling cX8_rolling 8 (some .boolean) wX8_rolling rmX8_rolling 7 := gCw_of wd_406 wd_39 h1 h2 (by decide +kernel)
def fX8_rolling (x1 : Int) (x2 : Int) (x3 : Int) (x4 : Int) (x5 : Int) (x6 : Int) (x7 : Int) (M : gMem) (Q : Int → gMem → Prop) : Prop :=
  (fX8_isRule x1 M (fun r_1 =>
  (rg r_1 ∧ (r_1 = 0 →
  Q 0 M) ∧
  (¬ r_1 = 0 →
  (fX8_isMarkRule x3 x4 x7 M (fun r_5 =>
    (rg r_5 ∧ (r_5 = 0 →
    Q 0 M) ∧
    (¬ r_5 = 0 →
    (fX8_isWithin x5 1 16 M (fun r_9 =>
      (rg r_9 ∧ (r_9 = 0 →
      Q 0 M) ∧
      (¬ r_9 = 0 →
      (fX8_isWithin x6 0 8 M (fun r_13 =>
        (rg r_13 ∧ (r_13 = 0 →
        Q 0 M) ∧
        (¬ r_13 = 0 →
        ((0 ≤ x1 ∧ x1 < 6) ∧ (rg x2 ∧ (x2 = 0 →
          (fX4_become (7 + (x1).toNat) 1 x3 x4 x7 M (fun M_20 =>
            ((0 ≤ x1 ∧ x1 < 6) ∧ (fX4_roll (7 + (x1).toNat) x5 x6 M_20 (fun M_22 =>
            Q 1 M_22)))))) ∧
          (¬ x2 = 0 →
          (fX4_become (7 + (x1).toNat) 2 x3 x4 x7 M (fun M_23 =>
            ((0 ≤ x1 ∧ x1 < 6) ∧ (fX4_roll (7 + (x1).toNat) x5 x6 M_23 (fun M_25 =>
            Q 1 M_25))))))))))))))))))))))))
set_option maxHeartbeats 4000000 in
set_option maxRecDepth 100000 in
theorem ctX8_rolling {l : Launch} {z : gZ} (hZ : gZc z) {x1 : Int} {x2 : Int} {x3 : Int} {x4 : Int} {x5 : Int} {x6 : Int} {x7 : Int}  {M : gMem} {Q : Int → gMem → Prop} (h : fX8_rolling x1 x2 x3 x4 x5 x6 x7 M Q) : gMI l z cL yX8_rolling wX8_rolling rmX8_rolling [(vr z 0), (vi x1), (vi x2), (vi x3), (vi x4), (vi x5), (vi x6), (vi x7)] M Q := by
  refine g_metI .boolean (by decide) rfl rfl (gCat_all (And.intro rfl (And.intro rfl (And.intro rfl (And.intro rfl (And.intro rfl (And.intro rfl (And.intro rfl (And.intro rfl trivial))))))))) (Nat.le_of_ble_eq_true rfl) ?_
  intro y hC hR
  replace h : (fX8_isRule x1 M (fun r_1 =>
  (rg r_1 ∧ (r_1 = 0 →
  Q 0 M) ∧
  (¬ r_1 = 0 →
  (fX8_isMarkRule x3 x4 x7 M (fun r_5 =>
    (rg r_5 ∧ (r_5 = 0 →
    Q 0 M) ∧
    (¬ r_5 = 0 →
    (fX8_isWithin x5 1 16 M (fun r_9 =>
      (rg r_9 ∧ (r_9 = 0 →
      Q 0 M) ∧
      (¬ r_9 = 0 →
      (fX8_isWithin x6 0 8 M (fun r_13 =>
        (rg r_13 ∧ (r_13 = 0 →
        Q 0 M) ∧
        (¬ r_13 = 0 →
        ((0 ≤ x1 ∧ x1 < 6) ∧ (rg x2 ∧ (x2 = 0 →
          (fX4_become (7 + (x1).toNat) 1 x3 x4 x7 M (fun M_20 =>
            ((0 ≤ x1 ∧ x1 < 6) ∧ (fX4_roll (7 + (x1).toNat) x5 x6 M_20 (fun M_22 =>
            Q 1 M_22)))))) ∧
          (¬ x2 = 0 →
          (fX4_become (7 + (x1).toNat) 2 x3 x4 x7 M (fun M_23 =>
            ((0 ≤ x1 ∧ x1 < 6) ∧ (fX4_roll (7 + (x1).toNat) x5 x6 M_23 (fun M_25 =>
            Q 1 M_25)))))))))))))))))))))))) := h
  refine g_lc (lc' := [some (vr z 0), some (vi x1), some (vi x2), some (vi x3), some (vi x4), some (vi x5), some (vi x6), some (vi x7)]) rfl ?_
  refine g_iload_n hC dX8_rolling_0 rfl rfl ?_
  refine g_calli (g_runS (As := [(vi x1)]) (rest := []) hC rfl (ctX8_isRule hZ  h) (kwX8_isRule (by decide) (by decide)) (wc wd_396) (wc wd_397) rfl (Nat.le_of_ble_eq_true rfl) rfl dX8_rolling_1) (fun r_1 M_2 h => ?_)
  obtain ⟨rfl, h⟩ := h
  obtain ⟨hr_3, hA, hB⟩ := h
  refine g_ieq hC 40 hr_3 dX8_rolling_4 (by decide) (fun hc_4 => ?_) (fun hc_4 => ?_)
  · replace h := hA hc_4
    clear hA hB
    refine g_iconst hC dX8_rolling_40 ?_
    exact g_zret hC hR (by decide) dX8_rolling_41 h
  · replace h := hB hc_4
    clear hA hB
    refine g_iload_n hC dX8_rolling_7 rfl rfl ?_
    refine g_iload hC dX8_rolling_8 rfl ?_
    refine g_iload hC dX8_rolling_10 rfl ?_
    refine g_calli (g_runS (As := [(vi x3), (vi x4), (vi x7)]) (rest := []) hC rfl (ctX8_isMarkRule hZ  h) (kwX8_isMarkRule (by decide) (by decide)) (wc wd_407) (wc wd_408) rfl (Nat.le_of_ble_eq_true rfl) rfl dX8_rolling_12) (fun r_5 M_6 h => ?_)
    obtain ⟨rfl, h⟩ := h
    obtain ⟨hr_7, hA, hB⟩ := h
    refine g_ieq hC 40 hr_7 dX8_rolling_15 (by decide) (fun hc_8 => ?_) (fun hc_8 => ?_)
    · replace h := hA hc_8
      clear hA hB
      refine g_iconst hC dX8_rolling_40 ?_
      exact g_zret hC hR (by decide) dX8_rolling_41 h
    · replace h := hB hc_8
      clear hA hB
      refine g_iload hC dX8_rolling_18 rfl ?_
      refine g_iconst hC dX8_rolling_20 ?_
      refine g_bipush hC dX8_rolling_21 (by decide) ?_
      refine g_calli (g_runS (As := [(vi x5), (vi 1), (vi 16)]) (rest := []) hC rfl (ctX8_isWithin hZ  h) (kwX8_isWithin (by decide) (by decide)) (wc wd_349) (wc wd_350) rfl (Nat.le_of_ble_eq_true rfl) rfl dX8_rolling_23) (fun r_9 M_10 h => ?_)
      obtain ⟨rfl, h⟩ := h
      obtain ⟨hr_11, hA, hB⟩ := h
      refine g_ieq hC 40 hr_11 dX8_rolling_26 (by decide) (fun hc_12 => ?_) (fun hc_12 => ?_)
      · replace h := hA hc_12
        clear hA hB
        refine g_iconst hC dX8_rolling_40 ?_
        exact g_zret hC hR (by decide) dX8_rolling_41 h
      · replace h := hB hc_12
        clear hA hB
        refine g_iload hC dX8_rolling_29 rfl ?_
        refine g_iconst hC dX8_rolling_31 ?_
        refine g_bipush hC dX8_rolling_32 (by decide) ?_
        refine g_calli (g_runS (As := [(vi x6), (vi 0), (vi 8)]) (rest := []) hC rfl (ctX8_isWithin hZ  h) (kwX8_isWithin (by decide) (by decide)) (wc wd_349) (wc wd_350) rfl (Nat.le_of_ble_eq_true rfl) rfl dX8_rolling_34) (fun r_13 M_14 h => ?_)
        obtain ⟨rfl, h⟩ := h
        obtain ⟨hr_15, hA, hB⟩ := h
        refine g_ine hC 42 hr_15 dX8_rolling_37 (by decide) (fun hc_16 => ?_) (fun hc_16 => ?_)
        · replace h := hA hc_16
          clear hA hB
          refine g_iconst hC dX8_rolling_40 ?_
          exact g_zret hC hR (by decide) dX8_rolling_41 h
        · replace h := hB hc_16
          clear hA hB
          refine g_aload_n hC dX8_rolling_42 rfl rfl ?_
          refine g_getr (r := 6) hC rfl (gc_k8 hZ) iwX8 2 (by decide) rfl rfl (wc wd_301) dX8_rolling_43 ?_
          refine g_iload_n hC dX8_rolling_46 rfl rfl ?_
          obtain ⟨hb_17, h⟩ := h
          refine g_aald hC 2 rfl (c_t3 hZ) rfl (by decide) hb_17 dX8_rolling_47 ?_
          refine g_iload_n hC dX8_rolling_48 rfl rfl ?_
          obtain ⟨hr_18, hA, hB⟩ := h
          refine g_ieq hC 56 hr_18 dX8_rolling_49 (by decide) (fun hc_19 => ?_) (fun hc_19 => ?_)
          · replace h := hA hc_19
            clear hA hB
            refine g_iconst hC dX8_rolling_56 ?_
            refine g_iload_n hC dX8_rolling_57 rfl rfl ?_
            refine g_iload hC dX8_rolling_58 rfl ?_
            refine g_iload hC dX8_rolling_60 rfl ?_
            refine g_callv (g_runV (As := [(vi 1), (vi x3), (vi x4), (vi x7)]) (rest := []) hC rfl (ctX4_become hZ (by omega) h) (lay_rule (by omega)) (gc_k4 hZ) (kwX4_become (by decide) (by decide)) rfl (wc wd_399) (wc wd_400) (wc wd_401) rfl (Nat.le_of_ble_eq_true rfl) rfl dX8_rolling_62) (fun M_20 h => ?_)
            refine g_aload_n hC dX8_rolling_65 rfl rfl ?_
            refine g_getr (r := 6) hC rfl (gc_k8 hZ) iwX8 2 (by decide) rfl rfl (wc wd_301) dX8_rolling_66 ?_
            refine g_iload_n hC dX8_rolling_69 rfl rfl ?_
            obtain ⟨hb_21, h⟩ := h
            refine g_aald hC 2 rfl (c_t3 hZ) rfl (by decide) hb_21 dX8_rolling_70 ?_
            refine g_iload hC dX8_rolling_71 rfl ?_
            refine g_iload hC dX8_rolling_73 rfl ?_
            refine g_callv (g_runV (As := [(vi x5), (vi x6)]) (rest := []) hC rfl (ctX4_roll hZ (by omega) h) (lay_rule (by omega)) (gc_k4 hZ) (kwX4_roll (by decide) (by decide)) rfl (wc wd_410) (wc wd_411) (wc wd_412) rfl (Nat.le_of_ble_eq_true rfl) rfl dX8_rolling_75) (fun M_22 h => ?_)
            refine g_iconst hC dX8_rolling_78 ?_
            exact g_zret hC hR (by decide) dX8_rolling_79 h
          · replace h := hB hc_19
            clear hA hB
            refine g_iconst hC dX8_rolling_52 ?_
            refine g_goto hC 57 dX8_rolling_53 (by decide) ?_
            refine g_iload_n hC dX8_rolling_57 rfl rfl ?_
            refine g_iload hC dX8_rolling_58 rfl ?_
            refine g_iload hC dX8_rolling_60 rfl ?_
            refine g_callv (g_runV (As := [(vi 2), (vi x3), (vi x4), (vi x7)]) (rest := []) hC rfl (ctX4_become hZ (by omega) h) (lay_rule (by omega)) (gc_k4 hZ) (kwX4_become (by decide) (by decide)) rfl (wc wd_399) (wc wd_400) (wc wd_401) rfl (Nat.le_of_ble_eq_true rfl) rfl dX8_rolling_62) (fun M_23 h => ?_)
            refine g_aload_n hC dX8_rolling_65 rfl rfl ?_
            refine g_getr (r := 6) hC rfl (gc_k8 hZ) iwX8 2 (by decide) rfl rfl (wc wd_301) dX8_rolling_66 ?_
            refine g_iload_n hC dX8_rolling_69 rfl rfl ?_
            obtain ⟨hb_24, h⟩ := h
            refine g_aald hC 2 rfl (c_t3 hZ) rfl (by decide) hb_24 dX8_rolling_70 ?_
            refine g_iload hC dX8_rolling_71 rfl ?_
            refine g_iload hC dX8_rolling_73 rfl ?_
            refine g_callv (g_runV (As := [(vi x5), (vi x6)]) (rest := []) hC rfl (ctX4_roll hZ (by omega) h) (lay_rule (by omega)) (gc_k4 hZ) (kwX4_roll (by decide) (by decide)) rfl (wc wd_410) (wc wd_411) (wc wd_412) rfl (Nat.le_of_ble_eq_true rfl) rfl dX8_rolling_75) (fun M_25 h => ?_)
            refine g_iconst hC dX8_rolling_78 ?_
            exact g_zret hC hR (by decide) dX8_rolling_79 h
abbrev wX8_told : List Cond := Cond.code yX8_told cX8_told 5 (some .boolean) :: gTs
abbrev rmX8_told : Room := { frames := 2, cells := 0, slots := 0, locals := 44 }
theorem kwX8_told {c0 : Cond} {rm : Room} (h1 : rmX8_told.frames + 1 ≤ rm.frames) (h2 : 8 + (5 + 11) + rmX8_told.locals ≤ rm.locals) : gCw (c0 :: gTs) rm yX8_told cX8_told 5 (some .boolean) wX8_told rmX8_told 4 := gCw_of wd_417 wd_39 h1 h2 (by decide +kernel)
def fX8_told (x1 : Int) (x2 : Int) (x3 : Int) (x4 : Int) (M : gMem) (Q : Int → gMem → Prop) : Prop :=
  (fX8_isRule x1 M (fun r_1 =>
  (rg r_1 ∧ (r_1 = 0 →
  Q 0 M) ∧
  (¬ r_1 = 0 →
  (fX8_isMarkRule x2 x3 x4 M (fun r_5 =>
    (rg r_5 ∧ (r_5 = 0 →
    Q 0 M) ∧
    (¬ r_5 = 0 →
    ((0 ≤ x1 ∧ x1 < 6) ∧ (fX4_become (7 + (x1).toNat) 3 x2 x3 x4 M (fun M_10 =>
      Q 1 M_10)))))))))))
set_option maxHeartbeats 4000000 in
set_option maxRecDepth 100000 in
theorem ctX8_told {l : Launch} {z : gZ} (hZ : gZc z) {x1 : Int} {x2 : Int} {x3 : Int} {x4 : Int}  {M : gMem} {Q : Int → gMem → Prop} (h : fX8_told x1 x2 x3 x4 M Q) : gMI l z cL yX8_told wX8_told rmX8_told [(vr z 0), (vi x1), (vi x2), (vi x3), (vi x4)] M Q := by
  refine g_metI .boolean (by decide) rfl rfl (gCat_all (And.intro rfl (And.intro rfl (And.intro rfl (And.intro rfl (And.intro rfl trivial)))))) (Nat.le_of_ble_eq_true rfl) ?_
  intro y hC hR
  replace h : (fX8_isRule x1 M (fun r_1 =>
  (rg r_1 ∧ (r_1 = 0 →
  Q 0 M) ∧
  (¬ r_1 = 0 →
  (fX8_isMarkRule x2 x3 x4 M (fun r_5 =>
    (rg r_5 ∧ (r_5 = 0 →
    Q 0 M) ∧
    (¬ r_5 = 0 →
    ((0 ≤ x1 ∧ x1 < 6) ∧ (fX4_become (7 + (x1).toNat) 3 x2 x3 x4 M (fun M_10 =>
      Q 1 M_10))))))))))) := h
  refine g_lc (lc' := [some (vr z 0), some (vi x1), some (vi x2), some (vi x3), some (vi x4)]) rfl ?_
  refine g_iload_n hC dX8_told_0 rfl rfl ?_
  refine g_calli (g_runS (As := [(vi x1)]) (rest := []) hC rfl (ctX8_isRule hZ  h) (kwX8_isRule (by decide) (by decide)) (wc wd_396) (wc wd_397) rfl (Nat.le_of_ble_eq_true rfl) rfl dX8_told_1) (fun r_1 M_2 h => ?_)
  obtain ⟨rfl, h⟩ := h
  obtain ⟨hr_3, hA, hB⟩ := h
  refine g_ieq hC 17 hr_3 dX8_told_4 (by decide) (fun hc_4 => ?_) (fun hc_4 => ?_)
  · replace h := hA hc_4
    clear hA hB
    refine g_iconst hC dX8_told_17 ?_
    exact g_zret hC hR (by decide) dX8_told_18 h
  · replace h := hB hc_4
    clear hA hB
    refine g_iload_n hC dX8_told_7 rfl rfl ?_
    refine g_iload_n hC dX8_told_8 rfl rfl ?_
    refine g_iload hC dX8_told_9 rfl ?_
    refine g_calli (g_runS (As := [(vi x2), (vi x3), (vi x4)]) (rest := []) hC rfl (ctX8_isMarkRule hZ  h) (kwX8_isMarkRule (by decide) (by decide)) (wc wd_407) (wc wd_408) rfl (Nat.le_of_ble_eq_true rfl) rfl dX8_told_11) (fun r_5 M_6 h => ?_)
    obtain ⟨rfl, h⟩ := h
    obtain ⟨hr_7, hA, hB⟩ := h
    refine g_ine hC 19 hr_7 dX8_told_14 (by decide) (fun hc_8 => ?_) (fun hc_8 => ?_)
    · replace h := hA hc_8
      clear hA hB
      refine g_iconst hC dX8_told_17 ?_
      exact g_zret hC hR (by decide) dX8_told_18 h
    · replace h := hB hc_8
      clear hA hB
      refine g_aload_n hC dX8_told_19 rfl rfl ?_
      refine g_getr (r := 6) hC rfl (gc_k8 hZ) iwX8 2 (by decide) rfl rfl (wc wd_301) dX8_told_20 ?_
      refine g_iload_n hC dX8_told_23 rfl rfl ?_
      obtain ⟨hb_9, h⟩ := h
      refine g_aald hC 2 rfl (c_t3 hZ) rfl (by decide) hb_9 dX8_told_24 ?_
      refine g_iconst hC dX8_told_25 ?_
      refine g_iload_n hC dX8_told_26 rfl rfl ?_
      refine g_iload_n hC dX8_told_27 rfl rfl ?_
      refine g_iload hC dX8_told_28 rfl ?_
      refine g_callv (g_runV (As := [(vi 3), (vi x2), (vi x3), (vi x4)]) (rest := []) hC rfl (ctX4_become hZ (by omega) h) (lay_rule (by omega)) (gc_k4 hZ) (kwX4_become (by decide) (by decide)) rfl (wc wd_399) (wc wd_400) (wc wd_401) rfl (Nat.le_of_ble_eq_true rfl) rfl dX8_told_30) (fun M_10 h => ?_)
      refine g_iconst hC dX8_told_33 ?_
      exact g_zret hC hR (by decide) dX8_told_34 h
abbrev wX8_isSetRule : List Cond := Cond.code yX8_isSetRule cX8_isSetRule 2 (some .boolean) :: gTs
abbrev rmX8_isSetRule : Room := { frames := 2, cells := 0, slots := 0, locals := 42 }
theorem kwX8_isSetRule {c0 : Cond} {rm : Room} (h1 : rmX8_isSetRule.frames + 1 ≤ rm.frames) (h2 : 8 + (2 + 11) + rmX8_isSetRule.locals ≤ rm.locals) : gCw (c0 :: gTs) rm yX8_isSetRule cX8_isSetRule 2 (some .boolean) wX8_isSetRule rmX8_isSetRule 1 := gCw_of wd_425 wd_39 h1 h2 (by decide +kernel)
def fX8_isSetRule (x1 : Int) (M : gMem) (Q : Int → Prop) : Prop :=
  (fX8_isRule x1 M (fun r_1 =>
  (rg r_1 ∧ (r_1 = 0 →
  Q 0) ∧
  (¬ r_1 = 0 →
  ((0 ≤ x1 ∧ x1 < 6) ∧ (rg (M (7 + (x1).toNat) 0) ∧ ((M (7 + (x1).toNat) 0) = (-1) →
    Q 0) ∧
    (¬ (M (7 + (x1).toNat) 0) = (-1) →
    Q 1)))))))
set_option maxHeartbeats 4000000 in
set_option maxRecDepth 100000 in
theorem ctX8_isSetRule {l : Launch} {z : gZ} (hZ : gZc z) {x1 : Int}  {M : gMem} {Q : Int → Prop} (h : fX8_isSetRule x1 M Q) : gMI l z cL yX8_isSetRule wX8_isSetRule rmX8_isSetRule [(vr z 0), (vi x1)] M (fun r M' => M = M' ∧ Q r) := by
  refine g_metI .boolean (by decide) rfl rfl (gCat_all (And.intro rfl (And.intro rfl trivial))) (Nat.le_of_ble_eq_true rfl) ?_
  intro y hC hR
  replace h : (fX8_isRule x1 M (fun r_1 =>
  (rg r_1 ∧ (r_1 = 0 →
  Q 0) ∧
  (¬ r_1 = 0 →
  ((0 ≤ x1 ∧ x1 < 6) ∧ (rg (M (7 + (x1).toNat) 0) ∧ ((M (7 + (x1).toNat) 0) = (-1) →
    Q 0) ∧
    (¬ (M (7 + (x1).toNat) 0) = (-1) →
    Q 1))))))) := h
  refine g_lc (lc' := [some (vr z 0), some (vi x1)]) rfl ?_
  refine g_iload_n hC dX8_isSetRule_0 rfl rfl ?_
  refine g_calli (g_runS (As := [(vi x1)]) (rest := []) hC rfl (ctX8_isRule hZ  h) (kwX8_isRule (by decide) (by decide)) (wc wd_396) (wc wd_397) rfl (Nat.le_of_ble_eq_true rfl) rfl dX8_isSetRule_1) (fun r_1 M_2 h => ?_)
  obtain ⟨rfl, h⟩ := h
  obtain ⟨hr_3, hA, hB⟩ := h
  refine g_ieq hC 24 hr_3 dX8_isSetRule_4 (by decide) (fun hc_4 => ?_) (fun hc_4 => ?_)
  · replace h := hA hc_4
    clear hA hB
    refine g_iconst hC dX8_isSetRule_24 ?_
    exact g_zret hC hR (by decide) dX8_isSetRule_25 ⟨rfl, h⟩
  · replace h := hB hc_4
    clear hA hB
    refine g_aload_n hC dX8_isSetRule_7 rfl rfl ?_
    refine g_getr (r := 6) hC rfl (gc_k8 hZ) iwX8 2 (by decide) rfl rfl (wc wd_301) dX8_isSetRule_8 ?_
    refine g_iload_n hC dX8_isSetRule_11 rfl rfl ?_
    obtain ⟨hb_5, h⟩ := h
    refine g_aald hC 2 rfl (c_t3 hZ) rfl (by decide) hb_5 dX8_isSetRule_12 ?_
    refine g_geti (ji := 0) hC (lay_rule (by omega)) (gc_k4 hZ) iwX4 0 (by decide) rfl rfl (wc wd_105) dX8_isSetRule_13 rfl ?_
    refine g_iconst hC dX8_isSetRule_16 ?_
    obtain ⟨hr_6, hA, hB⟩ := h
    refine g_ceq hC 24 hr_6 (by decide) dX8_isSetRule_17 (by decide) (fun hc_7 => ?_) (fun hc_7 => ?_)
    · replace h := hA hc_7
      clear hA hB
      refine g_iconst hC dX8_isSetRule_24 ?_
      exact g_zret hC hR (by decide) dX8_isSetRule_25 ⟨rfl, h⟩
    · replace h := hB hc_7
      clear hA hB
      refine g_iconst hC dX8_isSetRule_20 ?_
      refine g_goto hC 25 dX8_isSetRule_21 (by decide) ?_
      exact g_zret hC hR (by decide) dX8_isSetRule_25 ⟨rfl, h⟩
abbrev wX8_sum : List Cond := Cond.code yX8_sum cX8_sum 4 (some .int) :: gTs
abbrev rmX8_sum : Room := { frames := 3, cells := 0, slots := 0, locals := 68 }
theorem kwX8_sum {c0 : Cond} {rm : Room} (h1 : rmX8_sum.frames + 1 ≤ rm.frames) (h2 : 8 + (4 + 11) + rmX8_sum.locals ≤ rm.locals) : gCw (c0 :: gTs) rm yX8_sum cX8_sum 4 (some .int) wX8_sum rmX8_sum 3 := gCw_of wd_421 wd_39 h1 h2 (by decide +kernel)
def fX8_sum (x1 : Int) (x2 : Int) (x3 : Int) (M : gMem) (Q : Int → gMem → Prop) : Prop :=
  (fX8_isSetRule x1 M (fun r_1 =>
  (rg r_1 ∧ (r_1 = 0 →
  Q (-1) M) ∧
  (¬ r_1 = 0 →
  ((0 ≤ x1 ∧ x1 < 6) ∧ (fX4_hasWindow (7 + (x1).toNat) M (fun r_6 =>
    (rg r_6 ∧ (r_6 = 0 →
    Q (-1) M) ∧
    (¬ r_6 = 0 →
    (fX8_isPlace x2 x3 M (fun r_10 =>
      (rg r_10 ∧ (r_10 = 0 →
      Q (-1) M) ∧
      (¬ r_10 = 0 →
      ((0 ≤ x1 ∧ x1 < 6) ∧ (fX0_addUp 13 (7 + (x1).toNat) x2 M (fun M_15 =>
        ((0 ≤ x3 ∧ x3 < 600) ∧ Q (M_15 14 x3) M_15)))))))))))))))))
set_option maxHeartbeats 4000000 in
set_option maxRecDepth 100000 in
theorem ctX8_sum {l : Launch} {z : gZ} (hZ : gZc z) {x1 : Int} {x2 : Int} {x3 : Int}  {M : gMem} {Q : Int → gMem → Prop} (h : fX8_sum x1 x2 x3 M Q) : gMI l z cL yX8_sum wX8_sum rmX8_sum [(vr z 0), (vi x1), (vi x2), (vi x3)] M Q := by
  refine g_metI .int (by decide) rfl rfl (gCat_all (And.intro rfl (And.intro rfl (And.intro rfl (And.intro rfl trivial))))) (Nat.le_of_ble_eq_true rfl) ?_
  intro y hC hR
  replace h : (fX8_isSetRule x1 M (fun r_1 =>
  (rg r_1 ∧ (r_1 = 0 →
  Q (-1) M) ∧
  (¬ r_1 = 0 →
  ((0 ≤ x1 ∧ x1 < 6) ∧ (fX4_hasWindow (7 + (x1).toNat) M (fun r_6 =>
    (rg r_6 ∧ (r_6 = 0 →
    Q (-1) M) ∧
    (¬ r_6 = 0 →
    (fX8_isPlace x2 x3 M (fun r_10 =>
      (rg r_10 ∧ (r_10 = 0 →
      Q (-1) M) ∧
      (¬ r_10 = 0 →
      ((0 ≤ x1 ∧ x1 < 6) ∧ (fX0_addUp 13 (7 + (x1).toNat) x2 M (fun M_15 =>
        ((0 ≤ x3 ∧ x3 < 600) ∧ Q (M_15 14 x3) M_15))))))))))))))))) := h
  refine g_lc (lc' := [some (vr z 0), some (vi x1), some (vi x2), some (vi x3)]) rfl ?_
  refine g_aload_n hC dX8_sum_0 rfl rfl ?_
  refine g_iload_n hC dX8_sum_1 rfl rfl ?_
  refine g_calli (g_runV (As := [(vi x1)]) (rest := []) hC rfl (ctX8_isSetRule hZ  h) rfl (gc_k8 hZ) (kwX8_isSetRule (by decide) (by decide)) rfl (wc wd_422) (wc wd_424) (wc wd_1) rfl (Nat.le_of_ble_eq_true rfl) rfl dX8_sum_2) (fun r_1 M_2 h => ?_)
  obtain ⟨rfl, h⟩ := h
  obtain ⟨hr_3, hA, hB⟩ := h
  refine g_ieq hC 29 hr_3 dX8_sum_5 (by decide) (fun hc_4 => ?_) (fun hc_4 => ?_)
  · replace h := hA hc_4
    clear hA hB
    refine g_iconst hC dX8_sum_29 ?_
    exact g_iret hC hR dX8_sum_30 h
  · replace h := hB hc_4
    clear hA hB
    refine g_aload_n hC dX8_sum_8 rfl rfl ?_
    refine g_getr (r := 6) hC rfl (gc_k8 hZ) iwX8 2 (by decide) rfl rfl (wc wd_301) dX8_sum_9 ?_
    refine g_iload_n hC dX8_sum_12 rfl rfl ?_
    obtain ⟨hb_5, h⟩ := h
    refine g_aald hC 2 rfl (c_t3 hZ) rfl (by decide) hb_5 dX8_sum_13 ?_
    refine g_calli (g_runV (As := []) (rest := []) hC rfl (ctX4_hasWindow hZ (by omega) h) (lay_rule (by omega)) (gc_k4 hZ) (kwX4_hasWindow (by decide) (by decide)) rfl (wc wd_426) (wc wd_427) (wc wd_428) rfl (Nat.le_of_ble_eq_true rfl) rfl dX8_sum_14) (fun r_6 M_7 h => ?_)
    obtain ⟨rfl, h⟩ := h
    obtain ⟨hr_8, hA, hB⟩ := h
    refine g_ieq hC 29 hr_8 dX8_sum_17 (by decide) (fun hc_9 => ?_) (fun hc_9 => ?_)
    · replace h := hA hc_9
      clear hA hB
      refine g_iconst hC dX8_sum_29 ?_
      exact g_iret hC hR dX8_sum_30 h
    · replace h := hB hc_9
      clear hA hB
      refine g_aload_n hC dX8_sum_20 rfl rfl ?_
      refine g_iload_n hC dX8_sum_21 rfl rfl ?_
      refine g_iload_n hC dX8_sum_22 rfl rfl ?_
      refine g_calli (g_runV (As := [(vi x2), (vi x3)]) (rest := []) hC rfl (ctX8_isPlace hZ  h) rfl (gc_k8 hZ) (kwX8_isPlace (by decide) (by decide)) rfl (wc wd_384) (wc wd_386) (wc wd_0) rfl (Nat.le_of_ble_eq_true rfl) rfl dX8_sum_23) (fun r_10 M_11 h => ?_)
      obtain ⟨rfl, h⟩ := h
      obtain ⟨hr_12, hA, hB⟩ := h
      refine g_ine hC 31 hr_12 dX8_sum_26 (by decide) (fun hc_13 => ?_) (fun hc_13 => ?_)
      · replace h := hA hc_13
        clear hA hB
        refine g_iconst hC dX8_sum_29 ?_
        exact g_iret hC hR dX8_sum_30 h
      · replace h := hB hc_13
        clear hA hB
        refine g_aload_n hC dX8_sum_31 rfl rfl ?_
        refine g_getr (r := 13) hC rfl (gc_k8 hZ) iwX8 3 (by decide) rfl rfl (wc wd_302) dX8_sum_32 ?_
        refine g_aload_n hC dX8_sum_35 rfl rfl ?_
        refine g_getr (r := 6) hC rfl (gc_k8 hZ) iwX8 2 (by decide) rfl rfl (wc wd_301) dX8_sum_36 ?_
        refine g_iload_n hC dX8_sum_39 rfl rfl ?_
        obtain ⟨hb_14, h⟩ := h
        refine g_aald hC 2 rfl (c_t3 hZ) rfl (by decide) hb_14 dX8_sum_40 ?_
        refine g_iload_n hC dX8_sum_41 rfl rfl ?_
        refine g_callv (g_runV (As := [(vr z (7 + (x1).toNat)), (vi x2)]) (rest := []) hC rfl (ctX0_addUp hZ (by omega) (by omega) h) rfl (gc_k0 hZ) (kwX0_addUp (by decide) (by decide)) rfl (wc wd_430) (wc wd_431) (wc wd_432) rfl (Nat.le_of_ble_eq_true rfl) rfl dX8_sum_42) (fun M_15 h => ?_)
        refine g_aload_n hC dX8_sum_45 rfl rfl ?_
        refine g_getr (r := 13) hC rfl (gc_k8 hZ) iwX8 3 (by decide) rfl rfl (wc wd_302) dX8_sum_46 ?_
        refine g_getr (r := 14) hC rfl (gc_k0 hZ) iwX0 1 (by decide) rfl rfl (wc wd_135) dX8_sum_49 ?_
        refine g_iload_n hC dX8_sum_52 rfl rfl ?_
        obtain ⟨hb_16, h⟩ := h
        refine g_iald hC 0 rfl (c_t0 hZ) (by decide) hb_16 dX8_sum_53 ?_
        exact g_iret hC hR dX8_sum_54 h
abbrev wX8_cuts : List Cond := Cond.code yX8_cuts cX8_cuts 3 (some .int) :: gTs
abbrev rmX8_cuts : Room := { frames := 4, cells := 0, slots := 0, locals := 93 }
theorem kwX8_cuts {c0 : Cond} {rm : Room} (h1 : rmX8_cuts.frames + 1 ≤ rm.frames) (h2 : 8 + (3 + 11) + rmX8_cuts.locals ≤ rm.locals) : gCw (c0 :: gTs) rm yX8_cuts cX8_cuts 3 (some .int) wX8_cuts rmX8_cuts 2 := gCw_of wd_439 wd_39 h1 h2 (by decide +kernel)
def fX8_cuts (x1 : Int) (x2 : Int) (M : gMem) (Q : Int → gMem → Prop) : Prop :=
  (fX8_isSetRule x1 M (fun r_1 =>
  (rg r_1 ∧ (r_1 = 0 →
  Q (-1) M) ∧
  (¬ r_1 = 0 →
  (fX8_isFile x2 M (fun r_5 =>
    (rg r_5 ∧ (r_5 = 0 →
    Q (-1) M) ∧
    (¬ r_5 = 0 →
    ((0 ≤ x1 ∧ x1 < 6) ∧ (fX0_divide 13 (7 + (x1).toNat) x2 M (fun M_10 =>
      Q (M_10 13 3) M_10)))))))))))
set_option maxHeartbeats 4000000 in
set_option maxRecDepth 100000 in
theorem ctX8_cuts {l : Launch} {z : gZ} (hZ : gZc z) {x1 : Int} {x2 : Int}  {M : gMem} {Q : Int → gMem → Prop} (h : fX8_cuts x1 x2 M Q) : gMI l z cL yX8_cuts wX8_cuts rmX8_cuts [(vr z 0), (vi x1), (vi x2)] M Q := by
  refine g_metI .int (by decide) rfl rfl (gCat_all (And.intro rfl (And.intro rfl (And.intro rfl trivial)))) (Nat.le_of_ble_eq_true rfl) ?_
  intro y hC hR
  replace h : (fX8_isSetRule x1 M (fun r_1 =>
  (rg r_1 ∧ (r_1 = 0 →
  Q (-1) M) ∧
  (¬ r_1 = 0 →
  (fX8_isFile x2 M (fun r_5 =>
    (rg r_5 ∧ (r_5 = 0 →
    Q (-1) M) ∧
    (¬ r_5 = 0 →
    ((0 ≤ x1 ∧ x1 < 6) ∧ (fX0_divide 13 (7 + (x1).toNat) x2 M (fun M_10 =>
      Q (M_10 13 3) M_10))))))))))) := h
  refine g_lc (lc' := [some (vr z 0), some (vi x1), some (vi x2)]) rfl ?_
  refine g_aload_n hC dX8_cuts_0 rfl rfl ?_
  refine g_iload_n hC dX8_cuts_1 rfl rfl ?_
  refine g_calli (g_runV (As := [(vi x1)]) (rest := []) hC rfl (ctX8_isSetRule hZ  h) rfl (gc_k8 hZ) (kwX8_isSetRule (by decide) (by decide)) rfl (wc wd_422) (wc wd_424) (wc wd_1) rfl (Nat.le_of_ble_eq_true rfl) rfl dX8_cuts_2) (fun r_1 M_2 h => ?_)
  obtain ⟨rfl, h⟩ := h
  obtain ⟨hr_3, hA, hB⟩ := h
  refine g_ieq hC 15 hr_3 dX8_cuts_5 (by decide) (fun hc_4 => ?_) (fun hc_4 => ?_)
  · replace h := hA hc_4
    clear hA hB
    refine g_iconst hC dX8_cuts_15 ?_
    exact g_iret hC hR dX8_cuts_16 h
  · replace h := hB hc_4
    clear hA hB
    refine g_iload_n hC dX8_cuts_8 rfl rfl ?_
    refine g_calli (g_runS (As := [(vi x2)]) (rest := []) hC rfl (ctX8_isFile hZ  h) (kwX8_isFile (by decide) (by decide)) (wc wd_346) (wc wd_347) rfl (Nat.le_of_ble_eq_true rfl) rfl dX8_cuts_9) (fun r_5 M_6 h => ?_)
    obtain ⟨rfl, h⟩ := h
    obtain ⟨hr_7, hA, hB⟩ := h
    refine g_ine hC 17 hr_7 dX8_cuts_12 (by decide) (fun hc_8 => ?_) (fun hc_8 => ?_)
    · replace h := hA hc_8
      clear hA hB
      refine g_iconst hC dX8_cuts_15 ?_
      exact g_iret hC hR dX8_cuts_16 h
    · replace h := hB hc_8
      clear hA hB
      refine g_aload_n hC dX8_cuts_17 rfl rfl ?_
      refine g_getr (r := 13) hC rfl (gc_k8 hZ) iwX8 3 (by decide) rfl rfl (wc wd_302) dX8_cuts_18 ?_
      refine g_aload_n hC dX8_cuts_21 rfl rfl ?_
      refine g_getr (r := 6) hC rfl (gc_k8 hZ) iwX8 2 (by decide) rfl rfl (wc wd_301) dX8_cuts_22 ?_
      refine g_iload_n hC dX8_cuts_25 rfl rfl ?_
      obtain ⟨hb_9, h⟩ := h
      refine g_aald hC 2 rfl (c_t3 hZ) rfl (by decide) hb_9 dX8_cuts_26 ?_
      refine g_iload_n hC dX8_cuts_27 rfl rfl ?_
      refine g_callv (g_runV (As := [(vr z (7 + (x1).toNat)), (vi x2)]) (rest := []) hC rfl (ctX0_divide hZ (by omega) (by omega) h) rfl (gc_k0 hZ) (kwX0_divide (by decide) (by decide)) rfl (wc wd_440) (wc wd_441) (wc wd_442) rfl (Nat.le_of_ble_eq_true rfl) rfl dX8_cuts_28) (fun M_10 h => ?_)
      refine g_aload_n hC dX8_cuts_31 rfl rfl ?_
      refine g_getr (r := 13) hC rfl (gc_k8 hZ) iwX8 3 (by decide) rfl rfl (wc wd_302) dX8_cuts_32 ?_
      refine g_geti (ji := 3) hC rfl (gc_k0 hZ) iwX0 3 (by decide) rfl rfl (wc wd_141) dX8_cuts_35 rfl ?_
      exact g_iret hC hR dX8_cuts_38 h
abbrev wX8_cut : List Cond := Cond.code yX8_cut cX8_cut 4 (some .int) :: gTs
abbrev rmX8_cut : Room := { frames := 4, cells := 0, slots := 0, locals := 93 }
theorem kwX8_cut {c0 : Cond} {rm : Room} (h1 : rmX8_cut.frames + 1 ≤ rm.frames) (h2 : 8 + (4 + 11) + rmX8_cut.locals ≤ rm.locals) : gCw (c0 :: gTs) rm yX8_cut cX8_cut 4 (some .int) wX8_cut rmX8_cut 3 := gCw_of wd_471 wd_39 h1 h2 (by decide +kernel)
def fX8_cut (x1 : Int) (x2 : Int) (x3 : Int) (M : gMem) (Q : Int → gMem → Prop) : Prop :=
  (fX8_isSetRule x1 M (fun r_1 =>
  (rg r_1 ∧ (r_1 = 0 →
  Q (-1) M) ∧
  (¬ r_1 = 0 →
  (fX8_isFile x2 M (fun r_5 =>
    (rg r_5 ∧ (r_5 = 0 →
    Q (-1) M) ∧
    (¬ r_5 = 0 →
    ((0 ≤ x1 ∧ x1 < 6) ∧ (fX0_divide 13 (7 + (x1).toNat) x2 M (fun M_10 =>
      (fX8_isWithin x3 0 (M_10 13 3) M_10 (fun r_11 =>
      (rg r_11 ∧ (r_11 = 0 →
      Q (-1) M_10) ∧
      (¬ r_11 = 0 →
      ((0 ≤ x3 ∧ x3 < 601) ∧ Q (M_10 15 x3) M_10))))))))))))))))
set_option maxHeartbeats 4000000 in
set_option maxRecDepth 100000 in
theorem ctX8_cut {l : Launch} {z : gZ} (hZ : gZc z) {x1 : Int} {x2 : Int} {x3 : Int}  {M : gMem} {Q : Int → gMem → Prop} (h : fX8_cut x1 x2 x3 M Q) : gMI l z cL yX8_cut wX8_cut rmX8_cut [(vr z 0), (vi x1), (vi x2), (vi x3)] M Q := by
  refine g_metI .int (by decide) rfl rfl (gCat_all (And.intro rfl (And.intro rfl (And.intro rfl (And.intro rfl trivial))))) (Nat.le_of_ble_eq_true rfl) ?_
  intro y hC hR
  replace h : (fX8_isSetRule x1 M (fun r_1 =>
  (rg r_1 ∧ (r_1 = 0 →
  Q (-1) M) ∧
  (¬ r_1 = 0 →
  (fX8_isFile x2 M (fun r_5 =>
    (rg r_5 ∧ (r_5 = 0 →
    Q (-1) M) ∧
    (¬ r_5 = 0 →
    ((0 ≤ x1 ∧ x1 < 6) ∧ (fX0_divide 13 (7 + (x1).toNat) x2 M (fun M_10 =>
      (fX8_isWithin x3 0 (M_10 13 3) M_10 (fun r_11 =>
      (rg r_11 ∧ (r_11 = 0 →
      Q (-1) M_10) ∧
      (¬ r_11 = 0 →
      ((0 ≤ x3 ∧ x3 < 601) ∧ Q (M_10 15 x3) M_10)))))))))))))))) := h
  refine g_lc (lc' := [some (vr z 0), some (vi x1), some (vi x2), some (vi x3)]) rfl ?_
  refine g_aload_n hC dX8_cut_0 rfl rfl ?_
  refine g_iload_n hC dX8_cut_1 rfl rfl ?_
  refine g_calli (g_runV (As := [(vi x1)]) (rest := []) hC rfl (ctX8_isSetRule hZ  h) rfl (gc_k8 hZ) (kwX8_isSetRule (by decide) (by decide)) rfl (wc wd_422) (wc wd_424) (wc wd_1) rfl (Nat.le_of_ble_eq_true rfl) rfl dX8_cut_2) (fun r_1 M_2 h => ?_)
  obtain ⟨rfl, h⟩ := h
  obtain ⟨hr_3, hA, hB⟩ := h
  refine g_ieq hC 15 hr_3 dX8_cut_5 (by decide) (fun hc_4 => ?_) (fun hc_4 => ?_)
  · replace h := hA hc_4
    clear hA hB
    refine g_iconst hC dX8_cut_15 ?_
    exact g_iret hC hR dX8_cut_16 h
  · replace h := hB hc_4
    clear hA hB
    refine g_iload_n hC dX8_cut_8 rfl rfl ?_
    refine g_calli (g_runS (As := [(vi x2)]) (rest := []) hC rfl (ctX8_isFile hZ  h) (kwX8_isFile (by decide) (by decide)) (wc wd_346) (wc wd_347) rfl (Nat.le_of_ble_eq_true rfl) rfl dX8_cut_9) (fun r_5 M_6 h => ?_)
    obtain ⟨rfl, h⟩ := h
    obtain ⟨hr_7, hA, hB⟩ := h
    refine g_ine hC 17 hr_7 dX8_cut_12 (by decide) (fun hc_8 => ?_) (fun hc_8 => ?_)
    · replace h := hA hc_8
      clear hA hB
      refine g_iconst hC dX8_cut_15 ?_
      exact g_iret hC hR dX8_cut_16 h
    · replace h := hB hc_8
      clear hA hB
      refine g_aload_n hC dX8_cut_17 rfl rfl ?_
      refine g_getr (r := 13) hC rfl (gc_k8 hZ) iwX8 3 (by decide) rfl rfl (wc wd_302) dX8_cut_18 ?_
      refine g_aload_n hC dX8_cut_21 rfl rfl ?_
      refine g_getr (r := 6) hC rfl (gc_k8 hZ) iwX8 2 (by decide) rfl rfl (wc wd_301) dX8_cut_22 ?_
      refine g_iload_n hC dX8_cut_25 rfl rfl ?_
      obtain ⟨hb_9, h⟩ := h
      refine g_aald hC 2 rfl (c_t3 hZ) rfl (by decide) hb_9 dX8_cut_26 ?_
      refine g_iload_n hC dX8_cut_27 rfl rfl ?_
      refine g_callv (g_runV (As := [(vr z (7 + (x1).toNat)), (vi x2)]) (rest := []) hC rfl (ctX0_divide hZ (by omega) (by omega) h) rfl (gc_k0 hZ) (kwX0_divide (by decide) (by decide)) rfl (wc wd_440) (wc wd_441) (wc wd_442) rfl (Nat.le_of_ble_eq_true rfl) rfl dX8_cut_28) (fun M_10 h => ?_)
      refine g_iload_n hC dX8_cut_31 rfl rfl ?_
      refine g_iconst hC dX8_cut_32 ?_
      refine g_aload_n hC dX8_cut_33 rfl rfl ?_
      refine g_getr (r := 13) hC rfl (gc_k8 hZ) iwX8 3 (by decide) rfl rfl (wc wd_302) dX8_cut_34 ?_
      refine g_geti (ji := 3) hC rfl (gc_k0 hZ) iwX0 3 (by decide) rfl rfl (wc wd_141) dX8_cut_37 rfl ?_
      refine g_calli (g_runS (As := [(vi x3), (vi 0), (vi (M_10 13 3))]) (rest := []) hC rfl (ctX8_isWithin hZ  h) (kwX8_isWithin (by decide) (by decide)) (wc wd_349) (wc wd_350) rfl (Nat.le_of_ble_eq_true rfl) rfl dX8_cut_40) (fun r_11 M_12 h => ?_)
      obtain ⟨rfl, h⟩ := h
      obtain ⟨hr_13, hA, hB⟩ := h
      refine g_ieq hC 58 hr_13 dX8_cut_43 (by decide) (fun hc_14 => ?_) (fun hc_14 => ?_)
      · replace h := hA hc_14
        clear hA hB
        refine g_iconst hC dX8_cut_58 ?_
        exact g_iret hC hR dX8_cut_59 h
      · replace h := hB hc_14
        clear hA hB
        refine g_aload_n hC dX8_cut_46 rfl rfl ?_
        refine g_getr (r := 13) hC rfl (gc_k8 hZ) iwX8 3 (by decide) rfl rfl (wc wd_302) dX8_cut_47 ?_
        refine g_getr (r := 15) hC rfl (gc_k0 hZ) iwX0 2 (by decide) rfl rfl (wc wd_137) dX8_cut_50 ?_
        refine g_iload_n hC dX8_cut_53 rfl rfl ?_
        obtain ⟨hb_15, h⟩ := h
        refine g_iald hC 0 rfl (c_t0 hZ) (by decide) hb_15 dX8_cut_54 ?_
        refine g_goto hC 59 dX8_cut_55 (by decide) ?_
        exact g_iret hC hR dX8_cut_59 h
abbrev wX8_agreesFromEnd : List Cond := Cond.code yX8_agreesFromEnd cX8_agreesFromEnd 5 (some .boolean) :: gTs
abbrev rmX8_agreesFromEnd : Room := { frames := 2, cells := 0, slots := 0, locals := 42 }
theorem kwX8_agreesFromEnd {c0 : Cond} {rm : Room} (h1 : rmX8_agreesFromEnd.frames + 1 ≤ rm.frames) (h2 : 8 + (5 + 11) + rmX8_agreesFromEnd.locals ≤ rm.locals) : gCw (c0 :: gTs) rm yX8_agreesFromEnd cX8_agreesFromEnd 5 (some .boolean) wX8_agreesFromEnd rmX8_agreesFromEnd 1 := gCw_of wd_480 wd_39 h1 h2 (by decide +kernel)
def fX8_agreesFromEnd (x1 : Int) (M : gMem) (Q : Int → Prop) : Prop :=
  (fX0_lengthOf 13 (((M 13 3) - 1) - x1) M (fun r_1 =>
  (fX0_lengthOf 16 (((M 16 3) - 1) - x1) M (fun r_3 =>
  (rg r_1 ∧ rg r_3 ∧ (r_1 = r_3 →
  (fX0_startOf 13 (((M 13 3) - 1) - x1) M (fun r_8 =>
    (fX0_startOf 16 (((M 16 3) - 1) - x1) M (fun r_10 =>
    (fX8_areAlike 2 4800 r_8 2 4800 r_10 r_1 M (fun r_12 =>
    (rg r_12 ∧ (r_12 = 0 →
    Q 0) ∧
    (¬ r_12 = 0 →
    Q 1))))))))) ∧
  (¬ r_1 = r_3 →
  Q 0))))))
set_option maxHeartbeats 4000000 in
set_option maxRecDepth 100000 in
theorem ctX8_agreesFromEnd {l : Launch} {z : gZ} (hZ : gZc z) {x1 : Int}  {M : gMem} {Q : Int → Prop} (h : fX8_agreesFromEnd x1 M Q) : gMI l z cL yX8_agreesFromEnd wX8_agreesFromEnd rmX8_agreesFromEnd [(vr z 0), (vi x1)] M (fun r M' => M = M' ∧ Q r) := by
  refine g_metI .boolean (by decide) rfl rfl (gCat_all (And.intro rfl (And.intro rfl trivial))) (Nat.le_of_ble_eq_true rfl) ?_
  intro y hC hR
  replace h : (fX0_lengthOf 13 (((M 13 3) - 1) - x1) M (fun r_1 =>
  (fX0_lengthOf 16 (((M 16 3) - 1) - x1) M (fun r_3 =>
  (rg r_1 ∧ rg r_3 ∧ (r_1 = r_3 →
  (fX0_startOf 13 (((M 13 3) - 1) - x1) M (fun r_8 =>
    (fX0_startOf 16 (((M 16 3) - 1) - x1) M (fun r_10 =>
    (fX8_areAlike 2 4800 r_8 2 4800 r_10 r_1 M (fun r_12 =>
    (rg r_12 ∧ (r_12 = 0 →
    Q 0) ∧
    (¬ r_12 = 0 →
    Q 1))))))))) ∧
  (¬ r_1 = r_3 →
  Q 0)))))) := h
  refine g_lc (lc' := [some (vr z 0), some (vi x1), none, none, none]) rfl ?_
  refine g_aload_n hC dX8_agreesFromEnd_0 rfl rfl ?_
  refine g_getr (r := 13) hC rfl (gc_k8 hZ) iwX8 3 (by decide) rfl rfl (wc wd_302) dX8_agreesFromEnd_1 ?_
  refine g_geti (ji := 3) hC rfl (gc_k0 hZ) iwX0 3 (by decide) rfl rfl (wc wd_141) dX8_agreesFromEnd_4 rfl ?_
  refine g_iconst hC dX8_agreesFromEnd_7 ?_
  refine g_isub hC dX8_agreesFromEnd_8 ?_
  refine g_iload_n hC dX8_agreesFromEnd_9 rfl rfl ?_
  refine g_isub hC dX8_agreesFromEnd_10 ?_
  refine g_istore_n2 (lc' := [some (vr z 0), some (vi x1), some (vi (((M 13 3) - 1) - x1)), none, none]) hC dX8_agreesFromEnd_11 rfl (Nat.le_of_ble_eq_true rfl) rfl ?_
  refine g_aload_n hC dX8_agreesFromEnd_12 rfl rfl ?_
  refine g_getr (r := 16) hC rfl (gc_k8 hZ) iwX8 4 (by decide) rfl rfl (wc wd_303) dX8_agreesFromEnd_13 ?_
  refine g_geti (ji := 3) hC rfl (gc_k0 hZ) iwX0 3 (by decide) rfl rfl (wc wd_141) dX8_agreesFromEnd_16 rfl ?_
  refine g_iconst hC dX8_agreesFromEnd_19 ?_
  refine g_isub hC dX8_agreesFromEnd_20 ?_
  refine g_iload_n hC dX8_agreesFromEnd_21 rfl rfl ?_
  refine g_isub hC dX8_agreesFromEnd_22 ?_
  refine g_istore_n2 (lc' := [some (vr z 0), some (vi x1), some (vi (((M 13 3) - 1) - x1)), some (vi (((M 16 3) - 1) - x1)), none]) hC dX8_agreesFromEnd_23 rfl (Nat.le_of_ble_eq_true rfl) rfl ?_
  refine g_aload_n hC dX8_agreesFromEnd_24 rfl rfl ?_
  refine g_getr (r := 13) hC rfl (gc_k8 hZ) iwX8 3 (by decide) rfl rfl (wc wd_302) dX8_agreesFromEnd_25 ?_
  refine g_iload_n hC dX8_agreesFromEnd_28 rfl rfl ?_
  refine g_calli (g_runV (As := [(vi (((M 13 3) - 1) - x1))]) (rest := []) hC rfl (ctX0_lengthOf hZ (by omega) h) rfl (gc_k0 hZ) (kwX0_lengthOf (by decide) (by decide)) rfl (wc wd_481) (wc wd_482) (wc wd_483) rfl (Nat.le_of_ble_eq_true rfl) rfl dX8_agreesFromEnd_29) (fun r_1 M_2 h => ?_)
  obtain ⟨rfl, h⟩ := h
  refine g_istore2 (lc' := [some (vr z 0), some (vi x1), some (vi (((M 13 3) - 1) - x1)), some (vi (((M 16 3) - 1) - x1)), some (vi r_1)]) hC dX8_agreesFromEnd_32 (Nat.le_of_ble_eq_true rfl) rfl ?_
  refine g_iload hC dX8_agreesFromEnd_34 rfl ?_
  refine g_aload_n hC dX8_agreesFromEnd_36 rfl rfl ?_
  refine g_getr (r := 16) hC rfl (gc_k8 hZ) iwX8 4 (by decide) rfl rfl (wc wd_303) dX8_agreesFromEnd_37 ?_
  refine g_iload_n hC dX8_agreesFromEnd_40 rfl rfl ?_
  refine g_calli (g_runV (As := [(vi (((M 16 3) - 1) - x1))]) (rest := [(vi r_1)]) hC rfl (ctX0_lengthOf hZ (by omega) h) rfl (gc_k0 hZ) (kwX0_lengthOf (by decide) (by decide)) rfl (wc wd_481) (wc wd_482) (wc wd_483) rfl (Nat.le_of_ble_eq_true rfl) rfl dX8_agreesFromEnd_41) (fun r_3 M_4 h => ?_)
  obtain ⟨rfl, h⟩ := h
  obtain ⟨hr_5, hr_6, hA, hB⟩ := h
  refine g_cne hC 89 hr_5 hr_6 dX8_agreesFromEnd_44 (by decide) (fun hc_7 => ?_) (fun hc_7 => ?_)
  · replace h := hA hc_7
    clear hA hB
    refine g_aload_n hC dX8_agreesFromEnd_47 rfl rfl ?_
    refine g_getr (r := 1) hC rfl (gc_k8 hZ) iwX8 0 (by decide) rfl rfl (wc wd_299) dX8_agreesFromEnd_48 ?_
    refine g_getr (r := 2) hC rfl (gc_k2 hZ) iwX2 0 (by decide) rfl rfl (wc wd_69) dX8_agreesFromEnd_51 ?_
    refine g_aload_n hC dX8_agreesFromEnd_54 rfl rfl ?_
    refine g_getr (r := 13) hC rfl (gc_k8 hZ) iwX8 3 (by decide) rfl rfl (wc wd_302) dX8_agreesFromEnd_55 ?_
    refine g_iload_n hC dX8_agreesFromEnd_58 rfl rfl ?_
    refine g_calli (g_runV (As := [(vi (((M 13 3) - 1) - x1))]) (rest := [(vr z 2)]) hC rfl (ctX0_startOf hZ (by omega) h) rfl (gc_k0 hZ) (kwX0_startOf (by decide) (by decide)) rfl (wc wd_485) (wc wd_486) (wc wd_487) rfl (Nat.le_of_ble_eq_true rfl) rfl dX8_agreesFromEnd_59) (fun r_8 M_9 h => ?_)
    obtain ⟨rfl, h⟩ := h
    refine g_aload_n hC dX8_agreesFromEnd_62 rfl rfl ?_
    refine g_getr (r := 1) hC rfl (gc_k8 hZ) iwX8 0 (by decide) rfl rfl (wc wd_299) dX8_agreesFromEnd_63 ?_
    refine g_getr (r := 2) hC rfl (gc_k2 hZ) iwX2 0 (by decide) rfl rfl (wc wd_69) dX8_agreesFromEnd_66 ?_
    refine g_aload_n hC dX8_agreesFromEnd_69 rfl rfl ?_
    refine g_getr (r := 16) hC rfl (gc_k8 hZ) iwX8 4 (by decide) rfl rfl (wc wd_303) dX8_agreesFromEnd_70 ?_
    refine g_iload_n hC dX8_agreesFromEnd_73 rfl rfl ?_
    refine g_calli (g_runV (As := [(vi (((M 16 3) - 1) - x1))]) (rest := [(vr z 2), (vi r_8), (vr z 2)]) hC rfl (ctX0_startOf hZ (by omega) h) rfl (gc_k0 hZ) (kwX0_startOf (by decide) (by decide)) rfl (wc wd_485) (wc wd_486) (wc wd_487) rfl (Nat.le_of_ble_eq_true rfl) rfl dX8_agreesFromEnd_74) (fun r_10 M_11 h => ?_)
    obtain ⟨rfl, h⟩ := h
    refine g_iload hC dX8_agreesFromEnd_77 rfl ?_
    refine g_calli (g_runS (As := [(vr z 2), (vi r_8), (vr z 2), (vi r_10), (vi r_1)]) (rest := []) hC rfl (ctX8_areAlike hZ rfl (by decide) rfl (by decide) h) (kwX8_areAlike (by decide) (by decide)) (wc wd_490) (wc wd_491) rfl (Nat.le_of_ble_eq_true rfl) rfl dX8_agreesFromEnd_79) (fun r_12 M_13 h => ?_)
    obtain ⟨rfl, h⟩ := h
    obtain ⟨hr_14, hA, hB⟩ := h
    refine g_ieq hC 89 hr_14 dX8_agreesFromEnd_82 (by decide) (fun hc_15 => ?_) (fun hc_15 => ?_)
    · replace h := hA hc_15
      clear hA hB
      refine g_iconst hC dX8_agreesFromEnd_89 ?_
      exact g_zret hC hR (by decide) dX8_agreesFromEnd_90 ⟨rfl, h⟩
    · replace h := hB hc_15
      clear hA hB
      refine g_iconst hC dX8_agreesFromEnd_85 ?_
      refine g_goto hC 90 dX8_agreesFromEnd_86 (by decide) ?_
      exact g_zret hC hR (by decide) dX8_agreesFromEnd_90 ⟨rfl, h⟩
  · replace h := hB hc_7
    clear hA hB
    refine g_iconst hC dX8_agreesFromEnd_89 ?_
    exact g_zret hC hR (by decide) dX8_agreesFromEnd_90 ⟨rfl, h⟩
