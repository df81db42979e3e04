abbrev wX8_piece : List Cond := Cond.code yX8_piece cX8_piece 3 (some .int) :: gTs
abbrev rmX8_piece : Room := { frames := 1, cells := 0, slots := 0, locals := 22 }
theorem kwX8_piece {c0 : Cond} {rm : Room} (h1 : rmX8_piece.frames + 1 ≤ rm.frames) (h2 : 8 + (3 + 11) + rmX8_piece.locals ≤ rm.locals) : gCw (c0 :: gTs) rm yX8_piece cX8_piece 3 (some .int) wX8_piece rmX8_piece 2 := gCw_of wd_616 wd_39 h1 h2 (by decide +kernel)
def fX8_piece (x1 : Int) (x2 : Int) (M : gMem) (Q : Int → Prop) : Prop :=
  (fX8_isWithin x1 1 300 M (fun r_1 =>
  (rg r_1 ∧ (r_1 = 0 →
  Q (-1)) ∧
  (¬ r_1 = 0 →
  ((0 ≤ x1 ∧ x1 < 301) ∧ (rg (M 27 x1) ∧ ((M 27 x1) = 0 →
    Q (-1)) ∧
    (¬ (M 27 x1) = 0 →
    (rg x2 ∧ (x2 = 0 →
      ((0 ≤ x1 ∧ x1 < 301) ∧ Q (M 25 x1))) ∧
(x2 = 1 →
      ((0 ≤ x1 ∧ x1 < 301) ∧ Q (M 27 x1))) ∧
(x2 = 2 →
      ((0 ≤ x1 ∧ x1 < 301) ∧ Q (M 26 x1))) ∧
((x2 < 0 ∨ 2 < x2) →
      Q (-1))))))))))
set_option maxHeartbeats 4000000 in
set_option maxRecDepth 100000 in
theorem ctX8_piece {l : Launch} {z : gZ} (hZ : gZc z) {x1 : Int} {x2 : Int}  {M : gMem} {Q : Int → Prop} (h : fX8_piece x1 x2 M Q) : gMI l z cL yX8_piece wX8_piece rmX8_piece [(vr z 0), (vi x1), (vi x2)] M (fun r M' => M = M' ∧ Q r) := by
  refine g_metI .int (by decide) rfl rfl (gCat_all (And.intro rfl (And.intro rfl (And.intro rfl trivial)))) (Nat.le_of_ble_eq_true rfl) ?_
  intro y hC hR
  replace h : (fX8_isWithin x1 1 300 M (fun r_1 =>
  (rg r_1 ∧ (r_1 = 0 →
  Q (-1)) ∧
  (¬ r_1 = 0 →
  ((0 ≤ x1 ∧ x1 < 301) ∧ (rg (M 27 x1) ∧ ((M 27 x1) = 0 →
    Q (-1)) ∧
    (¬ (M 27 x1) = 0 →
    (rg x2 ∧ (x2 = 0 →
      ((0 ≤ x1 ∧ x1 < 301) ∧ Q (M 25 x1))) ∧
(x2 = 1 →
      ((0 ≤ x1 ∧ x1 < 301) ∧ Q (M 27 x1))) ∧
(x2 = 2 →
      ((0 ≤ x1 ∧ x1 < 301) ∧ Q (M 26 x1))) ∧
((x2 < 0 ∨ 2 < x2) →
      Q (-1)))))))))) := h
  refine g_lc (lc' := [some (vr z 0), some (vi x1), some (vi x2)]) rfl ?_
  refine g_iload_n hC dX8_piece_0 rfl rfl ?_
  refine g_iconst hC dX8_piece_1 ?_
  refine g_sipush hC dX8_piece_2 (by decide) ?_
  refine g_calli (g_runS (As := [(vi x1), (vi 1), (vi 300)]) (rest := []) hC rfl (ctX8_isWithin hZ  h) (kwX8_isWithin (by decide) (by decide)) (wc wd_349) (wc wd_350) rfl (Nat.le_of_ble_eq_true rfl) rfl dX8_piece_5) (fun r_1 M_2 h => ?_)
  obtain ⟨rfl, h⟩ := h
  obtain ⟨hr_3, hA, hB⟩ := h
  refine g_ieq hC 23 hr_3 dX8_piece_8 (by decide) (fun hc_4 => ?_) (fun hc_4 => ?_)
  · replace h := hA hc_4
    clear hA hB
    refine g_iconst hC dX8_piece_23 ?_
    exact g_iret hC hR dX8_piece_24 ⟨rfl, h⟩
  · replace h := hB hc_4
    clear hA hB
    refine g_aload_n hC dX8_piece_11 rfl rfl ?_
    refine g_getr (r := 22) hC rfl (gc_k8 hZ) iwX8 6 (by decide) rfl rfl (wc wd_305) dX8_piece_12 ?_
    refine g_getr (r := 27) hC rfl (gc_k5 hZ) iwX5 5 (by decide) rfl rfl (wc wd_193) dX8_piece_15 ?_
    refine g_iload_n hC dX8_piece_18 rfl rfl ?_
    obtain ⟨hb_5, h⟩ := h
    refine g_iald hC 0 rfl (c_t0 hZ) (by decide) hb_5 dX8_piece_19 ?_
    obtain ⟨hr_6, hA, hB⟩ := h
    refine g_ine hC 25 hr_6 dX8_piece_20 (by decide) (fun hc_7 => ?_) (fun hc_7 => ?_)
    · replace h := hA hc_7
      clear hA hB
      refine g_iconst hC dX8_piece_23 ?_
      exact g_iret hC hR dX8_piece_24 ⟨rfl, h⟩
    · replace h := hB hc_7
      clear hA hB
      refine g_iload_n hC dX8_piece_25 rfl rfl ?_
      obtain ⟨hr_8, hs0, hs1, hs2, hD⟩ := h
      have hq : (x2 < 0 ∨ 2 < x2) ∨ x2 = 0 ∨ x2 = 1 ∨ x2 = 2 := by omega
      rcases hq with hq | hq | hq | hq
      · have h := hD hq
        refine g_tswOut hC 82 hr_8 dX8_piece_26 hq (by decide) ?_
        refine g_iconst hC dX8_piece_82 ?_
        exact g_iret hC hR dX8_piece_83 ⟨rfl, h⟩
      · have h := hs0 hq
        refine g_tswIn (off := 26) hC 52 hr_8 dX8_piece_26 (by omega) (by omega) (by rw [hq]; rfl) (by decide) ?_
        refine g_aload_n hC dX8_piece_52 rfl rfl ?_
        refine g_getr (r := 22) hC rfl (gc_k8 hZ) iwX8 6 (by decide) rfl rfl (wc wd_305) dX8_piece_53 ?_
        refine g_getr (r := 25) hC rfl (gc_k5 hZ) iwX5 3 (by decide) rfl rfl (wc wd_189) dX8_piece_56 ?_
        refine g_iload_n hC dX8_piece_59 rfl rfl ?_
        obtain ⟨hb_9, h⟩ := h
        refine g_iald hC 0 rfl (c_t0 hZ) (by decide) hb_9 dX8_piece_60 ?_
        exact g_iret hC hR dX8_piece_61 ⟨rfl, h⟩
      · have h := hs1 hq
        refine g_tswIn (off := 36) hC 62 hr_8 dX8_piece_26 (by omega) (by omega) (by rw [hq]; rfl) (by decide) ?_
        refine g_aload_n hC dX8_piece_62 rfl rfl ?_
        refine g_getr (r := 22) hC rfl (gc_k8 hZ) iwX8 6 (by decide) rfl rfl (wc wd_305) dX8_piece_63 ?_
        refine g_getr (r := 27) hC rfl (gc_k5 hZ) iwX5 5 (by decide) rfl rfl (wc wd_193) dX8_piece_66 ?_
        refine g_iload_n hC dX8_piece_69 rfl rfl ?_
        obtain ⟨hb_10, h⟩ := h
        refine g_iald hC 0 rfl (c_t0 hZ) (by decide) hb_10 dX8_piece_70 ?_
        exact g_iret hC hR dX8_piece_71 ⟨rfl, h⟩
      · have h := hs2 hq
        refine g_tswIn (off := 46) hC 72 hr_8 dX8_piece_26 (by omega) (by omega) (by rw [hq]; rfl) (by decide) ?_
        refine g_aload_n hC dX8_piece_72 rfl rfl ?_
        refine g_getr (r := 22) hC rfl (gc_k8 hZ) iwX8 6 (by decide) rfl rfl (wc wd_305) dX8_piece_73 ?_
        refine g_getr (r := 26) hC rfl (gc_k5 hZ) iwX5 4 (by decide) rfl rfl (wc wd_191) dX8_piece_76 ?_
        refine g_iload_n hC dX8_piece_79 rfl rfl ?_
        obtain ⟨hb_11, h⟩ := h
        refine g_iald hC 0 rfl (c_t0 hZ) (by decide) hb_11 dX8_piece_80 ?_
        exact g_iret hC hR dX8_piece_81 ⟨rfl, h⟩
abbrev wX8_count : List Cond := Cond.code yX8_count cX8_count 2 (some .int) :: gTs
abbrev rmX8_count : Room := { frames := 2, cells := 0, slots := 0, locals := 43 }
theorem kwX8_count {c0 : Cond} {rm : Room} (h1 : rmX8_count.frames + 1 ≤ rm.frames) (h2 : 8 + (2 + 11) + rmX8_count.locals ≤ rm.locals) : gCw (c0 :: gTs) rm yX8_count cX8_count 2 (some .int) wX8_count rmX8_count 1 := gCw_of wd_620 wd_39 h1 h2 (by decide +kernel)
def fX8_count (x1 : Int) (M : gMem) (Q : Int → Prop) : Prop :=
  (rg x1 ∧ (x1 = 0 →
  Q (M 22 9)) ∧
(x1 = 1 →
  Q (M 22 10)) ∧
(x1 = 2 →
  (fX5_countNumbers M (fun r_2 =>
    Q r_2))) ∧
(x1 = 3 →
  (fX5_countNumbers M (fun r_4 =>
    (fX8_roomOf (M 22 10) (M 22 9) r_4 M (fun r_6 =>
    Q r_6))))) ∧
(x1 = 4 →
  Q (M 22 11)) ∧
(x1 = 5 →
  (fX5_countKeptFiles M (fun r_8 =>
    Q r_8))) ∧
((x1 < 0 ∨ 5 < x1) →
  Q (-1)))
set_option maxHeartbeats 4000000 in
set_option maxRecDepth 100000 in
theorem ctX8_count {l : Launch} {z : gZ} (hZ : gZc z) {x1 : Int}  {M : gMem} {Q : Int → Prop} (h : fX8_count x1 M Q) : gMI l z cL yX8_count wX8_count rmX8_count [(vr z 0), (vi x1)] M (fun r M' => M = M' ∧ Q r) := by
  refine g_metI .int (by decide) rfl rfl (gCat_all (And.intro rfl (And.intro rfl trivial))) (Nat.le_of_ble_eq_true rfl) ?_
  intro y hC hR
  replace h : (rg x1 ∧ (x1 = 0 →
  Q (M 22 9)) ∧
(x1 = 1 →
  Q (M 22 10)) ∧
(x1 = 2 →
  (fX5_countNumbers M (fun r_2 =>
    Q r_2))) ∧
(x1 = 3 →
  (fX5_countNumbers M (fun r_4 =>
    (fX8_roomOf (M 22 10) (M 22 9) r_4 M (fun r_6 =>
    Q r_6))))) ∧
(x1 = 4 →
  Q (M 22 11)) ∧
(x1 = 5 →
  (fX5_countKeptFiles M (fun r_8 =>
    Q r_8))) ∧
((x1 < 0 ∨ 5 < x1) →
  Q (-1))) := h
  refine g_lc (lc' := [some (vr z 0), some (vi x1)]) rfl ?_
  refine g_iload_n hC dX8_count_0 rfl rfl ?_
  obtain ⟨hr_1, hs0, hs1, hs2, hs3, hs4, hs5, hD⟩ := h
  have hq : (x1 < 0 ∨ 5 < x1) ∨ x1 = 0 ∨ x1 = 1 ∨ x1 = 2 ∨ x1 = 3 ∨ x1 = 4 ∨ x1 = 5 := by omega
  rcases hq with hq | hq | hq | hq | hq | hq | hq
  · have h := hD hq
    refine g_tswOut hC 106 hr_1 dX8_count_1 hq (by decide) ?_
    refine g_iconst hC dX8_count_106 ?_
    exact g_iret hC hR dX8_count_107 ⟨rfl, h⟩
  · have h := hs0 hq
    refine g_tswIn (off := 39) hC 40 hr_1 dX8_count_1 (by omega) (by omega) (by rw [hq]; rfl) (by decide) ?_
    refine g_aload_n hC dX8_count_40 rfl rfl ?_
    refine g_getr (r := 22) hC rfl (gc_k8 hZ) iwX8 6 (by decide) rfl rfl (wc wd_305) dX8_count_41 ?_
    refine g_geti (ji := 9) hC rfl (gc_k5 hZ) iwX5 9 (by decide) rfl rfl (wc wd_200) dX8_count_44 rfl ?_
    exact g_iret hC hR dX8_count_47 ⟨rfl, h⟩
  · have h := hs1 hq
    refine g_tswIn (off := 47) hC 48 hr_1 dX8_count_1 (by omega) (by omega) (by rw [hq]; rfl) (by decide) ?_
    refine g_aload_n hC dX8_count_48 rfl rfl ?_
    refine g_getr (r := 22) hC rfl (gc_k8 hZ) iwX8 6 (by decide) rfl rfl (wc wd_305) dX8_count_49 ?_
    refine g_geti (ji := 10) hC rfl (gc_k5 hZ) iwX5 10 (by decide) rfl rfl (wc wd_202) dX8_count_52 rfl ?_
    exact g_iret hC hR dX8_count_55 ⟨rfl, h⟩
  · have h := hs2 hq
    refine g_tswIn (off := 55) hC 56 hr_1 dX8_count_1 (by omega) (by omega) (by rw [hq]; rfl) (by decide) ?_
    refine g_aload_n hC dX8_count_56 rfl rfl ?_
    refine g_getr (r := 22) hC rfl (gc_k8 hZ) iwX8 6 (by decide) rfl rfl (wc wd_305) dX8_count_57 ?_
    refine g_calli (g_runV (As := []) (rest := []) hC rfl (ctX5_countNumbers hZ  h) rfl (gc_k5 hZ) (kwX5_countNumbers (by decide) (by decide)) rfl (wc wd_621) (wc wd_622) (wc wd_623) rfl (Nat.le_of_ble_eq_true rfl) rfl dX8_count_60) (fun r_2 M_3 h => ?_)
    obtain ⟨rfl, h⟩ := h
    exact g_iret hC hR dX8_count_63 ⟨rfl, h⟩
  · have h := hs3 hq
    refine g_tswIn (off := 63) hC 64 hr_1 dX8_count_1 (by omega) (by omega) (by rw [hq]; rfl) (by decide) ?_
    refine g_aload_n hC dX8_count_64 rfl rfl ?_
    refine g_aload_n hC dX8_count_65 rfl rfl ?_
    refine g_getr (r := 22) hC rfl (gc_k8 hZ) iwX8 6 (by decide) rfl rfl (wc wd_305) dX8_count_66 ?_
    refine g_geti (ji := 10) hC rfl (gc_k5 hZ) iwX5 10 (by decide) rfl rfl (wc wd_202) dX8_count_69 rfl ?_
    refine g_aload_n hC dX8_count_72 rfl rfl ?_
    refine g_getr (r := 22) hC rfl (gc_k8 hZ) iwX8 6 (by decide) rfl rfl (wc wd_305) dX8_count_73 ?_
    refine g_geti (ji := 9) hC rfl (gc_k5 hZ) iwX5 9 (by decide) rfl rfl (wc wd_200) dX8_count_76 rfl ?_
    refine g_aload_n hC dX8_count_79 rfl rfl ?_
    refine g_getr (r := 22) hC rfl (gc_k8 hZ) iwX8 6 (by decide) rfl rfl (wc wd_305) dX8_count_80 ?_
    refine g_calli (g_runV (As := []) (rest := [(vi (M 22 9)), (vi (M 22 10)), (vr z 0)]) hC rfl (ctX5_countNumbers hZ  h) rfl (gc_k5 hZ) (kwX5_countNumbers (by decide) (by decide)) rfl (wc wd_621) (wc wd_622) (wc wd_623) rfl (Nat.le_of_ble_eq_true rfl) rfl dX8_count_83) (fun r_4 M_5 h => ?_)
    obtain ⟨rfl, h⟩ := h
    refine g_calli (g_runV (As := [(vi (M 22 10)), (vi (M 22 9)), (vi r_4)]) (rest := []) hC rfl (ctX8_roomOf hZ  h) rfl (gc_k8 hZ) (kwX8_roomOf (by decide) (by decide)) rfl (wc wd_529) (wc wd_531) (wc wd_8) rfl (Nat.le_of_ble_eq_true rfl) rfl dX8_count_86) (fun r_6 M_7 h => ?_)
    obtain ⟨rfl, h⟩ := h
    exact g_iret hC hR dX8_count_89 ⟨rfl, h⟩
  · have h := hs4 hq
    refine g_tswIn (off := 89) hC 90 hr_1 dX8_count_1 (by omega) (by omega) (by rw [hq]; rfl) (by decide) ?_
    refine g_aload_n hC dX8_count_90 rfl rfl ?_
    refine g_getr (r := 22) hC rfl (gc_k8 hZ) iwX8 6 (by decide) rfl rfl (wc wd_305) dX8_count_91 ?_
    refine g_geti (ji := 11) hC rfl (gc_k5 hZ) iwX5 11 (by decide) rfl rfl (wc wd_204) dX8_count_94 rfl ?_
    exact g_iret hC hR dX8_count_97 ⟨rfl, h⟩
  · have h := hs5 hq
    refine g_tswIn (off := 97) hC 98 hr_1 dX8_count_1 (by omega) (by omega) (by rw [hq]; rfl) (by decide) ?_
    refine g_aload_n hC dX8_count_98 rfl rfl ?_
    refine g_getr (r := 22) hC rfl (gc_k8 hZ) iwX8 6 (by decide) rfl rfl (wc wd_305) dX8_count_99 ?_
    refine g_calli (g_runV (As := []) (rest := []) hC rfl (ctX5_countKeptFiles hZ  h) rfl (gc_k5 hZ) (kwX5_countKeptFiles (by decide) (by decide)) rfl (wc wd_626) (wc wd_627) (wc wd_628) rfl (Nat.le_of_ble_eq_true rfl) rfl dX8_count_102) (fun r_8 M_9 h => ?_)
    obtain ⟨rfl, h⟩ := h
    exact g_iret hC hR dX8_count_105 ⟨rfl, h⟩
abbrev wX8_prices : List Cond := Cond.code yX8_prices cX8_prices 3 (some .boolean) :: gTs
abbrev rmX8_prices : Room := { frames := 1, cells := 0, slots := 0, locals := 22 }
theorem kwX8_prices {c0 : Cond} {rm : Room} (h1 : rmX8_prices.frames + 1 ≤ rm.frames) (h2 : 8 + (3 + 11) + rmX8_prices.locals ≤ rm.locals) : gCw (c0 :: gTs) rm yX8_prices cX8_prices 3 (some .boolean) wX8_prices rmX8_prices 2 := gCw_of wd_633 wd_39 h1 h2 (by decide +kernel)
def fX8_prices (x1 : Int) (x2 : Int) (M : gMem) (Q : Int → gMem → Prop) : Prop :=
  (fX8_isWithin x1 0 100 M (fun r_1 =>
  (rg r_1 ∧ (r_1 = 0 →
  Q 0 M) ∧
  (¬ r_1 = 0 →
  (fX8_isWithin x2 0 100 M (fun r_5 =>
    (rg r_5 ∧ (r_5 = 0 →
    Q 0 M) ∧
    (¬ r_5 = 0 →
    (∀ M_9, M_9 = gSt M 0 8 x1 → (∀ M_10, M_10 = gSt M_9 0 9 x2 → Q 1 M_10))))))))))
set_option maxHeartbeats 4000000 in
set_option maxRecDepth 100000 in
theorem ctX8_prices {l : Launch} {z : gZ} (hZ : gZc z) {x1 : Int} {x2 : Int}  {M : gMem} {Q : Int → gMem → Prop} (h : fX8_prices x1 x2 M Q) : gMI l z cL yX8_prices wX8_prices rmX8_prices [(vr z 0), (vi x1), (vi x2)] M Q := by
  refine g_metI .boolean (by decide) rfl rfl (gCat_all (And.intro rfl (And.intro rfl (And.intro rfl trivial)))) (Nat.le_of_ble_eq_true rfl) ?_
  intro y hC hR
  replace h : (fX8_isWithin x1 0 100 M (fun r_1 =>
  (rg r_1 ∧ (r_1 = 0 →
  Q 0 M) ∧
  (¬ r_1 = 0 →
  (fX8_isWithin x2 0 100 M (fun r_5 =>
    (rg r_5 ∧ (r_5 = 0 →
    Q 0 M) ∧
    (¬ r_5 = 0 →
    (∀ M_9, M_9 = gSt M 0 8 x1 → (∀ M_10, M_10 = gSt M_9 0 9 x2 → Q 1 M_10)))))))))) := h
  refine g_lc (lc' := [some (vr z 0), some (vi x1), some (vi x2)]) rfl ?_
  refine g_iload_n hC dX8_prices_0 rfl rfl ?_
  refine g_iconst hC dX8_prices_1 ?_
  refine g_bipush hC dX8_prices_2 (by decide) ?_
  refine g_calli (g_runS (As := [(vi x1), (vi 0), (vi 100)]) (rest := []) hC rfl (ctX8_isWithin hZ  h) (kwX8_isWithin (by decide) (by decide)) (wc wd_349) (wc wd_350) rfl (Nat.le_of_ble_eq_true rfl) rfl dX8_prices_4) (fun r_1 M_2 h => ?_)
  obtain ⟨rfl, h⟩ := h
  obtain ⟨hr_3, hA, hB⟩ := h
  refine g_ieq hC 20 hr_3 dX8_prices_7 (by decide) (fun hc_4 => ?_) (fun hc_4 => ?_)
  · replace h := hA hc_4
    clear hA hB
    refine g_iconst hC dX8_prices_20 ?_
    exact g_zret hC hR (by decide) dX8_prices_21 h
  · replace h := hB hc_4
    clear hA hB
    refine g_iload_n hC dX8_prices_10 rfl rfl ?_
    refine g_iconst hC dX8_prices_11 ?_
    refine g_bipush hC dX8_prices_12 (by decide) ?_
    refine g_calli (g_runS (As := [(vi x2), (vi 0), (vi 100)]) (rest := []) hC rfl (ctX8_isWithin hZ  h) (kwX8_isWithin (by decide) (by decide)) (wc wd_349) (wc wd_350) rfl (Nat.le_of_ble_eq_true rfl) rfl dX8_prices_14) (fun r_5 M_6 h => ?_)
    obtain ⟨rfl, h⟩ := h
    obtain ⟨hr_7, hA, hB⟩ := h
    refine g_ine hC 22 hr_7 dX8_prices_17 (by decide) (fun hc_8 => ?_) (fun hc_8 => ?_)
    · replace h := hA hc_8
      clear hA hB
      refine g_iconst hC dX8_prices_20 ?_
      exact g_zret hC hR (by decide) dX8_prices_21 h
    · replace h := hB hc_8
      clear hA hB
      refine g_aload_n hC dX8_prices_22 rfl rfl ?_
      refine g_iload_n hC dX8_prices_23 rfl rfl ?_
      obtain ⟨M_9, hM_9⟩ : ∃ M9, M9 = gSt M 0 8 x1 := ⟨_, rfl⟩
      replace h := h M_9 hM_9
      refine g_puti (ji := 8) hC rfl (gc_k8 hZ) iwX8 tyX8_ok nmX8 8 (by decide) rfl rfl (wc wd_307) rfl rfl dX8_prices_24 rfl hM_9 ?_
      refine g_aload_n hC dX8_prices_27 rfl rfl ?_
      refine g_iload_n hC dX8_prices_28 rfl rfl ?_
      obtain ⟨M_10, hM_10⟩ : ∃ M9, M9 = gSt M_9 0 9 x2 := ⟨_, rfl⟩
      replace h := h M_10 hM_10
      refine g_puti (ji := 9) hC rfl (gc_k8 hZ) iwX8 tyX8_ok nmX8 9 (by decide) rfl rfl (wc wd_308) rfl rfl dX8_prices_29 rfl hM_10 ?_
      refine g_iconst hC dX8_prices_32 ?_
      exact g_zret hC hR (by decide) dX8_prices_33 h
abbrev wX8_supers : List Cond := Cond.code yX8_supers cX8_supers 2 (some .int) :: gTs
abbrev rmX8_supers : Room := { frames := 5, cells := 0, slots := 0, locals := 113 }
theorem kwX8_supers {c0 : Cond} {rm : Room} (h1 : rmX8_supers.frames + 1 ≤ rm.frames) (h2 : 8 + (2 + 11) + rmX8_supers.locals ≤ rm.locals) : gCw (c0 :: gTs) rm yX8_supers cX8_supers 2 (some .int) wX8_supers rmX8_supers 0 := gCw_of wd_637 wd_39 h1 h2 (by decide +kernel)
def fX8_supers_L9  : Nat → Int → gMem → (gMem → Prop) → (Int → gMem → Prop) → Prop
  | 0, _, _, _, _ => False
  | n9 + 1, x1, M, K54, Q =>
    (rg x1 ∧ (x1 < 8 →
    (fX8_isKept x1 M (fun r_4 =>
      (rg r_4 ∧ (r_4 = 0 →
      fX8_supers_L9 n9 (x1 + 1) M K54 Q) ∧
      (¬ r_4 = 0 →
      ((0 ≤ x1 ∧ x1 < 8) ∧ ((0 ≤ x1 ∧ x1 < 8) ∧ (fX6_addRow (29 + (x1).toNat) 600 (M 38 x1) M (fun M_10 =>
        fX8_supers_L9 n9 (x1 + 1) M_10 K54 Q))))))))) ∧
    (¬ x1 < 8 →
    K54 M))
set_option maxHeartbeats 4000000 in
set_option maxRecDepth 100000 in
theorem ctX8_supers_L9 {y : gY} {z : gZ} {l : Launch}  {Q : Int → gMem → Prop} {K54 : gMem → Prop} (hC : gC y z l cX8_supers RX8 2 wX8_supers rmX8_supers) (hR : gRI y z cL .int Q) (hZ : gZc z)  (hK54 : ∀ (M : gMem), K54 M → gW y z cL 54 [some (vr z 0), none] [] M) :
    ∀ (n : Nat) (x1 : Int) (M : gMem), fX8_supers_L9 n x1 M K54 Q → gW y z cL 9 [some (vr z 0), some (vi x1)] [] M := by
  intro n
  induction n with
  | zero => intro x1 M h; exact False.elim h
  | succ n9 ih =>
    intro x1 M h
    replace h : (rg x1 ∧ (x1 < 8 →
    (fX8_isKept x1 M (fun r_4 =>
      (rg r_4 ∧ (r_4 = 0 →
      fX8_supers_L9 n9 (x1 + 1) M K54 Q) ∧
      (¬ r_4 = 0 →
      ((0 ≤ x1 ∧ x1 < 8) ∧ ((0 ≤ x1 ∧ x1 < 8) ∧ (fX6_addRow (29 + (x1).toNat) 600 (M 38 x1) M (fun M_10 =>
        fX8_supers_L9 n9 (x1 + 1) M_10 K54 Q))))))))) ∧
    (¬ x1 < 8 →
    K54 M)) := h
    refine g_iload_n hC dX8_supers_9 rfl rfl ?_
    refine g_bipush hC dX8_supers_10 (by decide) ?_
    obtain ⟨hr_2, hA, hB⟩ := h
    refine g_cge hC 54 hr_2 (by decide) dX8_supers_12 (by decide) (fun hc_3 => ?_) (fun hc_3 => ?_)
    · replace h := hA hc_3
      clear hA hB
      refine g_aload_n hC dX8_supers_15 rfl rfl ?_
      refine g_iload_n hC dX8_supers_16 rfl rfl ?_
      refine g_calli (g_runV (As := [(vi x1)]) (rest := []) hC rfl (ctX8_isKept hZ  h) rfl (gc_k8 hZ) (kwX8_isKept (by decide) (by decide)) rfl (wc wd_581) (wc wd_583) (wc wd_16) rfl (Nat.le_of_ble_eq_true rfl) rfl dX8_supers_17) (fun r_4 M_5 h => ?_)
      obtain ⟨rfl, h⟩ := h
      obtain ⟨hr_6, hA, hB⟩ := h
      refine g_ieq hC 48 hr_6 dX8_supers_20 (by decide) (fun hc_7 => ?_) (fun hc_7 => ?_)
      · replace h := hA hc_7
        clear hA hB
        refine g_iinc2 (lc' := [some (vr z 0), some (vi (x1 + 1))]) hC dX8_supers_48 rfl rfl ?_
        refine g_goto hC 9 dX8_supers_51 (by decide) ?_
        exact g_subk (ih (x1 + 1) M h) (And.intro rfl (And.intro rfl trivial))
      · replace h := hB hc_7
        clear hA hB
        refine g_aload_n hC dX8_supers_23 rfl rfl ?_
        refine g_getr (r := 39) hC rfl (gc_k8 hZ) iwX8 7 (by decide) rfl rfl (wc wd_306) dX8_supers_24 ?_
        refine g_aload_n hC dX8_supers_27 rfl rfl ?_
        refine g_getr (r := 22) hC rfl (gc_k8 hZ) iwX8 6 (by decide) rfl rfl (wc wd_305) dX8_supers_28 ?_
        refine g_getr (r := 28) hC rfl (gc_k5 hZ) iwX5 6 (by decide) rfl rfl (wc wd_195) dX8_supers_31 ?_
        refine g_iload_n hC dX8_supers_34 rfl rfl ?_
        obtain ⟨hb_8, h⟩ := h
        refine g_aald hC 3 rfl (c_t4 hZ) rfl (by decide) hb_8 dX8_supers_35 ?_
        refine g_aload_n hC dX8_supers_36 rfl rfl ?_
        refine g_getr (r := 22) hC rfl (gc_k8 hZ) iwX8 6 (by decide) rfl rfl (wc wd_305) dX8_supers_37 ?_
        refine g_getr (r := 38) hC rfl (gc_k5 hZ) iwX5 7 (by decide) rfl rfl (wc wd_197) dX8_supers_40 ?_
        refine g_iload_n hC dX8_supers_43 rfl rfl ?_
        obtain ⟨hb_9, h⟩ := h
        refine g_iald hC 0 rfl (c_t0 hZ) (by decide) hb_9 dX8_supers_44 ?_
        refine g_callv (g_runV (As := [(vr z (29 + (x1).toNat)), (vi (M 38 x1))]) (rest := []) hC rfl (ctX6_addRow hZ (lay_row (by omega)) (by decide) h) rfl (gc_k6 hZ) (kwX6_addRow (by decide) (by decide)) rfl (wc wd_642) (wc wd_643) (wc wd_644) rfl (Nat.le_of_ble_eq_true rfl) rfl dX8_supers_45) (fun M_10 h => ?_)
        refine g_iinc2 (lc' := [some (vr z 0), some (vi (x1 + 1))]) hC dX8_supers_48 rfl rfl ?_
        refine g_goto hC 9 dX8_supers_51 (by decide) ?_
        exact g_subk (ih (x1 + 1) M_10 h) (And.intro rfl (And.intro rfl trivial))
    · replace h := hB hc_3
      clear hA hB
      exact g_subk (hK54 M h) (And.intro rfl trivial)
def fX8_supers  (M : gMem) (Q : Int → gMem → Prop) : Prop :=
  (fX6_clear M (fun M_1 =>
  ∃ n_15, fX8_supers_L9 n_15 0 M_1 (fun M_11 =>
  (fX6_make M_11 (fun M_12 =>
    (fX6_countLeft M_12 (fun r_13 =>
    Q r_13 M_12))))) Q))
set_option maxHeartbeats 4000000 in
set_option maxRecDepth 100000 in
theorem ctX8_supers {l : Launch} {z : gZ} (hZ : gZc z)   {M : gMem} {Q : Int → gMem → Prop} (h : fX8_supers  M Q) : gMI l z cL yX8_supers wX8_supers rmX8_supers [(vr z 0)] M Q := by
  refine g_metI .int (by decide) rfl rfl (gCat_all (And.intro rfl trivial)) (Nat.le_of_ble_eq_true rfl) ?_
  intro y hC hR
  replace h : (fX6_clear M (fun M_1 =>
  ∃ n_15, fX8_supers_L9 n_15 0 M_1 (fun M_11 =>
  (fX6_make M_11 (fun M_12 =>
    (fX6_countLeft M_12 (fun r_13 =>
    Q r_13 M_12))))) Q)) := h
  refine g_lc (lc' := [some (vr z 0), none]) rfl ?_
  refine g_aload_n hC dX8_supers_0 rfl rfl ?_
  refine g_getr (r := 39) hC rfl (gc_k8 hZ) iwX8 7 (by decide) rfl rfl (wc wd_306) dX8_supers_1 ?_
  refine g_callv (g_runV (As := []) (rest := []) hC rfl (ctX6_clear hZ  h) rfl (gc_k6 hZ) (kwX6_clear (by decide) (by decide)) rfl (wc wd_638) (wc wd_639) (wc wd_640) rfl (Nat.le_of_ble_eq_true rfl) rfl dX8_supers_4) (fun M_1 h => ?_)
  refine g_iconst hC dX8_supers_7 ?_
  refine g_istore_n2 (lc' := [some (vr z 0), some (vi 0)]) hC dX8_supers_8 rfl (Nat.le_of_ble_eq_true rfl) rfl ?_
  obtain ⟨n_15, h⟩ := h
  refine g_subk (ctX8_supers_L9 hC hR hZ ?_ n_15 0 M_1 h) (And.intro rfl (And.intro rfl trivial))
  intro M_11 h
  refine g_aload_n hC dX8_supers_54 rfl rfl ?_
  refine g_getr (r := 39) hC rfl (gc_k8 hZ) iwX8 7 (by decide) rfl rfl (wc wd_306) dX8_supers_55 ?_
  refine g_callv (g_runV (As := []) (rest := []) hC rfl (ctX6_make hZ  h) rfl (gc_k6 hZ) (kwX6_make (by decide) (by decide)) rfl (wc wd_647) (wc wd_648) (wc wd_649) rfl (Nat.le_of_ble_eq_true rfl) rfl dX8_supers_58) (fun M_12 h => ?_)
  refine g_aload_n hC dX8_supers_61 rfl rfl ?_
  refine g_getr (r := 39) hC rfl (gc_k8 hZ) iwX8 7 (by decide) rfl rfl (wc wd_306) dX8_supers_62 ?_
  refine g_calli (g_runV (As := []) (rest := []) hC rfl (ctX6_countLeft hZ  h) rfl (gc_k6 hZ) (kwX6_countLeft (by decide) (by decide)) rfl (wc wd_672) (wc wd_673) (wc wd_674) rfl (Nat.le_of_ble_eq_true rfl) rfl dX8_supers_65) (fun r_13 M_14 h => ?_)
  obtain ⟨rfl, h⟩ := h
  exact g_iret hC hR dX8_supers_68 h
abbrev wX8_pair : List Cond := Cond.code yX8_pair cX8_pair 3 (some .int) :: gTs
abbrev rmX8_pair : Room := { frames := 1, cells := 0, slots := 0, locals := 22 }
theorem kwX8_pair {c0 : Cond} {rm : Room} (h1 : rmX8_pair.frames + 1 ≤ rm.frames) (h2 : 8 + (3 + 11) + rmX8_pair.locals ≤ rm.locals) : gCw (c0 :: gTs) rm yX8_pair cX8_pair 3 (some .int) wX8_pair rmX8_pair 2 := gCw_of wd_679 wd_39 h1 h2 (by decide +kernel)
def fX8_pair (x1 : Int) (x2 : Int) (M : gMem) (Q : Int → Prop) : Prop :=
  (fX8_isWithin x1 0 ((M 39 7) - 1) M (fun r_1 =>
  (rg r_1 ∧ (r_1 = 0 →
  Q (-1)) ∧
  (¬ r_1 = 0 →
  (rg x2 ∧ (x2 = 0 →
    ((0 ≤ x1 ∧ x1 < 200) ∧ Q (M 45 x1))) ∧
(x2 = 1 →
    ((0 ≤ x1 ∧ x1 < 200) ∧ Q (M 46 x1))) ∧
(x2 = 2 →
    ((0 ≤ x1 ∧ x1 < 200) ∧ Q (M 47 x1))) ∧
((x2 < 0 ∨ 2 < x2) →
    Q (-1)))))))
set_option maxHeartbeats 4000000 in
set_option maxRecDepth 100000 in
theorem ctX8_pair {l : Launch} {z : gZ} (hZ : gZc z) {x1 : Int} {x2 : Int}  {M : gMem} {Q : Int → Prop} (h : fX8_pair x1 x2 M Q) : gMI l z cL yX8_pair wX8_pair rmX8_pair [(vr z 0), (vi x1), (vi x2)] M (fun r M' => M = M' ∧ Q r) := by
  refine g_metI .int (by decide) rfl rfl (gCat_all (And.intro rfl (And.intro rfl (And.intro rfl trivial)))) (Nat.le_of_ble_eq_true rfl) ?_
  intro y hC hR
  replace h : (fX8_isWithin x1 0 ((M 39 7) - 1) M (fun r_1 =>
  (rg r_1 ∧ (r_1 = 0 →
  Q (-1)) ∧
  (¬ r_1 = 0 →
  (rg x2 ∧ (x2 = 0 →
    ((0 ≤ x1 ∧ x1 < 200) ∧ Q (M 45 x1))) ∧
(x2 = 1 →
    ((0 ≤ x1 ∧ x1 < 200) ∧ Q (M 46 x1))) ∧
(x2 = 2 →
    ((0 ≤ x1 ∧ x1 < 200) ∧ Q (M 47 x1))) ∧
((x2 < 0 ∨ 2 < x2) →
    Q (-1))))))) := h
  refine g_lc (lc' := [some (vr z 0), some (vi x1), some (vi x2)]) rfl ?_
  refine g_iload_n hC dX8_pair_0 rfl rfl ?_
  refine g_iconst hC dX8_pair_1 ?_
  refine g_aload_n hC dX8_pair_2 rfl rfl ?_
  refine g_getr (r := 39) hC rfl (gc_k8 hZ) iwX8 7 (by decide) rfl rfl (wc wd_306) dX8_pair_3 ?_
  refine g_geti (ji := 7) hC rfl (gc_k6 hZ) iwX6 7 (by decide) rfl rfl (wc wd_281) dX8_pair_6 rfl ?_
  refine g_iconst hC dX8_pair_9 ?_
  refine g_isub hC dX8_pair_10 ?_
  refine g_calli (g_runS (As := [(vi x1), (vi 0), (vi ((M 39 7) - 1))]) (rest := []) hC rfl (ctX8_isWithin hZ  h) (kwX8_isWithin (by decide) (by decide)) (wc wd_349) (wc wd_350) rfl (Nat.le_of_ble_eq_true rfl) rfl dX8_pair_11) (fun r_1 M_2 h => ?_)
  obtain ⟨rfl, h⟩ := h
  obtain ⟨hr_3, hA, hB⟩ := h
  refine g_ine hC 19 hr_3 dX8_pair_14 (by decide) (fun hc_4 => ?_) (fun hc_4 => ?_)
  · replace h := hA hc_4
    clear hA hB
    refine g_iconst hC dX8_pair_17 ?_
    exact g_iret hC hR dX8_pair_18 ⟨rfl, h⟩
  · replace h := hB hc_4
    clear hA hB
    refine g_iload_n hC dX8_pair_19 rfl rfl ?_
    obtain ⟨hr_5, hs0, hs1, hs2, hD⟩ := h
    have hq : (x2 < 0 ∨ 2 < x2) ∨ x2 = 0 ∨ x2 = 1 ∨ x2 = 2 := by omega
    rcases hq with hq | hq | hq | hq
    · have h := hD hq
      refine g_tswOut hC 78 hr_5 dX8_pair_20 hq (by decide) ?_
      refine g_iconst hC dX8_pair_78 ?_
      exact g_iret hC hR dX8_pair_79 ⟨rfl, h⟩
    · have h := hs0 hq
      refine g_tswIn (off := 28) hC 48 hr_5 dX8_pair_20 (by omega) (by omega) (by rw [hq]; rfl) (by decide) ?_
      refine g_aload_n hC dX8_pair_48 rfl rfl ?_
      refine g_getr (r := 39) hC rfl (gc_k8 hZ) iwX8 7 (by decide) rfl rfl (wc wd_306) dX8_pair_49 ?_
      refine g_getr (r := 45) hC rfl (gc_k6 hZ) iwX6 4 (by decide) rfl rfl (wc wd_275) dX8_pair_52 ?_
      refine g_iload_n hC dX8_pair_55 rfl rfl ?_
      obtain ⟨hb_6, h⟩ := h
      refine g_iald hC 0 rfl (c_t0 hZ) (by decide) hb_6 dX8_pair_56 ?_
      exact g_iret hC hR dX8_pair_57 ⟨rfl, h⟩
    · have h := hs1 hq
      refine g_tswIn (off := 38) hC 58 hr_5 dX8_pair_20 (by omega) (by omega) (by rw [hq]; rfl) (by decide) ?_
      refine g_aload_n hC dX8_pair_58 rfl rfl ?_
      refine g_getr (r := 39) hC rfl (gc_k8 hZ) iwX8 7 (by decide) rfl rfl (wc wd_306) dX8_pair_59 ?_
      refine g_getr (r := 46) hC rfl (gc_k6 hZ) iwX6 5 (by decide) rfl rfl (wc wd_277) dX8_pair_62 ?_
      refine g_iload_n hC dX8_pair_65 rfl rfl ?_
      obtain ⟨hb_7, h⟩ := h
      refine g_iald hC 0 rfl (c_t0 hZ) (by decide) hb_7 dX8_pair_66 ?_
      exact g_iret hC hR dX8_pair_67 ⟨rfl, h⟩
    · have h := hs2 hq
      refine g_tswIn (off := 48) hC 68 hr_5 dX8_pair_20 (by omega) (by omega) (by rw [hq]; rfl) (by decide) ?_
      refine g_aload_n hC dX8_pair_68 rfl rfl ?_
      refine g_getr (r := 39) hC rfl (gc_k8 hZ) iwX8 7 (by decide) rfl rfl (wc wd_306) dX8_pair_69 ?_
      refine g_getr (r := 47) hC rfl (gc_k6 hZ) iwX6 6 (by decide) rfl rfl (wc wd_279) dX8_pair_72 ?_
      refine g_iload_n hC dX8_pair_75 rfl rfl ?_
      obtain ⟨hb_8, h⟩ := h
      refine g_iald hC 0 rfl (c_t0 hZ) (by decide) hb_8 dX8_pair_76 ?_
      exact g_iret hC hR dX8_pair_77 ⟨rfl, h⟩
