abbrev wX9_jumps : List Cond := Cond.code yX9_jumps cX9_jumps 4 (some .int) :: gTs
abbrev rmX9_jumps : Room := { frames := 1, cells := 0, slots := 0, locals := 20 }
theorem kwX9_jumps {c0 : Cond} {rm : Room} (h1 : rmX9_jumps.frames + 1 ≤ rm.frames) (h2 : 8 + (4 + 11) + rmX9_jumps.locals ≤ rm.locals) : gCw (c0 :: gTs) rm yX9_jumps cX9_jumps 4 (some .int) wX9_jumps rmX9_jumps 1 := gCw_of wd_953 wd_49 h1 h2 (by decide +kernel)
def fX9_jumps_L22  (x1 : Int) (M : gMem) : Nat → Int → Int → (Int → Prop) → Prop
  | 0, _, _, _ => False
  | n22 + 1, x2, x3, Q =>
    ((0 ≤ x1 ∧ x1 < 8) ∧ (rg x3 ∧ rg (M 21 x1) ∧ (x3 < (M 21 x1) →
    (rg x3 ∧ (x3 = 0 →
      fX9_jumps_L22 x1 M n22 (x2 + 1) (x3 + 1) Q) ∧
      (¬ x3 = 0 →
      ((0 ≤ ((600 * x1) + x3) ∧ ((600 * x1) + x3) < 4800) ∧ ((0 ≤ (((600 * x1) + x3) - 1) ∧ (((600 * x1) + x3) - 1) < 4800) ∧ (rg (M 22 ((600 * x1) + x3)) ∧ rg ((M 22 (((600 * x1) + x3) - 1)) + 1) ∧ ((M 22 ((600 * x1) + x3)) = ((M 22 (((600 * x1) + x3) - 1)) + 1) →
        fX9_jumps_L22 x1 M n22 x2 (x3 + 1) Q) ∧
        (¬ (M 22 ((600 * x1) + x3)) = ((M 22 (((600 * x1) + x3) - 1)) + 1) →
        fX9_jumps_L22 x1 M n22 (x2 + 1) (x3 + 1) Q))))))) ∧
    (¬ x3 < (M 21 x1) →
    Q x2)))
set_option maxHeartbeats 4000000 in
set_option maxRecDepth 100000 in
theorem ctX9_jumps_L22 {y : gY} {z : gZ} {l : Launch} {x1 : Int} {M : gMem} {Q : Int → Prop}  (hC : gC y z l cX9_jumps RX9 4 wX9_jumps rmX9_jumps) (hR : gRI y z mL .int (fun r M' => M = M' ∧ Q r)) (hZ : gZm z)  :
    ∀ (n : Nat) (x2 : Int) (x3 : Int), fX9_jumps_L22 x1 M n x2 x3 Q → gW y z mL 22 [some (vr z 0), some (vi x1), some (vi x2), some (vi x3)] [] M := by
  intro n
  induction n with
  | zero => intro x2 x3 h; exact False.elim h
  | succ n22 ih =>
    intro x2 x3 h
    replace h : ((0 ≤ x1 ∧ x1 < 8) ∧ (rg x3 ∧ rg (M 21 x1) ∧ (x3 < (M 21 x1) →
    (rg x3 ∧ (x3 = 0 →
      fX9_jumps_L22 x1 M n22 (x2 + 1) (x3 + 1) Q) ∧
      (¬ x3 = 0 →
      ((0 ≤ ((600 * x1) + x3) ∧ ((600 * x1) + x3) < 4800) ∧ ((0 ≤ (((600 * x1) + x3) - 1) ∧ (((600 * x1) + x3) - 1) < 4800) ∧ (rg (M 22 ((600 * x1) + x3)) ∧ rg ((M 22 (((600 * x1) + x3) - 1)) + 1) ∧ ((M 22 ((600 * x1) + x3)) = ((M 22 (((600 * x1) + x3) - 1)) + 1) →
        fX9_jumps_L22 x1 M n22 x2 (x3 + 1) Q) ∧
        (¬ (M 22 ((600 * x1) + x3)) = ((M 22 (((600 * x1) + x3) - 1)) + 1) →
        fX9_jumps_L22 x1 M n22 (x2 + 1) (x3 + 1) Q))))))) ∧
    (¬ x3 < (M 21 x1) →
    Q x2))) := h
    refine g_iload_n hC dX9_jumps_22 rfl rfl ?_
    refine g_aload_n hC dX9_jumps_23 rfl rfl ?_
    refine g_getr (r := 21) hC rfl (gm_k9 hZ) iwX9 25 (by decide) rfl rfl (wc wd_713) dX9_jumps_24 ?_
    refine g_iload_n hC dX9_jumps_27 rfl rfl ?_
    obtain ⟨hb_8, h⟩ := h
    refine g_iald hC 0 rfl (m_t0 hZ) (by decide) hb_8 dX9_jumps_28 ?_
    obtain ⟨hr_9, hr_10, hA, hB⟩ := h
    refine g_cge hC 76 hr_9 hr_10 dX9_jumps_29 (by decide) (fun hc_11 => ?_) (fun hc_11 => ?_)
    · replace h := hA hc_11
      clear hA hB
      refine g_iload_n hC dX9_jumps_32 rfl rfl ?_
      obtain ⟨hr_12, hA, hB⟩ := h
      refine g_ieq hC 67 hr_12 dX9_jumps_33 (by decide) (fun hc_13 => ?_) (fun hc_13 => ?_)
      · replace h := hA hc_13
        clear hA hB
        refine g_iinc2 (lc' := [some (vr z 0), some (vi x1), some (vi (x2 + 1)), some (vi x3)]) hC dX9_jumps_67 rfl rfl ?_
        refine g_iinc2 (lc' := [some (vr z 0), some (vi x1), some (vi (x2 + 1)), some (vi (x3 + 1))]) hC dX9_jumps_70 rfl rfl ?_
        refine g_goto hC 22 dX9_jumps_73 (by decide) ?_
        exact g_subk (ih (x2 + 1) (x3 + 1) h) (And.intro rfl (And.intro rfl (And.intro rfl (And.intro rfl trivial))))
      · replace h := hB hc_13
        clear hA hB
        refine g_aload_n hC dX9_jumps_36 rfl rfl ?_
        refine g_getr (r := 22) hC rfl (gm_k9 hZ) iwX9 26 (by decide) rfl rfl (wc wd_714) dX9_jumps_37 ?_
        refine g_sipush hC dX9_jumps_40 (by decide) ?_
        refine g_iload_n hC dX9_jumps_43 rfl rfl ?_
        refine g_imul hC dX9_jumps_44 ?_
        refine g_iload_n hC dX9_jumps_45 rfl rfl ?_
        refine g_iadd hC dX9_jumps_46 ?_
        obtain ⟨hb_14, h⟩ := h
        refine g_iald hC 0 rfl (m_t0 hZ) (by decide) hb_14 dX9_jumps_47 ?_
        refine g_aload_n hC dX9_jumps_48 rfl rfl ?_
        refine g_getr (r := 22) hC rfl (gm_k9 hZ) iwX9 26 (by decide) rfl rfl (wc wd_714) dX9_jumps_49 ?_
        refine g_sipush hC dX9_jumps_52 (by decide) ?_
        refine g_iload_n hC dX9_jumps_55 rfl rfl ?_
        refine g_imul hC dX9_jumps_56 ?_
        refine g_iload_n hC dX9_jumps_57 rfl rfl ?_
        refine g_iadd hC dX9_jumps_58 ?_
        refine g_iconst hC dX9_jumps_59 ?_
        refine g_isub hC dX9_jumps_60 ?_
        obtain ⟨hb_15, h⟩ := h
        refine g_iald hC 0 rfl (m_t0 hZ) (by decide) hb_15 dX9_jumps_61 ?_
        refine g_iconst hC dX9_jumps_62 ?_
        refine g_iadd hC dX9_jumps_63 ?_
        obtain ⟨hr_16, hr_17, hA, hB⟩ := h
        refine g_ceq hC 70 hr_16 hr_17 dX9_jumps_64 (by decide) (fun hc_18 => ?_) (fun hc_18 => ?_)
        · replace h := hA hc_18
          clear hA hB
          refine g_iinc2 (lc' := [some (vr z 0), some (vi x1), some (vi x2), some (vi (x3 + 1))]) hC dX9_jumps_70 rfl rfl ?_
          refine g_goto hC 22 dX9_jumps_73 (by decide) ?_
          exact g_subk (ih x2 (x3 + 1) h) (And.intro rfl (And.intro rfl (And.intro rfl (And.intro rfl trivial))))
        · replace h := hB hc_18
          clear hA hB
          refine g_iinc2 (lc' := [some (vr z 0), some (vi x1), some (vi (x2 + 1)), some (vi x3)]) hC dX9_jumps_67 rfl rfl ?_
          refine g_iinc2 (lc' := [some (vr z 0), some (vi x1), some (vi (x2 + 1)), some (vi (x3 + 1))]) hC dX9_jumps_70 rfl rfl ?_
          refine g_goto hC 22 dX9_jumps_73 (by decide) ?_
          exact g_subk (ih (x2 + 1) (x3 + 1) h) (And.intro rfl (And.intro rfl (And.intro rfl (And.intro rfl trivial))))
    · replace h := hB hc_11
      clear hA hB
      refine g_iload_n hC dX9_jumps_76 rfl rfl ?_
      exact g_iret hC hR dX9_jumps_77 ⟨rfl, h⟩
def fX9_jumps (x1 : Int) (M : gMem) (Q : Int → Prop) : Prop :=
  (fX9_isFile x1 M (fun r_1 =>
  (rg r_1 ∧ (r_1 = 0 →
  Q (-1)) ∧
  (¬ r_1 = 0 →
  ((0 ≤ x1 ∧ x1 < 8) ∧ (rg ((M 20 x1) % 2) ∧ (((M 20 x1) % 2) = 0 →
    Q (-1)) ∧
    (¬ ((M 20 x1) % 2) = 0 →
    ∃ n_19, fX9_jumps_L22 x1 M n_19 0 0 Q)))))))
set_option maxHeartbeats 4000000 in
set_option maxRecDepth 100000 in
theorem ctX9_jumps {l : Launch} {z : gZ} (hZ : gZm z) {x1 : Int}  {M : gMem} {Q : Int → Prop} (h : fX9_jumps x1 M Q) : gMI l z mL yX9_jumps wX9_jumps rmX9_jumps [(vr z 0), (vi x1)] M (fun r M' => M = M' ∧ Q r) := by
  refine g_metI .int (by decide) rfl rfl (gCat_all (And.intro rfl (And.intro rfl trivial))) (Nat.le_of_ble_eq_true rfl) ?_
  intro y hC hR
  replace h : (fX9_isFile x1 M (fun r_1 =>
  (rg r_1 ∧ (r_1 = 0 →
  Q (-1)) ∧
  (¬ r_1 = 0 →
  ((0 ≤ x1 ∧ x1 < 8) ∧ (rg ((M 20 x1) % 2) ∧ (((M 20 x1) % 2) = 0 →
    Q (-1)) ∧
    (¬ ((M 20 x1) % 2) = 0 →
    ∃ n_19, fX9_jumps_L22 x1 M n_19 0 0 Q))))))) := h
  refine g_lc (lc' := [some (vr z 0), some (vi x1), none, none]) rfl ?_
  refine g_iload_n hC dX9_jumps_0 rfl rfl ?_
  refine g_calli (g_runS (As := [(vi x1)]) (rest := []) hC rfl (ctX9_isFile hZ  h) (kwX9_isFile (by decide) (by decide)) (wc wd_813) (wc wd_814) rfl (Nat.le_of_ble_eq_true rfl) rfl dX9_jumps_1) (fun r_1 M_2 h => ?_)
  obtain ⟨rfl, h⟩ := h
  obtain ⟨hr_3, hA, hB⟩ := h
  refine g_ieq hC 16 hr_3 dX9_jumps_4 (by decide) (fun hc_4 => ?_) (fun hc_4 => ?_)
  · replace h := hA hc_4
    clear hA hB
    refine g_iconst hC dX9_jumps_16 ?_
    exact g_iret hC hR dX9_jumps_17 ⟨rfl, h⟩
  · replace h := hB hc_4
    clear hA hB
    refine g_aload_n hC dX9_jumps_7 rfl rfl ?_
    refine g_getr (r := 20) hC rfl (gm_k9 hZ) iwX9 24 (by decide) rfl rfl (wc wd_712) dX9_jumps_8 ?_
    refine g_iload_n hC dX9_jumps_11 rfl rfl ?_
    obtain ⟨hb_5, h⟩ := h
    refine g_zald hC 1 rfl (m_t2 hZ) (by decide) hb_5 dX9_jumps_12 ?_
    obtain ⟨hr_6, hA, hB⟩ := h
    refine g_ine hC 18 hr_6 dX9_jumps_13 (by decide) (fun hc_7 => ?_) (fun hc_7 => ?_)
    · replace h := hA hc_7
      clear hA hB
      refine g_iconst hC dX9_jumps_16 ?_
      exact g_iret hC hR dX9_jumps_17 ⟨rfl, h⟩
    · replace h := hB hc_7
      clear hA hB
      refine g_iconst hC dX9_jumps_18 ?_
      refine g_istore_n2 (lc' := [some (vr z 0), some (vi x1), some (vi 0), none]) hC dX9_jumps_19 rfl (Nat.le_of_ble_eq_true rfl) rfl ?_
      refine g_iconst hC dX9_jumps_20 ?_
      refine g_istore_n2 (lc' := [some (vr z 0), some (vi x1), some (vi 0), some (vi 0)]) hC dX9_jumps_21 rfl (Nat.le_of_ble_eq_true rfl) rfl ?_
      obtain ⟨n_19, h⟩ := h
      refine g_subk (ctX9_jumps_L22 hC hR hZ  n_19 0 0 h) (And.intro rfl (And.intro rfl (And.intro rfl (And.intro rfl trivial))))
abbrev wX9_number : List Cond := Cond.code yX9_number cX9_number 3 (some .int) :: gTs
abbrev rmX9_number : Room := { frames := 1, cells := 0, slots := 0, locals := 20 }
theorem kwX9_number {c0 : Cond} {rm : Room} (h1 : rmX9_number.frames + 1 ≤ rm.frames) (h2 : 8 + (3 + 11) + rmX9_number.locals ≤ rm.locals) : gCw (c0 :: gTs) rm yX9_number cX9_number 3 (some .int) wX9_number rmX9_number 2 := gCw_of wd_957 wd_49 h1 h2 (by decide +kernel)
def fX9_number (x1 : Int) (x2 : Int) (M : gMem) (Q : Int → Prop) : Prop :=
  (fX9_isFile x1 M (fun r_1 =>
  (rg r_1 ∧ (r_1 = 0 →
  Q (-1)) ∧
  (¬ r_1 = 0 →
  ((0 ≤ x1 ∧ x1 < 8) ∧ (rg ((M 20 x1) % 2) ∧ (((M 20 x1) % 2) = 0 →
    Q (-1)) ∧
    (¬ ((M 20 x1) % 2) = 0 →
    (rg x2 ∧ (x2 < 0 →
      Q (-1)) ∧
      (¬ x2 < 0 →
      ((0 ≤ x1 ∧ x1 < 8) ∧ (rg x2 ∧ rg (M 21 x1) ∧ (x2 < (M 21 x1) →
        ((0 ≤ ((600 * x1) + x2) ∧ ((600 * x1) + x2) < 4800) ∧ Q (M 22 ((600 * x1) + x2)))) ∧
        (¬ x2 < (M 21 x1) →
        Q (-1)))))))))))))
set_option maxHeartbeats 4000000 in
set_option maxRecDepth 100000 in
theorem ctX9_number {l : Launch} {z : gZ} (hZ : gZm z) {x1 : Int} {x2 : Int}  {M : gMem} {Q : Int → Prop} (h : fX9_number x1 x2 M Q) : gMI l z mL yX9_number wX9_number rmX9_number [(vr z 0), (vi x1), (vi x2)] M (fun r M' => M = M' ∧ Q r) := by
  refine g_metI .int (by decide) rfl rfl (gCat_all (And.intro rfl (And.intro rfl (And.intro rfl trivial)))) (Nat.le_of_ble_eq_true rfl) ?_
  intro y hC hR
  replace h : (fX9_isFile x1 M (fun r_1 =>
  (rg r_1 ∧ (r_1 = 0 →
  Q (-1)) ∧
  (¬ r_1 = 0 →
  ((0 ≤ x1 ∧ x1 < 8) ∧ (rg ((M 20 x1) % 2) ∧ (((M 20 x1) % 2) = 0 →
    Q (-1)) ∧
    (¬ ((M 20 x1) % 2) = 0 →
    (rg x2 ∧ (x2 < 0 →
      Q (-1)) ∧
      (¬ x2 < 0 →
      ((0 ≤ x1 ∧ x1 < 8) ∧ (rg x2 ∧ rg (M 21 x1) ∧ (x2 < (M 21 x1) →
        ((0 ≤ ((600 * x1) + x2) ∧ ((600 * x1) + x2) < 4800) ∧ Q (M 22 ((600 * x1) + x2)))) ∧
        (¬ x2 < (M 21 x1) →
        Q (-1))))))))))))) := h
  refine g_lc (lc' := [some (vr z 0), some (vi x1), some (vi x2)]) rfl ?_
  refine g_iload_n hC dX9_number_0 rfl rfl ?_
  refine g_calli (g_runS (As := [(vi x1)]) (rest := []) hC rfl (ctX9_isFile hZ  h) (kwX9_isFile (by decide) (by decide)) (wc wd_813) (wc wd_814) rfl (Nat.le_of_ble_eq_true rfl) rfl dX9_number_1) (fun r_1 M_2 h => ?_)
  obtain ⟨rfl, h⟩ := h
  obtain ⟨hr_3, hA, hB⟩ := h
  refine g_ieq hC 45 hr_3 dX9_number_4 (by decide) (fun hc_4 => ?_) (fun hc_4 => ?_)
  · replace h := hA hc_4
    clear hA hB
    refine g_iconst hC dX9_number_45 ?_
    exact g_iret hC hR dX9_number_46 ⟨rfl, h⟩
  · replace h := hB hc_4
    clear hA hB
    refine g_aload_n hC dX9_number_7 rfl rfl ?_
    refine g_getr (r := 20) hC rfl (gm_k9 hZ) iwX9 24 (by decide) rfl rfl (wc wd_712) dX9_number_8 ?_
    refine g_iload_n hC dX9_number_11 rfl rfl ?_
    obtain ⟨hb_5, h⟩ := h
    refine g_zald hC 1 rfl (m_t2 hZ) (by decide) hb_5 dX9_number_12 ?_
    obtain ⟨hr_6, hA, hB⟩ := h
    refine g_ieq hC 45 hr_6 dX9_number_13 (by decide) (fun hc_7 => ?_) (fun hc_7 => ?_)
    · replace h := hA hc_7
      clear hA hB
      refine g_iconst hC dX9_number_45 ?_
      exact g_iret hC hR dX9_number_46 ⟨rfl, h⟩
    · replace h := hB hc_7
      clear hA hB
      refine g_iload_n hC dX9_number_16 rfl rfl ?_
      obtain ⟨hr_8, hA, hB⟩ := h
      refine g_ilt hC 45 hr_8 dX9_number_17 (by decide) (fun hc_9 => ?_) (fun hc_9 => ?_)
      · replace h := hA hc_9
        clear hA hB
        refine g_iconst hC dX9_number_45 ?_
        exact g_iret hC hR dX9_number_46 ⟨rfl, h⟩
      · replace h := hB hc_9
        clear hA hB
        refine g_iload_n hC dX9_number_20 rfl rfl ?_
        refine g_aload_n hC dX9_number_21 rfl rfl ?_
        refine g_getr (r := 21) hC rfl (gm_k9 hZ) iwX9 25 (by decide) rfl rfl (wc wd_713) dX9_number_22 ?_
        refine g_iload_n hC dX9_number_25 rfl rfl ?_
        obtain ⟨hb_10, h⟩ := h
        refine g_iald hC 0 rfl (m_t0 hZ) (by decide) hb_10 dX9_number_26 ?_
        obtain ⟨hr_11, hr_12, hA, hB⟩ := h
        refine g_cge hC 45 hr_11 hr_12 dX9_number_27 (by decide) (fun hc_13 => ?_) (fun hc_13 => ?_)
        · replace h := hA hc_13
          clear hA hB
          refine g_aload_n hC dX9_number_30 rfl rfl ?_
          refine g_getr (r := 22) hC rfl (gm_k9 hZ) iwX9 26 (by decide) rfl rfl (wc wd_714) dX9_number_31 ?_
          refine g_sipush hC dX9_number_34 (by decide) ?_
          refine g_iload_n hC dX9_number_37 rfl rfl ?_
          refine g_imul hC dX9_number_38 ?_
          refine g_iload_n hC dX9_number_39 rfl rfl ?_
          refine g_iadd hC dX9_number_40 ?_
          obtain ⟨hb_14, h⟩ := h
          refine g_iald hC 0 rfl (m_t0 hZ) (by decide) hb_14 dX9_number_41 ?_
          refine g_goto hC 46 dX9_number_42 (by decide) ?_
          exact g_iret hC hR dX9_number_46 ⟨rfl, h⟩
        · replace h := hB hc_13
          clear hA hB
          refine g_iconst hC dX9_number_45 ?_
          exact g_iret hC hR dX9_number_46 ⟨rfl, h⟩
abbrev wX9_piece : List Cond := Cond.code yX9_piece cX9_piece 3 (some .int) :: gTs
abbrev rmX9_piece : Room := { frames := 1, cells := 0, slots := 0, locals := 21 }
theorem kwX9_piece {c0 : Cond} {rm : Room} (h1 : rmX9_piece.frames + 1 ≤ rm.frames) (h2 : 8 + (3 + 11) + rmX9_piece.locals ≤ rm.locals) : gCw (c0 :: gTs) rm yX9_piece cX9_piece 3 (some .int) wX9_piece rmX9_piece 2 := gCw_of wd_961 wd_49 h1 h2 (by decide +kernel)
def fX9_piece (x1 : Int) (x2 : Int) (M : gMem) (Q : Int → Prop) : Prop :=
  (fX9_isPiece x1 M (fun r_1 =>
  (rg r_1 ∧ (r_1 = 0 →
  Q (-1)) ∧
  (¬ r_1 = 0 →
  (rg x2 ∧ (x2 = 0 →
    ((0 ≤ x1 ∧ x1 < 301) ∧ Q (M 16 x1))) ∧
    (¬ x2 = 0 →
    (rg x2 ∧ (x2 = 1 →
      ((0 ≤ x1 ∧ x1 < 301) ∧ Q (M 19 x1))) ∧
      (¬ x2 = 1 →
      (rg x2 ∧ (x2 = 2 →
        ((0 ≤ x1 ∧ x1 < 301) ∧ Q (M 18 x1))) ∧
        (¬ x2 = 2 →
        Q (-1)))))))))))
set_option maxHeartbeats 4000000 in
set_option maxRecDepth 100000 in
theorem ctX9_piece {l : Launch} {z : gZ} (hZ : gZm z) {x1 : Int} {x2 : Int}  {M : gMem} {Q : Int → Prop} (h : fX9_piece x1 x2 M Q) : gMI l z mL yX9_piece wX9_piece rmX9_piece [(vr z 0), (vi x1), (vi x2)] M (fun r M' => M = M' ∧ Q r) := by
  refine g_metI .int (by decide) rfl rfl (gCat_all (And.intro rfl (And.intro rfl (And.intro rfl trivial)))) (Nat.le_of_ble_eq_true rfl) ?_
  intro y hC hR
  replace h : (fX9_isPiece x1 M (fun r_1 =>
  (rg r_1 ∧ (r_1 = 0 →
  Q (-1)) ∧
  (¬ r_1 = 0 →
  (rg x2 ∧ (x2 = 0 →
    ((0 ≤ x1 ∧ x1 < 301) ∧ Q (M 16 x1))) ∧
    (¬ x2 = 0 →
    (rg x2 ∧ (x2 = 1 →
      ((0 ≤ x1 ∧ x1 < 301) ∧ Q (M 19 x1))) ∧
      (¬ x2 = 1 →
      (rg x2 ∧ (x2 = 2 →
        ((0 ≤ x1 ∧ x1 < 301) ∧ Q (M 18 x1))) ∧
        (¬ x2 = 2 →
        Q (-1))))))))))) := h
  refine g_lc (lc' := [some (vr z 0), some (vi x1), some (vi x2)]) rfl ?_
  refine g_aload_n hC dX9_piece_0 rfl rfl ?_
  refine g_iload_n hC dX9_piece_1 rfl rfl ?_
  refine g_calli (g_runV (As := [(vi x1)]) (rest := []) hC rfl (ctX9_isPiece hZ  h) rfl (gm_k9 hZ) (kwX9_isPiece (by decide) (by decide)) rfl (wc wd_922) (wc wd_924) (wc wd_31) rfl (Nat.le_of_ble_eq_true rfl) rfl dX9_piece_2) (fun r_1 M_2 h => ?_)
  obtain ⟨rfl, h⟩ := h
  obtain ⟨hr_3, hA, hB⟩ := h
  refine g_ine hC 10 hr_3 dX9_piece_5 (by decide) (fun hc_4 => ?_) (fun hc_4 => ?_)
  · replace h := hA hc_4
    clear hA hB
    refine g_iconst hC dX9_piece_8 ?_
    exact g_iret hC hR dX9_piece_9 ⟨rfl, h⟩
  · replace h := hB hc_4
    clear hA hB
    refine g_iload_n hC dX9_piece_10 rfl rfl ?_
    obtain ⟨hr_5, hA, hB⟩ := h
    refine g_ine hC 23 hr_5 dX9_piece_11 (by decide) (fun hc_6 => ?_) (fun hc_6 => ?_)
    · replace h := hA hc_6
      clear hA hB
      refine g_aload_n hC dX9_piece_14 rfl rfl ?_
      refine g_getr (r := 16) hC rfl (gm_k9 hZ) iwX9 20 (by decide) rfl rfl (wc wd_708) dX9_piece_15 ?_
      refine g_iload_n hC dX9_piece_18 rfl rfl ?_
      obtain ⟨hb_7, h⟩ := h
      refine g_iald hC 0 rfl (m_t0 hZ) (by decide) hb_7 dX9_piece_19 ?_
      refine g_goto hC 52 dX9_piece_20 (by decide) ?_
      exact g_iret hC hR dX9_piece_52 ⟨rfl, h⟩
    · replace h := hB hc_6
      clear hA hB
      refine g_iload_n hC dX9_piece_23 rfl rfl ?_
      refine g_iconst hC dX9_piece_24 ?_
      obtain ⟨hr_8, hA, hB⟩ := h
      refine g_cne hC 37 hr_8 (by decide) dX9_piece_25 (by decide) (fun hc_9 => ?_) (fun hc_9 => ?_)
      · replace h := hA hc_9
        clear hA hB
        refine g_aload_n hC dX9_piece_28 rfl rfl ?_
        refine g_getr (r := 19) hC rfl (gm_k9 hZ) iwX9 23 (by decide) rfl rfl (wc wd_711) dX9_piece_29 ?_
        refine g_iload_n hC dX9_piece_32 rfl rfl ?_
        obtain ⟨hb_10, h⟩ := h
        refine g_iald hC 0 rfl (m_t0 hZ) (by decide) hb_10 dX9_piece_33 ?_
        refine g_goto hC 52 dX9_piece_34 (by decide) ?_
        exact g_iret hC hR dX9_piece_52 ⟨rfl, h⟩
      · replace h := hB hc_9
        clear hA hB
        refine g_iload_n hC dX9_piece_37 rfl rfl ?_
        refine g_iconst hC dX9_piece_38 ?_
        obtain ⟨hr_11, hA, hB⟩ := h
        refine g_cne hC 51 hr_11 (by decide) dX9_piece_39 (by decide) (fun hc_12 => ?_) (fun hc_12 => ?_)
        · replace h := hA hc_12
          clear hA hB
          refine g_aload_n hC dX9_piece_42 rfl rfl ?_
          refine g_getr (r := 18) hC rfl (gm_k9 hZ) iwX9 22 (by decide) rfl rfl (wc wd_710) dX9_piece_43 ?_
          refine g_iload_n hC dX9_piece_46 rfl rfl ?_
          obtain ⟨hb_13, h⟩ := h
          refine g_iald hC 0 rfl (m_t0 hZ) (by decide) hb_13 dX9_piece_47 ?_
          refine g_goto hC 52 dX9_piece_48 (by decide) ?_
          exact g_iret hC hR dX9_piece_52 ⟨rfl, h⟩
        · replace h := hB hc_12
          clear hA hB
          refine g_iconst hC dX9_piece_51 ?_
          exact g_iret hC hR dX9_piece_52 ⟨rfl, h⟩
abbrev wX9_count : List Cond := Cond.code yX9_count cX9_count 6 (some .int) :: gTs
abbrev rmX9_count : Room := { frames := 2, cells := 0, slots := 0, locals := 43 }
theorem kwX9_count {c0 : Cond} {rm : Room} (h1 : rmX9_count.frames + 1 ≤ rm.frames) (h2 : 8 + (6 + 11) + rmX9_count.locals ≤ rm.locals) : gCw (c0 :: gTs) rm yX9_count cX9_count 6 (some .int) wX9_count rmX9_count 1 := gCw_of wd_965 wd_49 h1 h2 (by decide +kernel)
def fX9_count_L4  (M : gMem) : Nat → Int → Int → (Int → Prop) → (Int → Prop) → Prop
  | 0, _, _, _, _ => False
  | n4 + 1, x2, x3, K26, Q =>
    (rg x3 ∧ (300 < x3 →
    K26 x2) ∧
    (¬ 300 < x3 →
    ((0 ≤ x3 ∧ x3 < 301) ∧ fX9_count_L4 M n4 (x2 + (M 16 x3)) (x3 + 1) K26 Q)))
set_option maxHeartbeats 4000000 in
set_option maxRecDepth 100000 in
theorem ctX9_count_L4 {y : gY} {z : gZ} {l : Launch} {x1 : Int} {M : gMem} {Q : Int → Prop} {K26 : Int → Prop} (hC : gC y z l cX9_count RX9 6 wX9_count rmX9_count) (hR : gRI y z mL .int (fun r M' => M = M' ∧ Q r)) (hZ : gZm z)  (hK26 : ∀ (x2 : Int), K26 x2 → gW y z mL 26 [some (vr z 0), some (vi x1), some (vi x2), none, none, none] [] M) :
    ∀ (n : Nat) (x2 : Int) (x3 : Int), fX9_count_L4 M n x2 x3 K26 Q → gW y z mL 4 [some (vr z 0), some (vi x1), some (vi x2), some (vi x3), none, none] [] M := by
  intro n
  induction n with
  | zero => intro x2 x3 h; exact False.elim h
  | succ n4 ih =>
    intro x2 x3 h
    replace h : (rg x3 ∧ (300 < x3 →
    K26 x2) ∧
    (¬ 300 < x3 →
    ((0 ≤ x3 ∧ x3 < 301) ∧ fX9_count_L4 M n4 (x2 + (M 16 x3)) (x3 + 1) K26 Q))) := h
    refine g_iload_n hC dX9_count_4 rfl rfl ?_
    refine g_sipush hC dX9_count_5 (by decide) ?_
    obtain ⟨hr_1, hA, hB⟩ := h
    refine g_cgt hC 26 hr_1 (by decide) dX9_count_8 (by decide) (fun hc_2 => ?_) (fun hc_2 => ?_)
    · replace h := hA hc_2
      clear hA hB
      exact g_subk (hK26 x2 h) (And.intro rfl (And.intro rfl (And.intro rfl trivial)))
    · replace h := hB hc_2
      clear hA hB
      refine g_iload_n hC dX9_count_11 rfl rfl ?_
      refine g_aload_n hC dX9_count_12 rfl rfl ?_
      refine g_getr (r := 16) hC rfl (gm_k9 hZ) iwX9 20 (by decide) rfl rfl (wc wd_708) dX9_count_13 ?_
      refine g_iload_n hC dX9_count_16 rfl rfl ?_
      obtain ⟨hb_3, h⟩ := h
      refine g_iald hC 0 rfl (m_t0 hZ) (by decide) hb_3 dX9_count_17 ?_
      refine g_iadd hC dX9_count_18 ?_
      refine g_istore_n2 (lc' := [some (vr z 0), some (vi x1), some (vi (x2 + (M 16 x3))), some (vi x3), none, none]) hC dX9_count_19 rfl (Nat.le_of_ble_eq_true rfl) rfl ?_
      refine g_iinc2 (lc' := [some (vr z 0), some (vi x1), some (vi (x2 + (M 16 x3))), some (vi (x3 + 1)), none, none]) hC dX9_count_20 rfl rfl ?_
      refine g_goto hC 4 dX9_count_23 (by decide) ?_
      exact g_subk (ih (x2 + (M 16 x3)) (x3 + 1) h) (And.intro rfl (And.intro rfl (And.intro rfl (And.intro rfl trivial))))
def fX9_count_L34  (M : gMem) : Nat → Int → Int → Int → (Int → Int → Prop) → (Int → Prop) → Prop
  | 0, _, _, _, _, _ => False
  | n34 + 1, x3, x4, x5, K73, Q =>
    (rg x5 ∧ (x5 < 8 →
    ((0 ≤ x5 ∧ x5 < 8) ∧ (rg ((M 20 x5) % 2) ∧ (((M 20 x5) % 2) = 0 →
      fX9_count_L34 M n34 x3 x4 (x5 + 1) K73 Q) ∧
      (¬ ((M 20 x5) % 2) = 0 →
      ((0 ≤ x5 ∧ x5 < 8) ∧ fX9_count_L34 M n34 (x3 + (M 21 x5)) (x4 + 1) (x5 + 1) K73 Q))))) ∧
    (¬ x5 < 8 →
    K73 x3 x4))
set_option maxHeartbeats 4000000 in
set_option maxRecDepth 100000 in
theorem ctX9_count_L34 {y : gY} {z : gZ} {l : Launch} {x1 : Int} {x2 : Int} {M : gMem} {Q : Int → Prop} {K73 : Int → Int → Prop} (hC : gC y z l cX9_count RX9 6 wX9_count rmX9_count) (hR : gRI y z mL .int (fun r M' => M = M' ∧ Q r)) (hZ : gZm z)  (hK73 : ∀ (x3 : Int) (x4 : Int), K73 x3 x4 → gW y z mL 73 [some (vr z 0), some (vi x1), some (vi x2), some (vi x3), some (vi x4), none] [] M) :
    ∀ (n : Nat) (x3 : Int) (x4 : Int) (x5 : Int), fX9_count_L34 M n x3 x4 x5 K73 Q → gW y z mL 34 [some (vr z 0), some (vi x1), some (vi x2), some (vi x3), some (vi x4), some (vi x5)] [] M := by
  intro n
  induction n with
  | zero => intro x3 x4 x5 h; exact False.elim h
  | succ n34 ih =>
    intro x3 x4 x5 h
    replace h : (rg x5 ∧ (x5 < 8 →
    ((0 ≤ x5 ∧ x5 < 8) ∧ (rg ((M 20 x5) % 2) ∧ (((M 20 x5) % 2) = 0 →
      fX9_count_L34 M n34 x3 x4 (x5 + 1) K73 Q) ∧
      (¬ ((M 20 x5) % 2) = 0 →
      ((0 ≤ x5 ∧ x5 < 8) ∧ fX9_count_L34 M n34 (x3 + (M 21 x5)) (x4 + 1) (x5 + 1) K73 Q))))) ∧
    (¬ x5 < 8 →
    K73 x3 x4)) := h
    refine g_iload hC dX9_count_34 rfl ?_
    refine g_bipush hC dX9_count_36 (by decide) ?_
    obtain ⟨hr_5, hA, hB⟩ := h
    refine g_cge hC 73 hr_5 (by decide) dX9_count_38 (by decide) (fun hc_6 => ?_) (fun hc_6 => ?_)
    · replace h := hA hc_6
      clear hA hB
      refine g_aload_n hC dX9_count_41 rfl rfl ?_
      refine g_getr (r := 20) hC rfl (gm_k9 hZ) iwX9 24 (by decide) rfl rfl (wc wd_712) dX9_count_42 ?_
      refine g_iload hC dX9_count_45 rfl ?_
      obtain ⟨hb_7, h⟩ := h
      refine g_zald hC 1 rfl (m_t2 hZ) (by decide) hb_7 dX9_count_47 ?_
      obtain ⟨hr_8, hA, hB⟩ := h
      refine g_ine hC 54 hr_8 dX9_count_48 (by decide) (fun hc_9 => ?_) (fun hc_9 => ?_)
      · replace h := hA hc_9
        clear hA hB
        refine g_goto hC 67 dX9_count_51 (by decide) ?_
        refine g_iinc2 (lc' := [some (vr z 0), some (vi x1), some (vi x2), some (vi x3), some (vi x4), some (vi (x5 + 1))]) hC dX9_count_67 rfl rfl ?_
        refine g_goto hC 34 dX9_count_70 (by decide) ?_
        exact g_subk (ih x3 x4 (x5 + 1) h) (And.intro rfl (And.intro rfl (And.intro rfl (And.intro rfl (And.intro rfl (And.intro rfl trivial))))))
      · replace h := hB hc_9
        clear hA hB
        refine g_iload_n hC dX9_count_54 rfl rfl ?_
        refine g_aload_n hC dX9_count_55 rfl rfl ?_
        refine g_getr (r := 21) hC rfl (gm_k9 hZ) iwX9 25 (by decide) rfl rfl (wc wd_713) dX9_count_56 ?_
        refine g_iload hC dX9_count_59 rfl ?_
        obtain ⟨hb_10, h⟩ := h
        refine g_iald hC 0 rfl (m_t0 hZ) (by decide) hb_10 dX9_count_61 ?_
        refine g_iadd hC dX9_count_62 ?_
        refine g_istore_n2 (lc' := [some (vr z 0), some (vi x1), some (vi x2), some (vi (x3 + (M 21 x5))), some (vi x4), some (vi x5)]) hC dX9_count_63 rfl (Nat.le_of_ble_eq_true rfl) rfl ?_
        refine g_iinc2 (lc' := [some (vr z 0), some (vi x1), some (vi x2), some (vi (x3 + (M 21 x5))), some (vi (x4 + 1)), some (vi x5)]) hC dX9_count_64 rfl rfl ?_
        refine g_iinc2 (lc' := [some (vr z 0), some (vi x1), some (vi x2), some (vi (x3 + (M 21 x5))), some (vi (x4 + 1)), some (vi (x5 + 1))]) hC dX9_count_67 rfl rfl ?_
        refine g_goto hC 34 dX9_count_70 (by decide) ?_
        exact g_subk (ih (x3 + (M 21 x5)) (x4 + 1) (x5 + 1) h) (And.intro rfl (And.intro rfl (And.intro rfl (And.intro rfl (And.intro rfl (And.intro rfl trivial))))))
    · replace h := hB hc_6
      clear hA hB
      exact g_subk (hK73 x3 x4 h) (And.intro rfl (And.intro rfl (And.intro rfl (And.intro rfl (And.intro rfl trivial)))))
def fX9_count (x1 : Int) (M : gMem) (Q : Int → Prop) : Prop :=
  ∃ n_19, fX9_count_L4 M n_19 0 1 (fun x2_4 =>
  ∃ n_18, fX9_count_L34 M n_18 0 0 0 (fun x3_11 x4_12 =>
    (rg x1 ∧ (x1 = 0 →
      (fX9_there M (fun r_14 =>
        Q r_14))) ∧
(x1 = 1 →
      Q x2_4) ∧
(x1 = 2 →
      Q x3_11) ∧
(x1 = 3 →
      (fX9_there M (fun r_16 =>
        Q ((x2_4 + ((M 0 14) * r_16)) + ((M 0 15) * x3_11))))) ∧
(x1 = 4 →
      Q (M 0 27)) ∧
(x1 = 5 →
      Q x4_12) ∧
((x1 < 0 ∨ 5 < x1) →
      Q (-1)))) Q) Q
set_option maxHeartbeats 4000000 in
set_option maxRecDepth 100000 in
theorem ctX9_count {l : Launch} {z : gZ} (hZ : gZm z) {x1 : Int}  {M : gMem} {Q : Int → Prop} (h : fX9_count x1 M Q) : gMI l z mL yX9_count wX9_count rmX9_count [(vr z 0), (vi x1)] M (fun r M' => M = M' ∧ Q r) := by
  refine g_metI .int (by decide) rfl rfl (gCat_all (And.intro rfl (And.intro rfl trivial))) (Nat.le_of_ble_eq_true rfl) ?_
  intro y hC hR
  replace h : ∃ n_19, fX9_count_L4 M n_19 0 1 (fun x2_4 =>
  ∃ n_18, fX9_count_L34 M n_18 0 0 0 (fun x3_11 x4_12 =>
    (rg x1 ∧ (x1 = 0 →
      (fX9_there M (fun r_14 =>
        Q r_14))) ∧
(x1 = 1 →
      Q x2_4) ∧
(x1 = 2 →
      Q x3_11) ∧
(x1 = 3 →
      (fX9_there M (fun r_16 =>
        Q ((x2_4 + ((M 0 14) * r_16)) + ((M 0 15) * x3_11))))) ∧
(x1 = 4 →
      Q (M 0 27)) ∧
(x1 = 5 →
      Q x4_12) ∧
((x1 < 0 ∨ 5 < x1) →
      Q (-1)))) Q) Q := h
  refine g_lc (lc' := [some (vr z 0), some (vi x1), none, none, none, none]) rfl ?_
  refine g_iconst hC dX9_count_0 ?_
  refine g_istore_n2 (lc' := [some (vr z 0), some (vi x1), some (vi 0), none, none, none]) hC dX9_count_1 rfl (Nat.le_of_ble_eq_true rfl) rfl ?_
  refine g_iconst hC dX9_count_2 ?_
  refine g_istore_n2 (lc' := [some (vr z 0), some (vi x1), some (vi 0), some (vi 1), none, none]) hC dX9_count_3 rfl (Nat.le_of_ble_eq_true rfl) rfl ?_
  obtain ⟨n_19, h⟩ := h
  refine g_subk (ctX9_count_L4 hC hR hZ ?_ n_19 0 1 h) (And.intro rfl (And.intro rfl (And.intro rfl (And.intro rfl trivial))))
  intro x2_4 h
  refine g_iconst hC dX9_count_26 ?_
  refine g_istore_n2 (lc' := [some (vr z 0), some (vi x1), some (vi x2_4), some (vi 0), none, none]) hC dX9_count_27 rfl (Nat.le_of_ble_eq_true rfl) rfl ?_
  refine g_iconst hC dX9_count_28 ?_
  refine g_istore2 (lc' := [some (vr z 0), some (vi x1), some (vi x2_4), some (vi 0), some (vi 0), none]) hC dX9_count_29 (Nat.le_of_ble_eq_true rfl) rfl ?_
  refine g_iconst hC dX9_count_31 ?_
  refine g_istore2 (lc' := [some (vr z 0), some (vi x1), some (vi x2_4), some (vi 0), some (vi 0), some (vi 0)]) hC dX9_count_32 (Nat.le_of_ble_eq_true rfl) rfl ?_
  obtain ⟨n_18, h⟩ := h
  refine g_subk (ctX9_count_L34 hC hR hZ ?_ n_18 0 0 0 h) (And.intro rfl (And.intro rfl (And.intro rfl (And.intro rfl (And.intro rfl (And.intro rfl trivial))))))
  intro x3_11 x4_12 h
  refine g_iload_n hC dX9_count_73 rfl rfl ?_
  obtain ⟨hr_13, hs0, hs1, hs2, hs3, hs4, hs5, hD⟩ := h
  have hq : (x1 < 0 ∨ 5 < x1) ∨ x1 = 0 ∨ x1 = 1 ∨ x1 = 2 ∨ x1 = 3 ∨ x1 = 4 ∨ x1 = 5 := by omega
  rcases hq with hq | hq | hq | hq | hq | hq | hq
  · have h := hD hq
    refine g_tswOut hC 148 hr_13 dX9_count_74 hq (by decide) ?_
    refine g_iconst hC dX9_count_148 ?_
    exact g_iret hC hR dX9_count_149 ⟨rfl, h⟩
  · have h := hs0 hq
    refine g_tswIn (off := 38) hC 112 hr_13 dX9_count_74 (by omega) (by omega) (by rw [hq]; rfl) (by decide) ?_
    refine g_aload_n hC dX9_count_112 rfl rfl ?_
    refine g_calli (g_runV (As := []) (rest := []) hC rfl (ctX9_there hZ  h) rfl (gm_k9 hZ) (kwX9_there (by decide) (by decide)) rfl (wc wd_930) (wc wd_932) (wc wd_33) rfl (Nat.le_of_ble_eq_true rfl) rfl dX9_count_113) (fun r_14 M_15 h => ?_)
    obtain ⟨rfl, h⟩ := h
    exact g_iret hC hR dX9_count_116 ⟨rfl, h⟩
  · have h := hs1 hq
    refine g_tswIn (off := 43) hC 117 hr_13 dX9_count_74 (by omega) (by omega) (by rw [hq]; rfl) (by decide) ?_
    refine g_iload_n hC dX9_count_117 rfl rfl ?_
    exact g_iret hC hR dX9_count_118 ⟨rfl, h⟩
  · have h := hs2 hq
    refine g_tswIn (off := 45) hC 119 hr_13 dX9_count_74 (by omega) (by omega) (by rw [hq]; rfl) (by decide) ?_
    refine g_iload_n hC dX9_count_119 rfl rfl ?_
    exact g_iret hC hR dX9_count_120 ⟨rfl, h⟩
  · have h := hs3 hq
    refine g_tswIn (off := 47) hC 121 hr_13 dX9_count_74 (by omega) (by omega) (by rw [hq]; rfl) (by decide) ?_
    refine g_iload_n hC dX9_count_121 rfl rfl ?_
    refine g_aload_n hC dX9_count_122 rfl rfl ?_
    refine g_geti (ji := 14) hC rfl (gm_k9 hZ) iwX9 14 (by decide) rfl rfl (wc wd_702) dX9_count_123 rfl ?_
    refine g_aload_n hC dX9_count_126 rfl rfl ?_
    refine g_calli (g_runV (As := []) (rest := [(vi (M 0 14)), (vi x2_4)]) hC rfl (ctX9_there hZ  h) rfl (gm_k9 hZ) (kwX9_there (by decide) (by decide)) rfl (wc wd_930) (wc wd_932) (wc wd_33) rfl (Nat.le_of_ble_eq_true rfl) rfl dX9_count_127) (fun r_16 M_17 h => ?_)
    obtain ⟨rfl, h⟩ := h
    refine g_imul hC dX9_count_130 ?_
    refine g_iadd hC dX9_count_131 ?_
    refine g_aload_n hC dX9_count_132 rfl rfl ?_
    refine g_geti (ji := 15) hC rfl (gm_k9 hZ) iwX9 15 (by decide) rfl rfl (wc wd_703) dX9_count_133 rfl ?_
    refine g_iload_n hC dX9_count_136 rfl rfl ?_
    refine g_imul hC dX9_count_137 ?_
    refine g_iadd hC dX9_count_138 ?_
    exact g_iret hC hR dX9_count_139 ⟨rfl, h⟩
  · have h := hs4 hq
    refine g_tswIn (off := 66) hC 140 hr_13 dX9_count_74 (by omega) (by omega) (by rw [hq]; rfl) (by decide) ?_
    refine g_aload_n hC dX9_count_140 rfl rfl ?_
    refine g_geti (ji := 27) hC rfl (gm_k9 hZ) iwX9 27 (by decide) rfl rfl (wc wd_715) dX9_count_141 rfl ?_
    exact g_iret hC hR dX9_count_144 ⟨rfl, h⟩
  · have h := hs5 hq
    refine g_tswIn (off := 71) hC 145 hr_13 dX9_count_74 (by omega) (by omega) (by rw [hq]; rfl) (by decide) ?_
    refine g_iload hC dX9_count_145 rfl ?_
    exact g_iret hC hR dX9_count_147 ⟨rfl, h⟩
abbrev wX9_prices : List Cond := Cond.code yX9_prices cX9_prices 3 (some .boolean) :: gTs
abbrev rmX9_prices : Room := { frames := 1, cells := 0, slots := 0, locals := 22 }
theorem kwX9_prices {c0 : Cond} {rm : Room} (h1 : rmX9_prices.frames + 1 ≤ rm.frames) (h2 : 8 + (3 + 11) + rmX9_prices.locals ≤ rm.locals) : gCw (c0 :: gTs) rm yX9_prices cX9_prices 3 (some .boolean) wX9_prices rmX9_prices 2 := gCw_of wd_969 wd_49 h1 h2 (by decide +kernel)
def fX9_prices (x1 : Int) (x2 : Int) (M : gMem) (Q : Int → gMem → Prop) : Prop :=
  (fX9_isIn x1 0 100 M (fun r_1 =>
  (rg r_1 ∧ (r_1 = 0 →
  Q 0 M) ∧
  (¬ r_1 = 0 →
  (fX9_isIn x2 0 100 M (fun r_5 =>
    (rg r_5 ∧ (r_5 = 0 →
    Q 0 M) ∧
    (¬ r_5 = 0 →
    (∀ M_9, M_9 = gSt M 0 14 x1 → (∀ M_10, M_10 = gSt M_9 0 15 x2 → Q 1 M_10))))))))))
set_option maxHeartbeats 4000000 in
set_option maxRecDepth 100000 in
theorem ctX9_prices {l : Launch} {z : gZ} (hZ : gZm z) {x1 : Int} {x2 : Int}  {M : gMem} {Q : Int → gMem → Prop} (h : fX9_prices x1 x2 M Q) : gMI l z mL yX9_prices wX9_prices rmX9_prices [(vr z 0), (vi x1), (vi x2)] M Q := by
  refine g_metI .boolean (by decide) rfl rfl (gCat_all (And.intro rfl (And.intro rfl (And.intro rfl trivial)))) (Nat.le_of_ble_eq_true rfl) ?_
  intro y hC hR
  replace h : (fX9_isIn x1 0 100 M (fun r_1 =>
  (rg r_1 ∧ (r_1 = 0 →
  Q 0 M) ∧
  (¬ r_1 = 0 →
  (fX9_isIn x2 0 100 M (fun r_5 =>
    (rg r_5 ∧ (r_5 = 0 →
    Q 0 M) ∧
    (¬ r_5 = 0 →
    (∀ M_9, M_9 = gSt M 0 14 x1 → (∀ M_10, M_10 = gSt M_9 0 15 x2 → Q 1 M_10)))))))))) := h
  refine g_lc (lc' := [some (vr z 0), some (vi x1), some (vi x2)]) rfl ?_
  refine g_iload_n hC dX9_prices_0 rfl rfl ?_
  refine g_iconst hC dX9_prices_1 ?_
  refine g_bipush hC dX9_prices_2 (by decide) ?_
  refine g_calli (g_runS (As := [(vi x1), (vi 0), (vi 100)]) (rest := []) hC rfl (ctX9_isIn hZ  h) (kwX9_isIn (by decide) (by decide)) (wc wd_820) (wc wd_821) rfl (Nat.le_of_ble_eq_true rfl) rfl dX9_prices_4) (fun r_1 M_2 h => ?_)
  obtain ⟨rfl, h⟩ := h
  obtain ⟨hr_3, hA, hB⟩ := h
  refine g_ieq hC 20 hr_3 dX9_prices_7 (by decide) (fun hc_4 => ?_) (fun hc_4 => ?_)
  · replace h := hA hc_4
    clear hA hB
    refine g_iconst hC dX9_prices_20 ?_
    exact g_zret hC hR (by decide) dX9_prices_21 h
  · replace h := hB hc_4
    clear hA hB
    refine g_iload_n hC dX9_prices_10 rfl rfl ?_
    refine g_iconst hC dX9_prices_11 ?_
    refine g_bipush hC dX9_prices_12 (by decide) ?_
    refine g_calli (g_runS (As := [(vi x2), (vi 0), (vi 100)]) (rest := []) hC rfl (ctX9_isIn hZ  h) (kwX9_isIn (by decide) (by decide)) (wc wd_820) (wc wd_821) rfl (Nat.le_of_ble_eq_true rfl) rfl dX9_prices_14) (fun r_5 M_6 h => ?_)
    obtain ⟨rfl, h⟩ := h
    obtain ⟨hr_7, hA, hB⟩ := h
    refine g_ine hC 22 hr_7 dX9_prices_17 (by decide) (fun hc_8 => ?_) (fun hc_8 => ?_)
    · replace h := hA hc_8
      clear hA hB
      refine g_iconst hC dX9_prices_20 ?_
      exact g_zret hC hR (by decide) dX9_prices_21 h
    · replace h := hB hc_8
      clear hA hB
      refine g_aload_n hC dX9_prices_22 rfl rfl ?_
      refine g_iload_n hC dX9_prices_23 rfl rfl ?_
      obtain ⟨M_9, hM_9⟩ : ∃ M9, M9 = gSt M 0 14 x1 := ⟨_, rfl⟩
      replace h := h M_9 hM_9
      refine g_puti (ji := 14) hC rfl (gm_k9 hZ) iwX9 tyX9_ok nmX9 14 (by decide) rfl rfl (wc wd_702) rfl rfl dX9_prices_24 rfl hM_9 ?_
      refine g_aload_n hC dX9_prices_27 rfl rfl ?_
      refine g_iload_n hC dX9_prices_28 rfl rfl ?_
      obtain ⟨M_10, hM_10⟩ : ∃ M9, M9 = gSt M_9 0 15 x2 := ⟨_, rfl⟩
      replace h := h M_10 hM_10
      refine g_puti (ji := 15) hC rfl (gm_k9 hZ) iwX9 tyX9_ok nmX9 15 (by decide) rfl rfl (wc wd_703) rfl rfl dX9_prices_29 rfl hM_10 ?_
      refine g_iconst hC dX9_prices_32 ?_
      exact g_zret hC hR (by decide) dX9_prices_33 h
abbrev wX9_pairAt : List Cond := Cond.code yX9_pairAt cX9_pairAt 2 (some .int) :: gTs
abbrev rmX9_pairAt : Room := { frames := 0, cells := 0, slots := 0, locals := 0 }
theorem kwX9_pairAt {c0 : Cond} {rm : Room} (h1 : rmX9_pairAt.frames + 1 ≤ rm.frames) (h2 : 8 + (2 + 11) + rmX9_pairAt.locals ≤ rm.locals) : gCw (c0 :: gTs) rm yX9_pairAt cX9_pairAt 2 (some .int) wX9_pairAt rmX9_pairAt 2 := gCw_of wd_980 wd_49 h1 h2 (by decide +kernel)
def fX9_pairAt (x0 : Int) (x1 : Int) (M : gMem) (Q : Int → Prop) : Prop :=
  Q ((512 * x0) + x1)
set_option maxHeartbeats 4000000 in
set_option maxRecDepth 100000 in
theorem ctX9_pairAt {l : Launch} {z : gZ} (hZ : gZm z) {x0 : Int} {x1 : Int}  {M : gMem} {Q : Int → Prop} (h : fX9_pairAt x0 x1 M Q) : gMI l z mL yX9_pairAt wX9_pairAt rmX9_pairAt [(vi x0), (vi x1)] M (fun r M' => M = M' ∧ Q r) := by
  refine g_metI .int (by decide) rfl rfl (gCat_all (And.intro rfl (And.intro rfl trivial))) (Nat.le_of_ble_eq_true rfl) ?_
  intro y hC hR
  replace h : Q ((512 * x0) + x1) := h
  refine g_lc (lc' := [some (vi x0), some (vi x1)]) rfl ?_
  refine g_sipush hC dX9_pairAt_0 (by decide) ?_
  refine g_iload_n hC dX9_pairAt_3 rfl rfl ?_
  refine g_imul hC dX9_pairAt_4 ?_
  refine g_iload_n hC dX9_pairAt_5 rfl rfl ?_
  refine g_iadd hC dX9_pairAt_6 ?_
  exact g_iret hC hR dX9_pairAt_7 ⟨rfl, h⟩
abbrev wX9_mostOften : List Cond := Cond.code yX9_mostOften cX9_mostOften 6 (some .int) :: gTs
abbrev rmX9_mostOften : Room := { frames := 1, cells := 0, slots := 0, locals := 21 }
theorem kwX9_mostOften {c0 : Cond} {rm : Room} (h1 : rmX9_mostOften.frames + 1 ≤ rm.frames) (h2 : 8 + (6 + 11) + rmX9_mostOften.locals ≤ rm.locals) : gCw (c0 :: gTs) rm yX9_mostOften cX9_mostOften 6 (some .int) wX9_mostOften rmX9_mostOften 0 := gCw_of wd_977 wd_49 h1 h2 (by decide +kernel)
def fX9_mostOften_L15  (x3 : Int) : Nat → Int → gMem → (gMem → Prop) → (Int → gMem → Prop) → Prop
  | 0, _, _, _, _ => False
  | n15 + 1, x4, M, K71, Q =>
    ((0 ≤ x3 ∧ x3 < 8) ∧ (rg (x4 + 1) ∧ rg (M 25 x3) ∧ ((x4 + 1) < (M 25 x3) →
    ((0 ≤ x4 ∧ x4 < 4800) ∧ ((0 ≤ (x4 + 1) ∧ (x4 + 1) < 4800) ∧ (fX9_pairAt (M 24 x4) (M 24 (x4 + 1)) M (fun r_9 =>
      ((0 ≤ r_9 ∧ r_9 < 262144) ∧ ∀ M_12, M_12 = gSt M 26 r_9 0 → ((0 ≤ r_9 ∧ r_9 < 262144) ∧ ∀ M_14, M_14 = gSt M_12 27 r_9 (-1) → fX9_mostOften_L15 x3 n15 (x4 + 1) M_14 K71 Q))))))) ∧
    (¬ (x4 + 1) < (M 25 x3) →
    K71 M)))
set_option maxHeartbeats 4000000 in
set_option maxRecDepth 100000 in
theorem ctX9_mostOften_L15 {y : gY} {z : gZ} {l : Launch} {x1 : Int} {x3 : Int} {Q : Int → gMem → Prop} {K71 : gMem → Prop} (hC : gC y z l cX9_mostOften RX9 6 wX9_mostOften rmX9_mostOften) (hR : gRI y z mL .int Q) (hZ : gZm z)  (hK71 : ∀ (M : gMem), K71 M → gW y z mL 71 [some (vr z 0), some (vi x1), none, some (vi x3), none, none] [] M) :
    ∀ (n : Nat) (x4 : Int) (M : gMem), fX9_mostOften_L15 x3 n x4 M K71 Q → gW y z mL 15 [some (vr z 0), some (vi x1), none, some (vi x3), some (vi x4), none] [] M := by
  intro n
  induction n with
  | zero => intro x4 M h; exact False.elim h
  | succ n15 ih =>
    intro x4 M h
    replace h : ((0 ≤ x3 ∧ x3 < 8) ∧ (rg (x4 + 1) ∧ rg (M 25 x3) ∧ ((x4 + 1) < (M 25 x3) →
    ((0 ≤ x4 ∧ x4 < 4800) ∧ ((0 ≤ (x4 + 1) ∧ (x4 + 1) < 4800) ∧ (fX9_pairAt (M 24 x4) (M 24 (x4 + 1)) M (fun r_9 =>
      ((0 ≤ r_9 ∧ r_9 < 262144) ∧ ∀ M_12, M_12 = gSt M 26 r_9 0 → ((0 ≤ r_9 ∧ r_9 < 262144) ∧ ∀ M_14, M_14 = gSt M_12 27 r_9 (-1) → fX9_mostOften_L15 x3 n15 (x4 + 1) M_14 K71 Q))))))) ∧
    (¬ (x4 + 1) < (M 25 x3) →
    K71 M))) := h
    refine g_iload hC dX9_mostOften_15 rfl ?_
    refine g_iconst hC dX9_mostOften_17 ?_
    refine g_iadd hC dX9_mostOften_18 ?_
    refine g_aload_n hC dX9_mostOften_19 rfl rfl ?_
    refine g_getr (r := 25) hC rfl (gm_k9 hZ) iwX9 30 (by decide) rfl rfl (wc wd_718) dX9_mostOften_20 ?_
    refine g_iload_n hC dX9_mostOften_23 rfl rfl ?_
    obtain ⟨hb_3, h⟩ := h
    refine g_iald hC 0 rfl (m_t0 hZ) (by decide) hb_3 dX9_mostOften_24 ?_
    obtain ⟨hr_4, hr_5, hA, hB⟩ := h
    refine g_cge hC 71 hr_4 hr_5 dX9_mostOften_25 (by decide) (fun hc_6 => ?_) (fun hc_6 => ?_)
    · replace h := hA hc_6
      clear hA hB
      refine g_aload_n hC dX9_mostOften_28 rfl rfl ?_
      refine g_getr (r := 24) hC rfl (gm_k9 hZ) iwX9 29 (by decide) rfl rfl (wc wd_717) dX9_mostOften_29 ?_
      refine g_iload hC dX9_mostOften_32 rfl ?_
      obtain ⟨hb_7, h⟩ := h
      refine g_iald hC 0 rfl (m_t0 hZ) (by decide) hb_7 dX9_mostOften_34 ?_
      refine g_aload_n hC dX9_mostOften_35 rfl rfl ?_
      refine g_getr (r := 24) hC rfl (gm_k9 hZ) iwX9 29 (by decide) rfl rfl (wc wd_717) dX9_mostOften_36 ?_
      refine g_iload hC dX9_mostOften_39 rfl ?_
      refine g_iconst hC dX9_mostOften_41 ?_
      refine g_iadd hC dX9_mostOften_42 ?_
      obtain ⟨hb_8, h⟩ := h
      refine g_iald hC 0 rfl (m_t0 hZ) (by decide) hb_8 dX9_mostOften_43 ?_
      refine g_calli (g_runS (As := [(vi (M 24 x4)), (vi (M 24 (x4 + 1)))]) (rest := []) hC rfl (ctX9_pairAt hZ  h) (kwX9_pairAt (by decide) (by decide)) (wc wd_978) (wc wd_979) rfl (Nat.le_of_ble_eq_true rfl) rfl dX9_mostOften_44) (fun r_9 M_10 h => ?_)
      obtain ⟨rfl, h⟩ := h
      refine g_istore2 (lc' := [some (vr z 0), some (vi x1), none, some (vi x3), some (vi x4), some (vi r_9)]) hC dX9_mostOften_47 (Nat.le_of_ble_eq_true rfl) rfl ?_
      refine g_aload_n hC dX9_mostOften_49 rfl rfl ?_
      refine g_getr (r := 26) hC rfl (gm_k9 hZ) iwX9 31 (by decide) rfl rfl (wc wd_719) dX9_mostOften_50 ?_
      refine g_iload hC dX9_mostOften_53 rfl ?_
      refine g_iconst hC dX9_mostOften_55 ?_
      obtain ⟨hb_11, h⟩ := h
      obtain ⟨M_12, hM_12⟩ : ∃ M9, M9 = gSt M 26 r_9 0 := ⟨_, rfl⟩
      replace h := h M_12 hM_12
      refine g_iast hC 0 rfl (m_t0 hZ) (by decide) hb_11 dX9_mostOften_56 hM_12 ?_
      refine g_aload_n hC dX9_mostOften_57 rfl rfl ?_
      refine g_getr (r := 27) hC rfl (gm_k9 hZ) iwX9 32 (by decide) rfl rfl (wc wd_720) dX9_mostOften_58 ?_
      refine g_iload hC dX9_mostOften_61 rfl ?_
      refine g_iconst hC dX9_mostOften_63 ?_
      obtain ⟨hb_13, h⟩ := h
      obtain ⟨M_14, hM_14⟩ : ∃ M9, M9 = gSt M_12 27 r_9 (-1) := ⟨_, rfl⟩
      replace h := h M_14 hM_14
      refine g_iast hC 0 rfl (m_t0 hZ) (by decide) hb_13 dX9_mostOften_64 hM_14 ?_
      refine g_iinc2 (lc' := [some (vr z 0), some (vi x1), none, some (vi x3), some (vi (x4 + 1)), some (vi r_9)]) hC dX9_mostOften_65 rfl rfl ?_
      refine g_goto hC 15 dX9_mostOften_68 (by decide) ?_
      exact g_subk (ih (x4 + 1) M_14 h) (And.intro rfl (And.intro rfl (And.intro rfl (And.intro rfl trivial))))
    · replace h := hB hc_6
      clear hA hB
      exact g_subk (hK71 M h) (And.intro rfl (And.intro rfl (And.intro rfl trivial)))
def fX9_mostOften_L6  : Nat → Int → Int → gMem → (gMem → Prop) → (Int → gMem → Prop) → Prop
  | 0, _, _, _, _, _ => False
  | n6 + 1, x2, x3, M, K84, Q =>
    (rg x3 ∧ (x3 < 8 →
    ∃ n_17, fX9_mostOften_L15 x3 n_17 x2 M (fun M_15 =>
      ((0 ≤ x3 ∧ x3 < 8) ∧ fX9_mostOften_L6 n6 (M_15 25 x3) (x3 + 1) M_15 K84 Q)) Q) ∧
    (¬ x3 < 8 →
    K84 M))
set_option maxHeartbeats 4000000 in
set_option maxRecDepth 100000 in
theorem ctX9_mostOften_L6 {y : gY} {z : gZ} {l : Launch} {x1 : Int} {Q : Int → gMem → Prop} {K84 : gMem → Prop} (hC : gC y z l cX9_mostOften RX9 6 wX9_mostOften rmX9_mostOften) (hR : gRI y z mL .int Q) (hZ : gZm z)  (hK84 : ∀ (M : gMem), K84 M → gW y z mL 84 [some (vr z 0), some (vi x1), none, none, none, none] [] M) :
    ∀ (n : Nat) (x2 : Int) (x3 : Int) (M : gMem), fX9_mostOften_L6 n x2 x3 M K84 Q → gW y z mL 6 [some (vr z 0), some (vi x1), some (vi x2), some (vi x3), none, none] [] M := by
  intro n
  induction n with
  | zero => intro x2 x3 M h; exact False.elim h
  | succ n6 ih =>
    intro x2 x3 M h
    replace h : (rg x3 ∧ (x3 < 8 →
    ∃ n_17, fX9_mostOften_L15 x3 n_17 x2 M (fun M_15 =>
      ((0 ≤ x3 ∧ x3 < 8) ∧ fX9_mostOften_L6 n6 (M_15 25 x3) (x3 + 1) M_15 K84 Q)) Q) ∧
    (¬ x3 < 8 →
    K84 M)) := h
    refine g_iload_n hC dX9_mostOften_6 rfl rfl ?_
    refine g_bipush hC dX9_mostOften_7 (by decide) ?_
    obtain ⟨hr_1, hA, hB⟩ := h
    refine g_cge hC 84 hr_1 (by decide) dX9_mostOften_9 (by decide) (fun hc_2 => ?_) (fun hc_2 => ?_)
    · replace h := hA hc_2
      clear hA hB
      refine g_iload_n hC dX9_mostOften_12 rfl rfl ?_
      refine g_istore2 (lc' := [some (vr z 0), some (vi x1), some (vi x2), some (vi x3), some (vi x2), none]) hC dX9_mostOften_13 (Nat.le_of_ble_eq_true rfl) rfl ?_
      obtain ⟨n_17, h⟩ := h
      refine g_subk (ctX9_mostOften_L15 hC hR hZ ?_ n_17 x2 M h) (And.intro rfl (And.intro rfl (And.intro rfl (And.intro rfl trivial))))
      intro M_15 h
      refine g_aload_n hC dX9_mostOften_71 rfl rfl ?_
      refine g_getr (r := 25) hC rfl (gm_k9 hZ) iwX9 30 (by decide) rfl rfl (wc wd_718) dX9_mostOften_72 ?_
      refine g_iload_n hC dX9_mostOften_75 rfl rfl ?_
      obtain ⟨hb_16, h⟩ := h
      refine g_iald hC 0 rfl (m_t0 hZ) (by decide) hb_16 dX9_mostOften_76 ?_
      refine g_istore_n2 (lc' := [some (vr z 0), some (vi x1), some (vi (M_15 25 x3)), some (vi x3), none, none]) hC dX9_mostOften_77 rfl (Nat.le_of_ble_eq_true rfl) rfl ?_
      refine g_iinc2 (lc' := [some (vr z 0), some (vi x1), some (vi (M_15 25 x3)), some (vi (x3 + 1)), none, none]) hC dX9_mostOften_78 rfl rfl ?_
      refine g_goto hC 6 dX9_mostOften_81 (by decide) ?_
      exact g_subk (ih (M_15 25 x3) (x3 + 1) M_15 h) (And.intro rfl (And.intro rfl (And.intro rfl (And.intro rfl trivial))))
    · replace h := hB hc_2
      clear hA hB
      exact g_subk (hK84 M h) (And.intro rfl (And.intro rfl trivial))
def fX9_mostOften_J159  (x3 : Int) (x1 : Int) (x4 : Int) (x5 : Int) (M : gMem) (K97 : Int → Int → gMem → Prop) (Q : Int → gMem → Prop) : Prop :=
  ((0 ≤ x5 ∧ x5 < 262144) ∧ ∀ M_33, M_33 = gSt M 27 x5 x4 → ((0 ≤ x5 ∧ x5 < 262144) ∧ ((0 ≤ x5 ∧ x5 < 262144) ∧ ∀ M_36, M_36 = gSt M_33 26 x5 ((M_33 26 x5) + 1) → ((0 ≤ x5 ∧ x5 < 262144) ∧ (rg (M_36 26 x5) ∧ (1 < (M_36 26 x5) →
  (rg x1 ∧ (x1 = (-1) →
    K97 x5 (x4 + 1) M_36) ∧
    (¬ x1 = (-1) →
    ((0 ≤ x5 ∧ x5 < 262144) ∧ ((0 ≤ x1 ∧ x1 < 262144) ∧ (rg (M_36 26 x5) ∧ rg (M_36 26 x1) ∧ ((M_36 26 x1) < (M_36 26 x5) →
      K97 x5 (x4 + 1) M_36) ∧
      (¬ (M_36 26 x1) < (M_36 26 x5) →
      ((0 ≤ x5 ∧ x5 < 262144) ∧ ((0 ≤ x1 ∧ x1 < 262144) ∧ (rg (M_36 26 x5) ∧ rg (M_36 26 x1) ∧ ((M_36 26 x5) = (M_36 26 x1) →
        (rg x5 ∧ rg x1 ∧ (x5 < x1 →
          K97 x5 (x4 + 1) M_36) ∧
          (¬ x5 < x1 →
          K97 x1 (x4 + 1) M_36))) ∧
        (¬ (M_36 26 x5) = (M_36 26 x1) →
        K97 x1 (x4 + 1) M_36))))))))))) ∧
  (¬ 1 < (M_36 26 x5) →
  K97 x1 (x4 + 1) M_36))))))
set_option maxHeartbeats 4000000 in
set_option maxRecDepth 100000 in
theorem ctX9_mostOften_J159 {y : gY} {z : gZ} {l : Launch}  {x3 : Int} {Q : Int → gMem → Prop} {K97 : Int → Int → gMem → Prop} (hC : gC y z l cX9_mostOften RX9 6 wX9_mostOften rmX9_mostOften) (hR : gRI y z mL .int Q) (hZ : gZm z)  (hK97 : ∀ (x1 : Int) (x4 : Int) (M : gMem), K97 x1 x4 M → gW y z mL 97 [some (vr z 0), some (vi x1), none, some (vi x3), some (vi x4), none] [] M) :
    ∀ (x1 : Int) (x4 : Int) (x5 : Int) (M : gMem), fX9_mostOften_J159 x3 x1 x4 x5 M K97 Q → gW y z mL 159 [some (vr z 0), some (vi x1), none, some (vi x3), some (vi x4), some (vi x5)] [] M := by
  intro x1 x4 x5 M h
  replace h : ((0 ≤ x5 ∧ x5 < 262144) ∧ ∀ M_33, M_33 = gSt M 27 x5 x4 → ((0 ≤ x5 ∧ x5 < 262144) ∧ ((0 ≤ x5 ∧ x5 < 262144) ∧ ∀ M_36, M_36 = gSt M_33 26 x5 ((M_33 26 x5) + 1) → ((0 ≤ x5 ∧ x5 < 262144) ∧ (rg (M_36 26 x5) ∧ (1 < (M_36 26 x5) →
  (rg x1 ∧ (x1 = (-1) →
    K97 x5 (x4 + 1) M_36) ∧
    (¬ x1 = (-1) →
    ((0 ≤ x5 ∧ x5 < 262144) ∧ ((0 ≤ x1 ∧ x1 < 262144) ∧ (rg (M_36 26 x5) ∧ rg (M_36 26 x1) ∧ ((M_36 26 x1) < (M_36 26 x5) →
      K97 x5 (x4 + 1) M_36) ∧
      (¬ (M_36 26 x1) < (M_36 26 x5) →
      ((0 ≤ x5 ∧ x5 < 262144) ∧ ((0 ≤ x1 ∧ x1 < 262144) ∧ (rg (M_36 26 x5) ∧ rg (M_36 26 x1) ∧ ((M_36 26 x5) = (M_36 26 x1) →
        (rg x5 ∧ rg x1 ∧ (x5 < x1 →
          K97 x5 (x4 + 1) M_36) ∧
          (¬ x5 < x1 →
          K97 x1 (x4 + 1) M_36))) ∧
        (¬ (M_36 26 x5) = (M_36 26 x1) →
        K97 x1 (x4 + 1) M_36))))))))))) ∧
  (¬ 1 < (M_36 26 x5) →
  K97 x1 (x4 + 1) M_36)))))) := h
  refine g_aload_n hC dX9_mostOften_159 rfl rfl ?_
  refine g_getr (r := 27) hC rfl (gm_k9 hZ) iwX9 32 (by decide) rfl rfl (wc wd_720) dX9_mostOften_160 ?_
  refine g_iload hC dX9_mostOften_163 rfl ?_
  refine g_iload hC dX9_mostOften_165 rfl ?_
  obtain ⟨hb_32, h⟩ := h
  obtain ⟨M_33, hM_33⟩ : ∃ M9, M9 = gSt M 27 x5 x4 := ⟨_, rfl⟩
  replace h := h M_33 hM_33
  refine g_iast hC 0 rfl (m_t0 hZ) (by decide) hb_32 dX9_mostOften_167 hM_33 ?_
  refine g_aload_n hC dX9_mostOften_168 rfl rfl ?_
  refine g_getr (r := 26) hC rfl (gm_k9 hZ) iwX9 31 (by decide) rfl rfl (wc wd_719) dX9_mostOften_169 ?_
  refine g_iload hC dX9_mostOften_172 rfl ?_
  refine g_dup2 hC dX9_mostOften_174 rfl rfl ?_
  obtain ⟨hb_34, h⟩ := h
  refine g_iald hC 0 rfl (m_t0 hZ) (by decide) hb_34 dX9_mostOften_175 ?_
  refine g_iconst hC dX9_mostOften_176 ?_
  refine g_iadd hC dX9_mostOften_177 ?_
  obtain ⟨hb_35, h⟩ := h
  obtain ⟨M_36, hM_36⟩ : ∃ M9, M9 = gSt M_33 26 x5 ((M_33 26 x5) + 1) := ⟨_, rfl⟩
  replace h := h M_36 hM_36
  refine g_iast hC 0 rfl (m_t0 hZ) (by decide) hb_35 dX9_mostOften_178 hM_36 ?_
  refine g_aload_n hC dX9_mostOften_179 rfl rfl ?_
  refine g_getr (r := 26) hC rfl (gm_k9 hZ) iwX9 31 (by decide) rfl rfl (wc wd_719) dX9_mostOften_180 ?_
  refine g_iload hC dX9_mostOften_183 rfl ?_
  obtain ⟨hb_37, h⟩ := h
  refine g_iald hC 0 rfl (m_t0 hZ) (by decide) hb_37 dX9_mostOften_185 ?_
  refine g_iconst hC dX9_mostOften_186 ?_
  obtain ⟨hr_38, hA, hB⟩ := h
  refine g_cle hC 236 hr_38 (by decide) dX9_mostOften_187 (by decide) (fun hc_39 => ?_) (fun hc_39 => ?_)
  · replace h := hA hc_39
    clear hA hB
    refine g_iload_n hC dX9_mostOften_190 rfl rfl ?_
    refine g_iconst hC dX9_mostOften_191 ?_
    obtain ⟨hr_40, hA, hB⟩ := h
    refine g_ceq hC 233 hr_40 (by decide) dX9_mostOften_192 (by decide) (fun hc_41 => ?_) (fun hc_41 => ?_)
    · replace h := hA hc_41
      clear hA hB
      refine g_iload hC dX9_mostOften_233 rfl ?_
      refine g_istore_n2 (lc' := [some (vr z 0), some (vi x5), none, some (vi x3), some (vi x4), some (vi x5)]) hC dX9_mostOften_235 rfl (Nat.le_of_ble_eq_true rfl) rfl ?_
      refine g_iinc2 (lc' := [some (vr z 0), some (vi x5), none, some (vi x3), some (vi (x4 + 1)), some (vi x5)]) hC dX9_mostOften_236 rfl rfl ?_
      refine g_goto hC 97 dX9_mostOften_239 (by decide) ?_
      exact g_subk (hK97 x5 (x4 + 1) M_36 h) (And.intro rfl (And.intro rfl (And.intro rfl (And.intro rfl trivial))))
    · replace h := hB hc_41
      clear hA hB
      refine g_aload_n hC dX9_mostOften_195 rfl rfl ?_
      refine g_getr (r := 26) hC rfl (gm_k9 hZ) iwX9 31 (by decide) rfl rfl (wc wd_719) dX9_mostOften_196 ?_
      refine g_iload hC dX9_mostOften_199 rfl ?_
      obtain ⟨hb_42, h⟩ := h
      refine g_iald hC 0 rfl (m_t0 hZ) (by decide) hb_42 dX9_mostOften_201 ?_
      refine g_aload_n hC dX9_mostOften_202 rfl rfl ?_
      refine g_getr (r := 26) hC rfl (gm_k9 hZ) iwX9 31 (by decide) rfl rfl (wc wd_719) dX9_mostOften_203 ?_
      refine g_iload_n hC dX9_mostOften_206 rfl rfl ?_
      obtain ⟨hb_43, h⟩ := h
      refine g_iald hC 0 rfl (m_t0 hZ) (by decide) hb_43 dX9_mostOften_207 ?_
      obtain ⟨hr_44, hr_45, hA, hB⟩ := h
      refine g_cgt hC 233 hr_44 hr_45 dX9_mostOften_208 (by decide) (fun hc_46 => ?_) (fun hc_46 => ?_)
      · replace h := hA hc_46
        clear hA hB
        refine g_iload hC dX9_mostOften_233 rfl ?_
        refine g_istore_n2 (lc' := [some (vr z 0), some (vi x5), none, some (vi x3), some (vi x4), some (vi x5)]) hC dX9_mostOften_235 rfl (Nat.le_of_ble_eq_true rfl) rfl ?_
        refine g_iinc2 (lc' := [some (vr z 0), some (vi x5), none, some (vi x3), some (vi (x4 + 1)), some (vi x5)]) hC dX9_mostOften_236 rfl rfl ?_
        refine g_goto hC 97 dX9_mostOften_239 (by decide) ?_
        exact g_subk (hK97 x5 (x4 + 1) M_36 h) (And.intro rfl (And.intro rfl (And.intro rfl (And.intro rfl trivial))))
      · replace h := hB hc_46
        clear hA hB
        refine g_aload_n hC dX9_mostOften_211 rfl rfl ?_
        refine g_getr (r := 26) hC rfl (gm_k9 hZ) iwX9 31 (by decide) rfl rfl (wc wd_719) dX9_mostOften_212 ?_
        refine g_iload hC dX9_mostOften_215 rfl ?_
        obtain ⟨hb_47, h⟩ := h
        refine g_iald hC 0 rfl (m_t0 hZ) (by decide) hb_47 dX9_mostOften_217 ?_
        refine g_aload_n hC dX9_mostOften_218 rfl rfl ?_
        refine g_getr (r := 26) hC rfl (gm_k9 hZ) iwX9 31 (by decide) rfl rfl (wc wd_719) dX9_mostOften_219 ?_
        refine g_iload_n hC dX9_mostOften_222 rfl rfl ?_
        obtain ⟨hb_48, h⟩ := h
        refine g_iald hC 0 rfl (m_t0 hZ) (by decide) hb_48 dX9_mostOften_223 ?_
        obtain ⟨hr_49, hr_50, hA, hB⟩ := h
        refine g_cne hC 236 hr_49 hr_50 dX9_mostOften_224 (by decide) (fun hc_51 => ?_) (fun hc_51 => ?_)
        · replace h := hA hc_51
          clear hA hB
          refine g_iload hC dX9_mostOften_227 rfl ?_
          refine g_iload_n hC dX9_mostOften_229 rfl rfl ?_
          obtain ⟨hr_52, hr_53, hA, hB⟩ := h
          refine g_cge hC 236 hr_52 hr_53 dX9_mostOften_230 (by decide) (fun hc_54 => ?_) (fun hc_54 => ?_)
          · replace h := hA hc_54
            clear hA hB
            refine g_iload hC dX9_mostOften_233 rfl ?_
            refine g_istore_n2 (lc' := [some (vr z 0), some (vi x5), none, some (vi x3), some (vi x4), some (vi x5)]) hC dX9_mostOften_235 rfl (Nat.le_of_ble_eq_true rfl) rfl ?_
            refine g_iinc2 (lc' := [some (vr z 0), some (vi x5), none, some (vi x3), some (vi (x4 + 1)), some (vi x5)]) hC dX9_mostOften_236 rfl rfl ?_
            refine g_goto hC 97 dX9_mostOften_239 (by decide) ?_
            exact g_subk (hK97 x5 (x4 + 1) M_36 h) (And.intro rfl (And.intro rfl (And.intro rfl (And.intro rfl trivial))))
          · replace h := hB hc_54
            clear hA hB
            refine g_iinc2 (lc' := [some (vr z 0), some (vi x1), none, some (vi x3), some (vi (x4 + 1)), some (vi x5)]) hC dX9_mostOften_236 rfl rfl ?_
            refine g_goto hC 97 dX9_mostOften_239 (by decide) ?_
            exact g_subk (hK97 x1 (x4 + 1) M_36 h) (And.intro rfl (And.intro rfl (And.intro rfl (And.intro rfl trivial))))
        · replace h := hB hc_51
          clear hA hB
          refine g_iinc2 (lc' := [some (vr z 0), some (vi x1), none, some (vi x3), some (vi (x4 + 1)), some (vi x5)]) hC dX9_mostOften_236 rfl rfl ?_
          refine g_goto hC 97 dX9_mostOften_239 (by decide) ?_
          exact g_subk (hK97 x1 (x4 + 1) M_36 h) (And.intro rfl (And.intro rfl (And.intro rfl (And.intro rfl trivial))))
  · replace h := hB hc_39
    clear hA hB
    refine g_iinc2 (lc' := [some (vr z 0), some (vi x1), none, some (vi x3), some (vi (x4 + 1)), some (vi x5)]) hC dX9_mostOften_236 rfl rfl ?_
    refine g_goto hC 97 dX9_mostOften_239 (by decide) ?_
    exact g_subk (hK97 x1 (x4 + 1) M_36 h) (And.intro rfl (And.intro rfl (And.intro rfl (And.intro rfl trivial))))
def fX9_mostOften_L97  (x3 : Int) : Nat → Int → Int → gMem → (Int → gMem → Prop) → (Int → gMem → Prop) → Prop
  | 0, _, _, _, _, _ => False
  | n97 + 1, x1, x4, M, K242, Q =>
    ((0 ≤ x3 ∧ x3 < 8) ∧ (rg (x4 + 1) ∧ rg (M 25 x3) ∧ ((x4 + 1) < (M 25 x3) →
    ((0 ≤ x4 ∧ x4 < 4800) ∧ ((0 ≤ (x4 + 1) ∧ (x4 + 1) < 4800) ∧ (fX9_pairAt (M 24 x4) (M 24 (x4 + 1)) M (fun r_27 =>
      ((0 ≤ r_27 ∧ r_27 < 262144) ∧ (rg (M 27 r_27) ∧ ((M 27 r_27) = (-1) →
      fX9_mostOften_J159 x3 x1 x4 r_27 M (fun x1_55 x4_56 M_57 => fX9_mostOften_L97 x3 n97 x1_55 x4_56 M_57 K242 Q) Q) ∧
      (¬ (M 27 r_27) = (-1) →
      ((0 ≤ r_27 ∧ r_27 < 262144) ∧ (rg (M 27 r_27) ∧ rg (x4 - 1) ∧ ((M 27 r_27) = (x4 - 1) →
        fX9_mostOften_L97 x3 n97 x1 (x4 + 1) M K242 Q) ∧
        (¬ (M 27 r_27) = (x4 - 1) →
        fX9_mostOften_J159 x3 x1 x4 r_27 M (fun x1_62 x4_63 M_64 => fX9_mostOften_L97 x3 n97 x1_62 x4_63 M_64 K242 Q) Q))))))))))) ∧
    (¬ (x4 + 1) < (M 25 x3) →
    K242 x1 M)))
set_option maxHeartbeats 4000000 in
set_option maxRecDepth 100000 in
theorem ctX9_mostOften_L97 {y : gY} {z : gZ} {l : Launch} {x3 : Int} {Q : Int → gMem → Prop} {K242 : Int → gMem → Prop} (hC : gC y z l cX9_mostOften RX9 6 wX9_mostOften rmX9_mostOften) (hR : gRI y z mL .int Q) (hZ : gZm z)  (hK242 : ∀ (x1 : Int) (M : gMem), K242 x1 M → gW y z mL 242 [some (vr z 0), some (vi x1), none, some (vi x3), none, none] [] M) :
    ∀ (n : Nat) (x1 : Int) (x4 : Int) (M : gMem), fX9_mostOften_L97 x3 n x1 x4 M K242 Q → gW y z mL 97 [some (vr z 0), some (vi x1), none, some (vi x3), some (vi x4), none] [] M := by
  intro n
  induction n with
  | zero => intro x1 x4 M h; exact False.elim h
  | succ n97 ih =>
    intro x1 x4 M h
    replace h : ((0 ≤ x3 ∧ x3 < 8) ∧ (rg (x4 + 1) ∧ rg (M 25 x3) ∧ ((x4 + 1) < (M 25 x3) →
    ((0 ≤ x4 ∧ x4 < 4800) ∧ ((0 ≤ (x4 + 1) ∧ (x4 + 1) < 4800) ∧ (fX9_pairAt (M 24 x4) (M 24 (x4 + 1)) M (fun r_27 =>
      ((0 ≤ r_27 ∧ r_27 < 262144) ∧ (rg (M 27 r_27) ∧ ((M 27 r_27) = (-1) →
      fX9_mostOften_J159 x3 x1 x4 r_27 M (fun x1_55 x4_56 M_57 => fX9_mostOften_L97 x3 n97 x1_55 x4_56 M_57 K242 Q) Q) ∧
      (¬ (M 27 r_27) = (-1) →
      ((0 ≤ r_27 ∧ r_27 < 262144) ∧ (rg (M 27 r_27) ∧ rg (x4 - 1) ∧ ((M 27 r_27) = (x4 - 1) →
        fX9_mostOften_L97 x3 n97 x1 (x4 + 1) M K242 Q) ∧
        (¬ (M 27 r_27) = (x4 - 1) →
        fX9_mostOften_J159 x3 x1 x4 r_27 M (fun x1_62 x4_63 M_64 => fX9_mostOften_L97 x3 n97 x1_62 x4_63 M_64 K242 Q) Q))))))))))) ∧
    (¬ (x4 + 1) < (M 25 x3) →
    K242 x1 M))) := h
    refine g_iload hC dX9_mostOften_97 rfl ?_
    refine g_iconst hC dX9_mostOften_99 ?_
    refine g_iadd hC dX9_mostOften_100 ?_
    refine g_aload_n hC dX9_mostOften_101 rfl rfl ?_
    refine g_getr (r := 25) hC rfl (gm_k9 hZ) iwX9 30 (by decide) rfl rfl (wc wd_718) dX9_mostOften_102 ?_
    refine g_iload_n hC dX9_mostOften_105 rfl rfl ?_
    obtain ⟨hb_21, h⟩ := h
    refine g_iald hC 0 rfl (m_t0 hZ) (by decide) hb_21 dX9_mostOften_106 ?_
    obtain ⟨hr_22, hr_23, hA, hB⟩ := h
    refine g_cge hC 242 hr_22 hr_23 dX9_mostOften_107 (by decide) (fun hc_24 => ?_) (fun hc_24 => ?_)
    · replace h := hA hc_24
      clear hA hB
      refine g_aload_n hC dX9_mostOften_110 rfl rfl ?_
      refine g_getr (r := 24) hC rfl (gm_k9 hZ) iwX9 29 (by decide) rfl rfl (wc wd_717) dX9_mostOften_111 ?_
      refine g_iload hC dX9_mostOften_114 rfl ?_
      obtain ⟨hb_25, h⟩ := h
      refine g_iald hC 0 rfl (m_t0 hZ) (by decide) hb_25 dX9_mostOften_116 ?_
      refine g_aload_n hC dX9_mostOften_117 rfl rfl ?_
      refine g_getr (r := 24) hC rfl (gm_k9 hZ) iwX9 29 (by decide) rfl rfl (wc wd_717) dX9_mostOften_118 ?_
      refine g_iload hC dX9_mostOften_121 rfl ?_
      refine g_iconst hC dX9_mostOften_123 ?_
      refine g_iadd hC dX9_mostOften_124 ?_
      obtain ⟨hb_26, h⟩ := h
      refine g_iald hC 0 rfl (m_t0 hZ) (by decide) hb_26 dX9_mostOften_125 ?_
      refine g_calli (g_runS (As := [(vi (M 24 x4)), (vi (M 24 (x4 + 1)))]) (rest := []) hC rfl (ctX9_pairAt hZ  h) (kwX9_pairAt (by decide) (by decide)) (wc wd_978) (wc wd_979) rfl (Nat.le_of_ble_eq_true rfl) rfl dX9_mostOften_126) (fun r_27 M_28 h => ?_)
      obtain ⟨rfl, h⟩ := h
      refine g_istore2 (lc' := [some (vr z 0), some (vi x1), none, some (vi x3), some (vi x4), some (vi r_27)]) hC dX9_mostOften_129 (Nat.le_of_ble_eq_true rfl) rfl ?_
      refine g_aload_n hC dX9_mostOften_131 rfl rfl ?_
      refine g_getr (r := 27) hC rfl (gm_k9 hZ) iwX9 32 (by decide) rfl rfl (wc wd_720) dX9_mostOften_132 ?_
      refine g_iload hC dX9_mostOften_135 rfl ?_
      obtain ⟨hb_29, h⟩ := h
      refine g_iald hC 0 rfl (m_t0 hZ) (by decide) hb_29 dX9_mostOften_137 ?_
      refine g_iconst hC dX9_mostOften_138 ?_
      obtain ⟨hr_30, hA, hB⟩ := h
      refine g_ceq hC 159 hr_30 (by decide) dX9_mostOften_139 (by decide) (fun hc_31 => ?_) (fun hc_31 => ?_)
      · replace h := hA hc_31
        clear hA hB
        refine g_subk (ctX9_mostOften_J159 hC hR hZ ?_ x1 x4 r_27 M h) (And.intro rfl (And.intro rfl (And.intro rfl (And.intro rfl (And.intro rfl trivial)))))
        · intro x1_55 x4_56 M_57 h
          exact g_subk (ih x1_55 x4_56 M_57 h) (And.intro rfl (And.intro rfl (And.intro rfl (And.intro rfl trivial))))
      · replace h := hB hc_31
        clear hA hB
        refine g_aload_n hC dX9_mostOften_142 rfl rfl ?_
        refine g_getr (r := 27) hC rfl (gm_k9 hZ) iwX9 32 (by decide) rfl rfl (wc wd_720) dX9_mostOften_143 ?_
        refine g_iload hC dX9_mostOften_146 rfl ?_
        obtain ⟨hb_58, h⟩ := h
        refine g_iald hC 0 rfl (m_t0 hZ) (by decide) hb_58 dX9_mostOften_148 ?_
        refine g_iload hC dX9_mostOften_149 rfl ?_
        refine g_iconst hC dX9_mostOften_151 ?_
        refine g_isub hC dX9_mostOften_152 ?_
        obtain ⟨hr_59, hr_60, hA, hB⟩ := h
        refine g_cne hC 159 hr_59 hr_60 dX9_mostOften_153 (by decide) (fun hc_61 => ?_) (fun hc_61 => ?_)
        · replace h := hA hc_61
          clear hA hB
          refine g_goto hC 236 dX9_mostOften_156 (by decide) ?_
          refine g_iinc2 (lc' := [some (vr z 0), some (vi x1), none, some (vi x3), some (vi (x4 + 1)), some (vi r_27)]) hC dX9_mostOften_236 rfl rfl ?_
          refine g_goto hC 97 dX9_mostOften_239 (by decide) ?_
          exact g_subk (ih x1 (x4 + 1) M h) (And.intro rfl (And.intro rfl (And.intro rfl (And.intro rfl trivial))))
        · replace h := hB hc_61
          clear hA hB
          refine g_subk (ctX9_mostOften_J159 hC hR hZ ?_ x1 x4 r_27 M h) (And.intro rfl (And.intro rfl (And.intro rfl (And.intro rfl (And.intro rfl trivial)))))
          · intro x1_62 x4_63 M_64 h
            exact g_subk (ih x1_62 x4_63 M_64 h) (And.intro rfl (And.intro rfl (And.intro rfl (And.intro rfl trivial))))
    · replace h := hB hc_24
      clear hA hB
      exact g_subk (hK242 x1 M h) (And.intro rfl (And.intro rfl (And.intro rfl trivial)))
def fX9_mostOften_L88  : Nat → Int → Int → Int → gMem → (Int → gMem → Prop) → Prop
  | 0, _, _, _, _, _ => False
  | n88 + 1, x1, x2, x3, M, Q =>
    (rg x3 ∧ (x3 < 8 →
    ∃ n_68, fX9_mostOften_L97 x3 n_68 x1 x2 M (fun x1_65 M_66 =>
      ((0 ≤ x3 ∧ x3 < 8) ∧ fX9_mostOften_L88 n88 x1_65 (M_66 25 x3) (x3 + 1) M_66 Q)) Q) ∧
    (¬ x3 < 8 →
    Q x1 M))
set_option maxHeartbeats 4000000 in
set_option maxRecDepth 100000 in
theorem ctX9_mostOften_L88 {y : gY} {z : gZ} {l : Launch}  {Q : Int → gMem → Prop}  (hC : gC y z l cX9_mostOften RX9 6 wX9_mostOften rmX9_mostOften) (hR : gRI y z mL .int Q) (hZ : gZm z)  :
    ∀ (n : Nat) (x1 : Int) (x2 : Int) (x3 : Int) (M : gMem), fX9_mostOften_L88 n x1 x2 x3 M Q → gW y z mL 88 [some (vr z 0), some (vi x1), some (vi x2), some (vi x3), none, none] [] M := by
  intro n
  induction n with
  | zero => intro x1 x2 x3 M h; exact False.elim h
  | succ n88 ih =>
    intro x1 x2 x3 M h
    replace h : (rg x3 ∧ (x3 < 8 →
    ∃ n_68, fX9_mostOften_L97 x3 n_68 x1 x2 M (fun x1_65 M_66 =>
      ((0 ≤ x3 ∧ x3 < 8) ∧ fX9_mostOften_L88 n88 x1_65 (M_66 25 x3) (x3 + 1) M_66 Q)) Q) ∧
    (¬ x3 < 8 →
    Q x1 M)) := h
    refine g_iload_n hC dX9_mostOften_88 rfl rfl ?_
    refine g_bipush hC dX9_mostOften_89 (by decide) ?_
    obtain ⟨hr_19, hA, hB⟩ := h
    refine g_cge hC 255 hr_19 (by decide) dX9_mostOften_91 (by decide) (fun hc_20 => ?_) (fun hc_20 => ?_)
    · replace h := hA hc_20
      clear hA hB
      refine g_iload_n hC dX9_mostOften_94 rfl rfl ?_
      refine g_istore2 (lc' := [some (vr z 0), some (vi x1), some (vi x2), some (vi x3), some (vi x2), none]) hC dX9_mostOften_95 (Nat.le_of_ble_eq_true rfl) rfl ?_
      obtain ⟨n_68, h⟩ := h
      refine g_subk (ctX9_mostOften_L97 hC hR hZ ?_ n_68 x1 x2 M h) (And.intro rfl (And.intro rfl (And.intro rfl (And.intro rfl trivial))))
      intro x1_65 M_66 h
      refine g_aload_n hC dX9_mostOften_242 rfl rfl ?_
      refine g_getr (r := 25) hC rfl (gm_k9 hZ) iwX9 30 (by decide) rfl rfl (wc wd_718) dX9_mostOften_243 ?_
      refine g_iload_n hC dX9_mostOften_246 rfl rfl ?_
      obtain ⟨hb_67, h⟩ := h
      refine g_iald hC 0 rfl (m_t0 hZ) (by decide) hb_67 dX9_mostOften_247 ?_
      refine g_istore_n2 (lc' := [some (vr z 0), some (vi x1_65), some (vi (M_66 25 x3)), some (vi x3), none, none]) hC dX9_mostOften_248 rfl (Nat.le_of_ble_eq_true rfl) rfl ?_
      refine g_iinc2 (lc' := [some (vr z 0), some (vi x1_65), some (vi (M_66 25 x3)), some (vi (x3 + 1)), none, none]) hC dX9_mostOften_249 rfl rfl ?_
      refine g_goto hC 88 dX9_mostOften_252 (by decide) ?_
      exact g_subk (ih x1_65 (M_66 25 x3) (x3 + 1) M_66 h) (And.intro rfl (And.intro rfl (And.intro rfl (And.intro rfl trivial))))
    · replace h := hB hc_20
      clear hA hB
      refine g_iload_n hC dX9_mostOften_255 rfl rfl ?_
      exact g_iret hC hR dX9_mostOften_256 h
def fX9_mostOften  (M : gMem) (Q : Int → gMem → Prop) : Prop :=
  ∃ n_70, fX9_mostOften_L6 n_70 0 0 M (fun M_18 =>
  ∃ n_69, fX9_mostOften_L88 n_69 (-1) 0 0 M_18 Q) Q
set_option maxHeartbeats 4000000 in
set_option maxRecDepth 100000 in
theorem ctX9_mostOften {l : Launch} {z : gZ} (hZ : gZm z)   {M : gMem} {Q : Int → gMem → Prop} (h : fX9_mostOften  M Q) : gMI l z mL yX9_mostOften wX9_mostOften rmX9_mostOften [(vr z 0)] M Q := by
  refine g_metI .int (by decide) rfl rfl (gCat_all (And.intro rfl trivial)) (Nat.le_of_ble_eq_true rfl) ?_
  intro y hC hR
  replace h : ∃ n_70, fX9_mostOften_L6 n_70 0 0 M (fun M_18 =>
  ∃ n_69, fX9_mostOften_L88 n_69 (-1) 0 0 M_18 Q) Q := h
  refine g_lc (lc' := [some (vr z 0), none, none, none, none, none]) rfl ?_
  refine g_iconst hC dX9_mostOften_0 ?_
  refine g_istore_n2 (lc' := [some (vr z 0), some (vi (-1)), none, none, none, none]) hC dX9_mostOften_1 rfl (Nat.le_of_ble_eq_true rfl) rfl ?_
  refine g_iconst hC dX9_mostOften_2 ?_
  refine g_istore_n2 (lc' := [some (vr z 0), some (vi (-1)), some (vi 0), none, none, none]) hC dX9_mostOften_3 rfl (Nat.le_of_ble_eq_true rfl) rfl ?_
  refine g_iconst hC dX9_mostOften_4 ?_
  refine g_istore_n2 (lc' := [some (vr z 0), some (vi (-1)), some (vi 0), some (vi 0), none, none]) hC dX9_mostOften_5 rfl (Nat.le_of_ble_eq_true rfl) rfl ?_
  obtain ⟨n_70, h⟩ := h
  refine g_subk (ctX9_mostOften_L6 hC hR hZ ?_ n_70 0 0 M h) (And.intro rfl (And.intro rfl (And.intro rfl (And.intro rfl trivial))))
  intro M_18 h
  refine g_iconst hC dX9_mostOften_84 ?_
  refine g_istore_n2 (lc' := [some (vr z 0), some (vi (-1)), some (vi 0), none, none, none]) hC dX9_mostOften_85 rfl (Nat.le_of_ble_eq_true rfl) rfl ?_
  refine g_iconst hC dX9_mostOften_86 ?_
  refine g_istore_n2 (lc' := [some (vr z 0), some (vi (-1)), some (vi 0), some (vi 0), none, none]) hC dX9_mostOften_87 rfl (Nat.le_of_ble_eq_true rfl) rfl ?_
  obtain ⟨n_69, h⟩ := h
  refine g_subk (ctX9_mostOften_L88 hC hR hZ  n_69 (-1) 0 0 M_18 h) (And.intro rfl (And.intro rfl (And.intro rfl (And.intro rfl trivial))))
