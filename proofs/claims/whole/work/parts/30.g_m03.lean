abbrev wX9_printOf : List Cond := Cond.code yX9_printOf cX9_printOf 6 (some .int) :: gTs
abbrev rmX9_printOf : Room := { frames := 0, cells := 0, slots := 0, locals := 0 }
theorem kwX9_printOf {c0 : Cond} {rm : Room} (h1 : rmX9_printOf.frames + 1 ≤ rm.frames) (h2 : 8 + (6 + 11) + rmX9_printOf.locals ≤ rm.locals) : gCw (c0 :: gTs) rm yX9_printOf cX9_printOf 6 (some .int) wX9_printOf rmX9_printOf 3 := gCw_of wd_908 wd_49 h1 h2 (by decide +kernel)
def fX9_printOf_L6  (x1 : Int) (x2 : Int) (x3 : Int) (M : gMem) : Nat → Int → Int → (Int → Prop) → Prop
  | 0, _, _, _ => False
  | n6 + 1, x4, x5, Q =>
    (rg x5 ∧ rg x3 ∧ (x5 < x3 →
    ((0 ≤ ((600 * x1) + x5) ∧ ((600 * x1) + x5) < 4800) ∧ (rg (x4 + ((M 2 ((600 * x1) + x5)) * ((x5 - x2) + 1))) ∧ fX9_printOf_L6 x1 x2 x3 M n6 (Int.tmod (x4 + ((M 2 ((600 * x1) + x5)) * ((x5 - x2) + 1))) 256) (x5 + 1) Q))) ∧
    (¬ x5 < x3 →
    Q x4))
set_option maxHeartbeats 4000000 in
set_option maxRecDepth 100000 in
theorem ctX9_printOf_L6 {y : gY} {z : gZ} {l : Launch} {x1 : Int} {x2 : Int} {x3 : Int} {M : gMem} {Q : Int → Prop}  (hC : gC y z l cX9_printOf RX9 6 wX9_printOf rmX9_printOf) (hR : gRI y z mL .int (fun r M' => M = M' ∧ Q r)) (hZ : gZm z)  :
    ∀ (n : Nat) (x4 : Int) (x5 : Int), fX9_printOf_L6 x1 x2 x3 M n x4 x5 Q → gW y z mL 6 [some (vr z 0), some (vi x1), some (vi x2), some (vi x3), some (vi x4), some (vi x5)] [] M := by
  intro n
  induction n with
  | zero => intro x4 x5 h; exact False.elim h
  | succ n6 ih =>
    intro x4 x5 h
    replace h : (rg x5 ∧ rg x3 ∧ (x5 < x3 →
    ((0 ≤ ((600 * x1) + x5) ∧ ((600 * x1) + x5) < 4800) ∧ (rg (x4 + ((M 2 ((600 * x1) + x5)) * ((x5 - x2) + 1))) ∧ fX9_printOf_L6 x1 x2 x3 M n6 (Int.tmod (x4 + ((M 2 ((600 * x1) + x5)) * ((x5 - x2) + 1))) 256) (x5 + 1) Q))) ∧
    (¬ x5 < x3 →
    Q x4)) := h
    refine g_iload hC dX9_printOf_6 rfl ?_
    refine g_iload_n hC dX9_printOf_8 rfl rfl ?_
    obtain ⟨hr_1, hr_2, hA, hB⟩ := h
    refine g_cge hC 47 hr_1 hr_2 dX9_printOf_9 (by decide) (fun hc_3 => ?_) (fun hc_3 => ?_)
    · replace h := hA hc_3
      clear hA hB
      refine g_iload hC dX9_printOf_12 rfl ?_
      refine g_aload_n hC dX9_printOf_14 rfl rfl ?_
      refine g_getr (r := 2) hC rfl (gm_k9 hZ) iwX9 1 (by decide) rfl rfl (wc wd_689) dX9_printOf_15 ?_
      refine g_sipush hC dX9_printOf_18 (by decide) ?_
      refine g_iload_n hC dX9_printOf_21 rfl rfl ?_
      refine g_imul hC dX9_printOf_22 ?_
      refine g_iload hC dX9_printOf_23 rfl ?_
      refine g_iadd hC dX9_printOf_25 ?_
      obtain ⟨hb_4, h⟩ := h
      refine g_iald hC 0 rfl (m_t0 hZ) (by decide) hb_4 dX9_printOf_26 ?_
      refine g_iload hC dX9_printOf_27 rfl ?_
      refine g_iload_n hC dX9_printOf_29 rfl rfl ?_
      refine g_isub hC dX9_printOf_30 ?_
      refine g_iconst hC dX9_printOf_31 ?_
      refine g_iadd hC dX9_printOf_32 ?_
      refine g_imul hC dX9_printOf_33 ?_
      refine g_iadd hC dX9_printOf_34 ?_
      refine g_sipush hC dX9_printOf_35 (by decide) ?_
      obtain ⟨hr_5, h⟩ := h
      refine g_irem hC hr_5 (by decide) (by decide) dX9_printOf_38 ?_
      refine g_istore2 (lc' := [some (vr z 0), some (vi x1), some (vi x2), some (vi x3), some (vi (Int.tmod (x4 + ((M 2 ((600 * x1) + x5)) * ((x5 - x2) + 1))) 256)), some (vi x5)]) hC dX9_printOf_39 (Nat.le_of_ble_eq_true rfl) rfl ?_
      refine g_iinc2 (lc' := [some (vr z 0), some (vi x1), some (vi x2), some (vi x3), some (vi (Int.tmod (x4 + ((M 2 ((600 * x1) + x5)) * ((x5 - x2) + 1))) 256)), some (vi (x5 + 1))]) hC dX9_printOf_41 rfl rfl ?_
      refine g_goto hC 6 dX9_printOf_44 (by decide) ?_
      exact g_subk (ih (Int.tmod (x4 + ((M 2 ((600 * x1) + x5)) * ((x5 - x2) + 1))) 256) (x5 + 1) h) (And.intro rfl (And.intro rfl (And.intro rfl (And.intro rfl (And.intro rfl (And.intro rfl trivial))))))
    · replace h := hB hc_3
      clear hA hB
      refine g_iload hC dX9_printOf_47 rfl ?_
      exact g_iret hC hR dX9_printOf_49 ⟨rfl, h⟩
def fX9_printOf (x1 : Int) (x2 : Int) (x3 : Int) (M : gMem) (Q : Int → Prop) : Prop :=
  ∃ n_6, fX9_printOf_L6 x1 x2 x3 M n_6 0 x2 Q
set_option maxHeartbeats 4000000 in
set_option maxRecDepth 100000 in
theorem ctX9_printOf {l : Launch} {z : gZ} (hZ : gZm z) {x1 : Int} {x2 : Int} {x3 : Int}  {M : gMem} {Q : Int → Prop} (h : fX9_printOf x1 x2 x3 M Q) : gMI l z mL yX9_printOf wX9_printOf rmX9_printOf [(vr z 0), (vi x1), (vi x2), (vi x3)] M (fun r M' => M = M' ∧ Q r) := by
  refine g_metI .int (by decide) rfl rfl (gCat_all (And.intro rfl (And.intro rfl (And.intro rfl (And.intro rfl trivial))))) (Nat.le_of_ble_eq_true rfl) ?_
  intro y hC hR
  replace h : ∃ n_6, fX9_printOf_L6 x1 x2 x3 M n_6 0 x2 Q := h
  refine g_lc (lc' := [some (vr z 0), some (vi x1), some (vi x2), some (vi x3), none, none]) rfl ?_
  refine g_iconst hC dX9_printOf_0 ?_
  refine g_istore2 (lc' := [some (vr z 0), some (vi x1), some (vi x2), some (vi x3), some (vi 0), none]) hC dX9_printOf_1 (Nat.le_of_ble_eq_true rfl) rfl ?_
  refine g_iload_n hC dX9_printOf_3 rfl rfl ?_
  refine g_istore2 (lc' := [some (vr z 0), some (vi x1), some (vi x2), some (vi x3), some (vi 0), some (vi x2)]) hC dX9_printOf_4 (Nat.le_of_ble_eq_true rfl) rfl ?_
  obtain ⟨n_6, h⟩ := h
  refine g_subk (ctX9_printOf_L6 hC hR hZ  n_6 0 x2 h) (And.intro rfl (And.intro rfl (And.intro rfl (And.intro rfl (And.intro rfl (And.intro rfl trivial))))))
abbrev wX9_cost : List Cond := Cond.code yX9_cost cX9_cost 11 (some .int) :: gTs
abbrev rmX9_cost : Room := { frames := 3, cells := 0, slots := 0, locals := 75 }
theorem kwX9_cost {c0 : Cond} {rm : Room} (h1 : rmX9_cost.frames + 1 ≤ rm.frames) (h2 : 8 + (11 + 11) + rmX9_cost.locals ≤ rm.locals) : gCw (c0 :: gTs) rm yX9_cost cX9_cost 11 (some .int) wX9_cost rmX9_cost 2 := gCw_of wd_904 wd_49 h1 h2 (by decide +kernel)
def fX9_cost_L98  (x3 : Int) (x6 : Int) (x7 : Int) (x8 : Int) (M : gMem) : Nat → Int → Int → (Int → Prop) → (Int → gMem → Prop) → Prop
  | 0, _, _, _, _ => False
  | n98 + 1, x9, x10, K180, Q =>
    (rg x10 ∧ rg x3 ∧ (x10 < x3 →
    (rg x9 ∧ (x9 = 0 →
      ((0 ≤ x10 ∧ x10 < 4800) ∧ (rg (M 15 x10) ∧ rg x8 ∧ ((M 15 x10) = x8 →
        ((0 ≤ x10 ∧ x10 < 4800) ∧ ((0 ≤ x10 ∧ x10 < 4800) ∧ ((0 ≤ x10 ∧ x10 < 4800) ∧ ((0 ≤ x7 ∧ x7 < 601) ∧ ((0 ≤ (x7 + 1) ∧ (x7 + 1) < 601) ∧ (fX9_isAlike (M 12 x10) (M 13 x10) (M 14 x10) x6 (M 10 x7) (M 10 (x7 + 1)) M (fun r_33 =>
          (rg r_33 ∧ (r_33 = 0 →
          fX9_cost_L98 x3 x6 x7 x8 M n98 0 (x10 + 1) K180 Q) ∧
          (¬ r_33 = 0 →
          fX9_cost_L98 x3 x6 x7 x8 M n98 1 (x10 + 1) K180 Q)))))))))) ∧
        (¬ (M 15 x10) = x8 →
        fX9_cost_L98 x3 x6 x7 x8 M n98 0 (x10 + 1) K180 Q)))) ∧
      (¬ x9 = 0 →
      K180 x9))) ∧
    (¬ x10 < x3 →
    K180 x9))
set_option maxHeartbeats 4000000 in
set_option maxRecDepth 100000 in
theorem ctX9_cost_L98 {y : gY} {z : gZ} {l : Launch} {x1 : Int} {x2 : Int} {x3 : Int} {x4 : Int} {x5 : Int} {x6 : Int} {x7 : Int} {x8 : Int} {M : gMem} {Q : Int → gMem → Prop} {K180 : Int → Prop} (hC : gC y z l cX9_cost RX9 11 wX9_cost rmX9_cost) (hR : gRI y z mL .int Q) (hZ : gZm z)  (hK180 : ∀ (x9 : Int), K180 x9 → gW y z mL 180 [some (vr z 0), some (vi x1), some (vi x2), some (vi x3), some (vi x4), some (vi x5), some (vi x6), some (vi x7), some (vi x8), some (vi x9), none] [] M) :
    ∀ (n : Nat) (x9 : Int) (x10 : Int), fX9_cost_L98 x3 x6 x7 x8 M n x9 x10 K180 Q → gW y z mL 98 [some (vr z 0), some (vi x1), some (vi x2), some (vi x3), some (vi x4), some (vi x5), some (vi x6), some (vi x7), some (vi x8), some (vi x9), some (vi x10)] [] M := by
  intro n
  induction n with
  | zero => intro x9 x10 h; exact False.elim h
  | succ n98 ih =>
    intro x9 x10 h
    replace h : (rg x10 ∧ rg x3 ∧ (x10 < x3 →
    (rg x9 ∧ (x9 = 0 →
      ((0 ≤ x10 ∧ x10 < 4800) ∧ (rg (M 15 x10) ∧ rg x8 ∧ ((M 15 x10) = x8 →
        ((0 ≤ x10 ∧ x10 < 4800) ∧ ((0 ≤ x10 ∧ x10 < 4800) ∧ ((0 ≤ x10 ∧ x10 < 4800) ∧ ((0 ≤ x7 ∧ x7 < 601) ∧ ((0 ≤ (x7 + 1) ∧ (x7 + 1) < 601) ∧ (fX9_isAlike (M 12 x10) (M 13 x10) (M 14 x10) x6 (M 10 x7) (M 10 (x7 + 1)) M (fun r_33 =>
          (rg r_33 ∧ (r_33 = 0 →
          fX9_cost_L98 x3 x6 x7 x8 M n98 0 (x10 + 1) K180 Q) ∧
          (¬ r_33 = 0 →
          fX9_cost_L98 x3 x6 x7 x8 M n98 1 (x10 + 1) K180 Q)))))))))) ∧
        (¬ (M 15 x10) = x8 →
        fX9_cost_L98 x3 x6 x7 x8 M n98 0 (x10 + 1) K180 Q)))) ∧
      (¬ x9 = 0 →
      K180 x9))) ∧
    (¬ x10 < x3 →
    K180 x9)) := h
    refine g_iload hC dX9_cost_98 rfl ?_
    refine g_iload_n hC dX9_cost_100 rfl rfl ?_
    obtain ⟨hr_19, hr_20, hA, hB⟩ := h
    refine g_cge hC 180 hr_19 hr_20 dX9_cost_101 (by decide) (fun hc_21 => ?_) (fun hc_21 => ?_)
    · replace h := hA hc_21
      clear hA hB
      refine g_iload hC dX9_cost_104 rfl ?_
      obtain ⟨hr_22, hA, hB⟩ := h
      refine g_ine hC 180 hr_22 dX9_cost_106 (by decide) (fun hc_23 => ?_) (fun hc_23 => ?_)
      · replace h := hA hc_23
        clear hA hB
        refine g_aload_n hC dX9_cost_109 rfl rfl ?_
        refine g_getr (r := 15) hC rfl (gm_k9 hZ) iwX9 19 (by decide) rfl rfl (wc wd_707) dX9_cost_110 ?_
        refine g_iload hC dX9_cost_113 rfl ?_
        obtain ⟨hb_24, h⟩ := h
        refine g_iald hC 0 rfl (m_t0 hZ) (by decide) hb_24 dX9_cost_115 ?_
        refine g_iload hC dX9_cost_116 rfl ?_
        obtain ⟨hr_25, hr_26, hA, hB⟩ := h
        refine g_cne hC 171 hr_25 hr_26 dX9_cost_118 (by decide) (fun hc_27 => ?_) (fun hc_27 => ?_)
        · replace h := hA hc_27
          clear hA hB
          refine g_aload_n hC dX9_cost_121 rfl rfl ?_
          refine g_aload_n hC dX9_cost_122 rfl rfl ?_
          refine g_getr (r := 12) hC rfl (gm_k9 hZ) iwX9 16 (by decide) rfl rfl (wc wd_704) dX9_cost_123 ?_
          refine g_iload hC dX9_cost_126 rfl ?_
          obtain ⟨hb_28, h⟩ := h
          refine g_iald hC 0 rfl (m_t0 hZ) (by decide) hb_28 dX9_cost_128 ?_
          refine g_aload_n hC dX9_cost_129 rfl rfl ?_
          refine g_getr (r := 13) hC rfl (gm_k9 hZ) iwX9 17 (by decide) rfl rfl (wc wd_705) dX9_cost_130 ?_
          refine g_iload hC dX9_cost_133 rfl ?_
          obtain ⟨hb_29, h⟩ := h
          refine g_iald hC 0 rfl (m_t0 hZ) (by decide) hb_29 dX9_cost_135 ?_
          refine g_aload_n hC dX9_cost_136 rfl rfl ?_
          refine g_getr (r := 14) hC rfl (gm_k9 hZ) iwX9 18 (by decide) rfl rfl (wc wd_706) dX9_cost_137 ?_
          refine g_iload hC dX9_cost_140 rfl ?_
          obtain ⟨hb_30, h⟩ := h
          refine g_iald hC 0 rfl (m_t0 hZ) (by decide) hb_30 dX9_cost_142 ?_
          refine g_iload hC dX9_cost_143 rfl ?_
          refine g_aload_n hC dX9_cost_145 rfl rfl ?_
          refine g_getr (r := 10) hC rfl (gm_k9 hZ) iwX9 11 (by decide) rfl rfl (wc wd_699) dX9_cost_146 ?_
          refine g_iload hC dX9_cost_149 rfl ?_
          obtain ⟨hb_31, h⟩ := h
          refine g_iald hC 0 rfl (m_t0 hZ) (by decide) hb_31 dX9_cost_151 ?_
          refine g_aload_n hC dX9_cost_152 rfl rfl ?_
          refine g_getr (r := 10) hC rfl (gm_k9 hZ) iwX9 11 (by decide) rfl rfl (wc wd_699) dX9_cost_153 ?_
          refine g_iload hC dX9_cost_156 rfl ?_
          refine g_iconst hC dX9_cost_158 ?_
          refine g_iadd hC dX9_cost_159 ?_
          obtain ⟨hb_32, h⟩ := h
          refine g_iald hC 0 rfl (m_t0 hZ) (by decide) hb_32 dX9_cost_160 ?_
          refine g_calli (g_runV (As := [(vi (M 12 x10)), (vi (M 13 x10)), (vi (M 14 x10)), (vi x6), (vi (M 10 x7)), (vi (M 10 (x7 + 1)))]) (rest := []) hC rfl (ctX9_isAlike hZ  h) rfl (gm_k9 hZ) (kwX9_isAlike (by decide) (by decide)) rfl (wc wd_893) (wc wd_895) (wc wd_28) rfl (Nat.le_of_ble_eq_true rfl) rfl dX9_cost_161) (fun r_33 M_34 h => ?_)
          obtain ⟨rfl, h⟩ := h
          obtain ⟨hr_35, hA, hB⟩ := h
          refine g_ieq hC 171 hr_35 dX9_cost_164 (by decide) (fun hc_36 => ?_) (fun hc_36 => ?_)
          · replace h := hA hc_36
            clear hA hB
            refine g_iconst hC dX9_cost_171 ?_
            refine g_istore2 (lc' := [some (vr z 0), some (vi x1), some (vi x2), some (vi x3), some (vi x4), some (vi x5), some (vi x6), some (vi x7), some (vi x8), some (vi 0), some (vi x10)]) hC dX9_cost_172 (Nat.le_of_ble_eq_true rfl) rfl ?_
            refine g_iinc2 (lc' := [some (vr z 0), some (vi x1), some (vi x2), some (vi x3), some (vi x4), some (vi x5), some (vi x6), some (vi x7), some (vi x8), some (vi 0), some (vi (x10 + 1))]) hC dX9_cost_174 rfl rfl ?_
            refine g_goto hC 98 dX9_cost_177 (by decide) ?_
            exact g_subk (ih 0 (x10 + 1) h) (And.intro rfl (And.intro rfl (And.intro rfl (And.intro rfl (And.intro rfl (And.intro rfl (And.intro rfl (And.intro rfl (And.intro rfl (And.intro rfl (And.intro rfl trivial)))))))))))
          · replace h := hB hc_36
            clear hA hB
            refine g_iconst hC dX9_cost_167 ?_
            refine g_goto hC 172 dX9_cost_168 (by decide) ?_
            refine g_istore2 (lc' := [some (vr z 0), some (vi x1), some (vi x2), some (vi x3), some (vi x4), some (vi x5), some (vi x6), some (vi x7), some (vi x8), some (vi 1), some (vi x10)]) hC dX9_cost_172 (Nat.le_of_ble_eq_true rfl) rfl ?_
            refine g_iinc2 (lc' := [some (vr z 0), some (vi x1), some (vi x2), some (vi x3), some (vi x4), some (vi x5), some (vi x6), some (vi x7), some (vi x8), some (vi 1), some (vi (x10 + 1))]) hC dX9_cost_174 rfl rfl ?_
            refine g_goto hC 98 dX9_cost_177 (by decide) ?_
            exact g_subk (ih 1 (x10 + 1) h) (And.intro rfl (And.intro rfl (And.intro rfl (And.intro rfl (And.intro rfl (And.intro rfl (And.intro rfl (And.intro rfl (And.intro rfl (And.intro rfl (And.intro rfl trivial)))))))))))
        · replace h := hB hc_27
          clear hA hB
          refine g_iconst hC dX9_cost_171 ?_
          refine g_istore2 (lc' := [some (vr z 0), some (vi x1), some (vi x2), some (vi x3), some (vi x4), some (vi x5), some (vi x6), some (vi x7), some (vi x8), some (vi 0), some (vi x10)]) hC dX9_cost_172 (Nat.le_of_ble_eq_true rfl) rfl ?_
          refine g_iinc2 (lc' := [some (vr z 0), some (vi x1), some (vi x2), some (vi x3), some (vi x4), some (vi x5), some (vi x6), some (vi x7), some (vi x8), some (vi 0), some (vi (x10 + 1))]) hC dX9_cost_174 rfl rfl ?_
          refine g_goto hC 98 dX9_cost_177 (by decide) ?_
          exact g_subk (ih 0 (x10 + 1) h) (And.intro rfl (And.intro rfl (And.intro rfl (And.intro rfl (And.intro rfl (And.intro rfl (And.intro rfl (And.intro rfl (And.intro rfl (And.intro rfl (And.intro rfl trivial)))))))))))
      · replace h := hB hc_23
        clear hA hB
        exact g_subk (hK180 x9 h) (And.intro rfl (And.intro rfl (And.intro rfl (And.intro rfl (And.intro rfl (And.intro rfl (And.intro rfl (And.intro rfl (And.intro rfl (And.intro rfl trivial))))))))))
    · replace h := hB hc_21
      clear hA hB
      exact g_subk (hK180 x9 h) (And.intro rfl (And.intro rfl (And.intro rfl (And.intro rfl (And.intro rfl (And.intro rfl (And.intro rfl (And.intro rfl (And.intro rfl (And.intro rfl trivial))))))))))
def fX9_cost_J180  (x1 : Int) (x2 : Int) (x4 : Int) (x6 : Int) (x3 : Int) (x5 : Int) (x7 : Int) (x8 : Int) (x9 : Int) (M : gMem) (K59 : Int → Int → Int → gMem → Prop) (Q : Int → gMem → Prop) : Prop :=
  (rg x9 ∧ (x9 = 0 →
  ((0 ≤ x3 ∧ x3 < 4800) ∧ ∀ M_41, M_41 = gSt M 12 x3 x6 → ((0 ≤ x7 ∧ x7 < 601) ∧ ((0 ≤ x3 ∧ x3 < 4800) ∧ ∀ M_44, M_44 = gSt M_41 13 x3 (M_41 10 x7) → ((0 ≤ (x7 + 1) ∧ (x7 + 1) < 601) ∧ ((0 ≤ x3 ∧ x3 < 4800) ∧ ∀ M_47, M_47 = gSt M_44 14 x3 (M_44 10 (x7 + 1)) → ((0 ≤ x3 ∧ x3 < 4800) ∧ ∀ M_49, M_49 = gSt M_47 15 x3 x8 → ((0 ≤ (x7 + 1) ∧ (x7 + 1) < 601) ∧ ((0 ≤ x7 ∧ x7 < 601) ∧ K59 (x3 + 1) (x5 + ((M_49 10 (x7 + 1)) - (M_49 10 x7))) (x7 + 1) M_49))))))))) ∧
  (¬ x9 = 0 →
  K59 x3 x5 (x7 + 1) M))
set_option maxHeartbeats 4000000 in
set_option maxRecDepth 100000 in
theorem ctX9_cost_J180 {y : gY} {z : gZ} {l : Launch}  {x1 : Int} {x2 : Int} {x4 : Int} {x6 : Int} {Q : Int → gMem → Prop} {K59 : Int → Int → Int → gMem → Prop} (hC : gC y z l cX9_cost RX9 11 wX9_cost rmX9_cost) (hR : gRI y z mL .int Q) (hZ : gZm z)  (hK59 : ∀ (x3 : Int) (x5 : Int) (x7 : Int) (M : gMem), K59 x3 x5 x7 M → gW y z mL 59 [some (vr z 0), some (vi x1), some (vi x2), some (vi x3), some (vi x4), some (vi x5), some (vi x6), some (vi x7), none, none, none] [] M) :
    ∀ (x3 : Int) (x5 : Int) (x7 : Int) (x8 : Int) (x9 : Int) (M : gMem), fX9_cost_J180 x1 x2 x4 x6 x3 x5 x7 x8 x9 M K59 Q → gW y z mL 180 [some (vr z 0), some (vi x1), some (vi x2), some (vi x3), some (vi x4), some (vi x5), some (vi x6), some (vi x7), some (vi x8), some (vi x9), none] [] M := by
  intro x3 x5 x7 x8 x9 M h
  replace h : (rg x9 ∧ (x9 = 0 →
  ((0 ≤ x3 ∧ x3 < 4800) ∧ ∀ M_41, M_41 = gSt M 12 x3 x6 → ((0 ≤ x7 ∧ x7 < 601) ∧ ((0 ≤ x3 ∧ x3 < 4800) ∧ ∀ M_44, M_44 = gSt M_41 13 x3 (M_41 10 x7) → ((0 ≤ (x7 + 1) ∧ (x7 + 1) < 601) ∧ ((0 ≤ x3 ∧ x3 < 4800) ∧ ∀ M_47, M_47 = gSt M_44 14 x3 (M_44 10 (x7 + 1)) → ((0 ≤ x3 ∧ x3 < 4800) ∧ ∀ M_49, M_49 = gSt M_47 15 x3 x8 → ((0 ≤ (x7 + 1) ∧ (x7 + 1) < 601) ∧ ((0 ≤ x7 ∧ x7 < 601) ∧ K59 (x3 + 1) (x5 + ((M_49 10 (x7 + 1)) - (M_49 10 x7))) (x7 + 1) M_49))))))))) ∧
  (¬ x9 = 0 →
  K59 x3 x5 (x7 + 1) M)) := h
  refine g_iload hC dX9_cost_180 rfl ?_
  obtain ⟨hr_38, hA, hB⟩ := h
  refine g_ieq hC 188 hr_38 dX9_cost_182 (by decide) (fun hc_39 => ?_) (fun hc_39 => ?_)
  · replace h := hA hc_39
    clear hA hB
    refine g_aload_n hC dX9_cost_188 rfl rfl ?_
    refine g_getr (r := 12) hC rfl (gm_k9 hZ) iwX9 16 (by decide) rfl rfl (wc wd_704) dX9_cost_189 ?_
    refine g_iload_n hC dX9_cost_192 rfl rfl ?_
    refine g_iload hC dX9_cost_193 rfl ?_
    obtain ⟨hb_40, h⟩ := h
    obtain ⟨M_41, hM_41⟩ : ∃ M9, M9 = gSt M 12 x3 x6 := ⟨_, rfl⟩
    replace h := h M_41 hM_41
    refine g_iast hC 0 rfl (m_t0 hZ) (by decide) hb_40 dX9_cost_195 hM_41 ?_
    refine g_aload_n hC dX9_cost_196 rfl rfl ?_
    refine g_getr (r := 13) hC rfl (gm_k9 hZ) iwX9 17 (by decide) rfl rfl (wc wd_705) dX9_cost_197 ?_
    refine g_iload_n hC dX9_cost_200 rfl rfl ?_
    refine g_aload_n hC dX9_cost_201 rfl rfl ?_
    refine g_getr (r := 10) hC rfl (gm_k9 hZ) iwX9 11 (by decide) rfl rfl (wc wd_699) dX9_cost_202 ?_
    refine g_iload hC dX9_cost_205 rfl ?_
    obtain ⟨hb_42, h⟩ := h
    refine g_iald hC 0 rfl (m_t0 hZ) (by decide) hb_42 dX9_cost_207 ?_
    obtain ⟨hb_43, h⟩ := h
    obtain ⟨M_44, hM_44⟩ : ∃ M9, M9 = gSt M_41 13 x3 (M_41 10 x7) := ⟨_, rfl⟩
    replace h := h M_44 hM_44
    refine g_iast hC 0 rfl (m_t0 hZ) (by decide) hb_43 dX9_cost_208 hM_44 ?_
    refine g_aload_n hC dX9_cost_209 rfl rfl ?_
    refine g_getr (r := 14) hC rfl (gm_k9 hZ) iwX9 18 (by decide) rfl rfl (wc wd_706) dX9_cost_210 ?_
    refine g_iload_n hC dX9_cost_213 rfl rfl ?_
    refine g_aload_n hC dX9_cost_214 rfl rfl ?_
    refine g_getr (r := 10) hC rfl (gm_k9 hZ) iwX9 11 (by decide) rfl rfl (wc wd_699) dX9_cost_215 ?_
    refine g_iload hC dX9_cost_218 rfl ?_
    refine g_iconst hC dX9_cost_220 ?_
    refine g_iadd hC dX9_cost_221 ?_
    obtain ⟨hb_45, h⟩ := h
    refine g_iald hC 0 rfl (m_t0 hZ) (by decide) hb_45 dX9_cost_222 ?_
    obtain ⟨hb_46, h⟩ := h
    obtain ⟨M_47, hM_47⟩ : ∃ M9, M9 = gSt M_44 14 x3 (M_44 10 (x7 + 1)) := ⟨_, rfl⟩
    replace h := h M_47 hM_47
    refine g_iast hC 0 rfl (m_t0 hZ) (by decide) hb_46 dX9_cost_223 hM_47 ?_
    refine g_aload_n hC dX9_cost_224 rfl rfl ?_
    refine g_getr (r := 15) hC rfl (gm_k9 hZ) iwX9 19 (by decide) rfl rfl (wc wd_707) dX9_cost_225 ?_
    refine g_iload_n hC dX9_cost_228 rfl rfl ?_
    refine g_iload hC dX9_cost_229 rfl ?_
    obtain ⟨hb_48, h⟩ := h
    obtain ⟨M_49, hM_49⟩ : ∃ M9, M9 = gSt M_47 15 x3 x8 := ⟨_, rfl⟩
    replace h := h M_49 hM_49
    refine g_iast hC 0 rfl (m_t0 hZ) (by decide) hb_48 dX9_cost_231 hM_49 ?_
    refine g_iinc2 (lc' := [some (vr z 0), some (vi x1), some (vi x2), some (vi (x3 + 1)), some (vi x4), some (vi x5), some (vi x6), some (vi x7), some (vi x8), some (vi x9), none]) hC dX9_cost_232 rfl rfl ?_
    refine g_iload hC dX9_cost_235 rfl ?_
    refine g_aload_n hC dX9_cost_237 rfl rfl ?_
    refine g_getr (r := 10) hC rfl (gm_k9 hZ) iwX9 11 (by decide) rfl rfl (wc wd_699) dX9_cost_238 ?_
    refine g_iload hC dX9_cost_241 rfl ?_
    refine g_iconst hC dX9_cost_243 ?_
    refine g_iadd hC dX9_cost_244 ?_
    obtain ⟨hb_50, h⟩ := h
    refine g_iald hC 0 rfl (m_t0 hZ) (by decide) hb_50 dX9_cost_245 ?_
    refine g_aload_n hC dX9_cost_246 rfl rfl ?_
    refine g_getr (r := 10) hC rfl (gm_k9 hZ) iwX9 11 (by decide) rfl rfl (wc wd_699) dX9_cost_247 ?_
    refine g_iload hC dX9_cost_250 rfl ?_
    obtain ⟨hb_51, h⟩ := h
    refine g_iald hC 0 rfl (m_t0 hZ) (by decide) hb_51 dX9_cost_252 ?_
    refine g_isub hC dX9_cost_253 ?_
    refine g_iadd hC dX9_cost_254 ?_
    refine g_istore2 (lc' := [some (vr z 0), some (vi x1), some (vi x2), some (vi (x3 + 1)), some (vi x4), some (vi (x5 + ((M_49 10 (x7 + 1)) - (M_49 10 x7)))), some (vi x6), some (vi x7), some (vi x8), some (vi x9), none]) hC dX9_cost_255 (Nat.le_of_ble_eq_true rfl) rfl ?_
    refine g_iinc2 (lc' := [some (vr z 0), some (vi x1), some (vi x2), some (vi (x3 + 1)), some (vi x4), some (vi (x5 + ((M_49 10 (x7 + 1)) - (M_49 10 x7)))), some (vi x6), some (vi (x7 + 1)), some (vi x8), some (vi x9), none]) hC dX9_cost_257 rfl rfl ?_
    refine g_goto hC 59 dX9_cost_260 (by decide) ?_
    exact g_subk (hK59 (x3 + 1) (x5 + ((M_49 10 (x7 + 1)) - (M_49 10 x7))) (x7 + 1) M_49 h) (And.intro rfl (And.intro rfl (And.intro rfl (And.intro rfl (And.intro rfl (And.intro rfl (And.intro rfl (And.intro rfl trivial))))))))
  · replace h := hB hc_39
    clear hA hB
    refine g_goto hC 257 dX9_cost_185 (by decide) ?_
    refine g_iinc2 (lc' := [some (vr z 0), some (vi x1), some (vi x2), some (vi x3), some (vi x4), some (vi x5), some (vi x6), some (vi (x7 + 1)), some (vi x8), some (vi x9), none]) hC dX9_cost_257 rfl rfl ?_
    refine g_goto hC 59 dX9_cost_260 (by decide) ?_
    exact g_subk (hK59 x3 x5 (x7 + 1) M h) (And.intro rfl (And.intro rfl (And.intro rfl (And.intro rfl (And.intro rfl (And.intro rfl (And.intro rfl (And.intro rfl trivial))))))))
def fX9_cost_L59  (x1 : Int) (x2 : Int) (x4 : Int) (x6 : Int) : Nat → Int → Int → Int → gMem → (Int → Int → gMem → Prop) → (Int → gMem → Prop) → Prop
  | 0, _, _, _, _, _, _ => False
  | n59 + 1, x3, x5, x7, M, K263, Q =>
    (rg x7 ∧ rg (M 0 10) ∧ (x7 < (M 0 10) →
    ((0 ≤ x7 ∧ x7 < 601) ∧ ((0 ≤ (x7 + 1) ∧ (x7 + 1) < 601) ∧ (fX9_printOf x6 (M 10 x7) (M 10 (x7 + 1)) M (fun r_17 =>
      ∃ n_56, fX9_cost_L98 x3 x6 x7 r_17 M n_56 0 0 (fun x9_37 =>
      fX9_cost_J180 x1 x2 x4 x6 x3 x5 x7 r_17 x9_37 M (fun x3_52 x5_53 x7_54 M_55 => fX9_cost_L59 x1 x2 x4 x6 n59 x3_52 x5_53 x7_54 M_55 K263 Q) Q) Q))))) ∧
    (¬ x7 < (M 0 10) →
    K263 x3 x5 M))
set_option maxHeartbeats 4000000 in
set_option maxRecDepth 100000 in
theorem ctX9_cost_L59 {y : gY} {z : gZ} {l : Launch} {x1 : Int} {x2 : Int} {x4 : Int} {x6 : Int} {Q : Int → gMem → Prop} {K263 : Int → Int → gMem → Prop} (hC : gC y z l cX9_cost RX9 11 wX9_cost rmX9_cost) (hR : gRI y z mL .int Q) (hZ : gZm z)  (hK263 : ∀ (x3 : Int) (x5 : Int) (M : gMem), K263 x3 x5 M → gW y z mL 263 [some (vr z 0), some (vi x1), some (vi x2), some (vi x3), some (vi x4), some (vi x5), some (vi x6), none, none, none, none] [] M) :
    ∀ (n : Nat) (x3 : Int) (x5 : Int) (x7 : Int) (M : gMem), fX9_cost_L59 x1 x2 x4 x6 n x3 x5 x7 M K263 Q → gW y z mL 59 [some (vr z 0), some (vi x1), some (vi x2), some (vi x3), some (vi x4), some (vi x5), some (vi x6), some (vi x7), none, none, none] [] M := by
  intro n
  induction n with
  | zero => intro x3 x5 x7 M h; exact False.elim h
  | succ n59 ih =>
    intro x3 x5 x7 M h
    replace h : (rg x7 ∧ rg (M 0 10) ∧ (x7 < (M 0 10) →
    ((0 ≤ x7 ∧ x7 < 601) ∧ ((0 ≤ (x7 + 1) ∧ (x7 + 1) < 601) ∧ (fX9_printOf x6 (M 10 x7) (M 10 (x7 + 1)) M (fun r_17 =>
      ∃ n_56, fX9_cost_L98 x3 x6 x7 r_17 M n_56 0 0 (fun x9_37 =>
      fX9_cost_J180 x1 x2 x4 x6 x3 x5 x7 r_17 x9_37 M (fun x3_52 x5_53 x7_54 M_55 => fX9_cost_L59 x1 x2 x4 x6 n59 x3_52 x5_53 x7_54 M_55 K263 Q) Q) Q))))) ∧
    (¬ x7 < (M 0 10) →
    K263 x3 x5 M)) := h
    refine g_iload hC dX9_cost_59 rfl ?_
    refine g_aload_n hC dX9_cost_61 rfl rfl ?_
    refine g_geti (ji := 10) hC rfl (gm_k9 hZ) iwX9 10 (by decide) rfl rfl (wc wd_698) dX9_cost_62 rfl ?_
    obtain ⟨hr_12, hr_13, hA, hB⟩ := h
    refine g_cge hC 263 hr_12 hr_13 dX9_cost_65 (by decide) (fun hc_14 => ?_) (fun hc_14 => ?_)
    · replace h := hA hc_14
      clear hA hB
      refine g_aload_n hC dX9_cost_68 rfl rfl ?_
      refine g_iload hC dX9_cost_69 rfl ?_
      refine g_aload_n hC dX9_cost_71 rfl rfl ?_
      refine g_getr (r := 10) hC rfl (gm_k9 hZ) iwX9 11 (by decide) rfl rfl (wc wd_699) dX9_cost_72 ?_
      refine g_iload hC dX9_cost_75 rfl ?_
      obtain ⟨hb_15, h⟩ := h
      refine g_iald hC 0 rfl (m_t0 hZ) (by decide) hb_15 dX9_cost_77 ?_
      refine g_aload_n hC dX9_cost_78 rfl rfl ?_
      refine g_getr (r := 10) hC rfl (gm_k9 hZ) iwX9 11 (by decide) rfl rfl (wc wd_699) dX9_cost_79 ?_
      refine g_iload hC dX9_cost_82 rfl ?_
      refine g_iconst hC dX9_cost_84 ?_
      refine g_iadd hC dX9_cost_85 ?_
      obtain ⟨hb_16, h⟩ := h
      refine g_iald hC 0 rfl (m_t0 hZ) (by decide) hb_16 dX9_cost_86 ?_
      refine g_calli (g_runV (As := [(vi x6), (vi (M 10 x7)), (vi (M 10 (x7 + 1)))]) (rest := []) hC rfl (ctX9_printOf hZ  h) rfl (gm_k9 hZ) (kwX9_printOf (by decide) (by decide)) rfl (wc wd_905) (wc wd_907) (wc wd_29) rfl (Nat.le_of_ble_eq_true rfl) rfl dX9_cost_87) (fun r_17 M_18 h => ?_)
      obtain ⟨rfl, h⟩ := h
      refine g_istore2 (lc' := [some (vr z 0), some (vi x1), some (vi x2), some (vi x3), some (vi x4), some (vi x5), some (vi x6), some (vi x7), some (vi r_17), none, none]) hC dX9_cost_90 (Nat.le_of_ble_eq_true rfl) rfl ?_
      refine g_iconst hC dX9_cost_92 ?_
      refine g_istore2 (lc' := [some (vr z 0), some (vi x1), some (vi x2), some (vi x3), some (vi x4), some (vi x5), some (vi x6), some (vi x7), some (vi r_17), some (vi 0), none]) hC dX9_cost_93 (Nat.le_of_ble_eq_true rfl) rfl ?_
      refine g_iconst hC dX9_cost_95 ?_
      refine g_istore2 (lc' := [some (vr z 0), some (vi x1), some (vi x2), some (vi x3), some (vi x4), some (vi x5), some (vi x6), some (vi x7), some (vi r_17), some (vi 0), some (vi 0)]) hC dX9_cost_96 (Nat.le_of_ble_eq_true rfl) rfl ?_
      obtain ⟨n_56, h⟩ := h
      refine g_subk (ctX9_cost_L98 hC hR hZ ?_ n_56 0 0 h) (And.intro rfl (And.intro rfl (And.intro rfl (And.intro rfl (And.intro rfl (And.intro rfl (And.intro rfl (And.intro rfl (And.intro rfl (And.intro rfl (And.intro rfl trivial)))))))))))
      intro x9_37 h
      refine g_subk (ctX9_cost_J180 hC hR hZ ?_ x3 x5 x7 r_17 x9_37 M h) (And.intro rfl (And.intro rfl (And.intro rfl (And.intro rfl (And.intro rfl (And.intro rfl (And.intro rfl (And.intro rfl (And.intro rfl (And.intro rfl trivial))))))))))
      · intro x3_52 x5_53 x7_54 M_55 h
        exact g_subk (ih x3_52 x5_53 x7_54 M_55 h) (And.intro rfl (And.intro rfl (And.intro rfl (And.intro rfl (And.intro rfl (And.intro rfl (And.intro rfl (And.intro rfl trivial))))))))
    · replace h := hB hc_14
      clear hA hB
      exact g_subk (hK263 x3 x5 M h) (And.intro rfl (And.intro rfl (And.intro rfl (And.intro rfl (And.intro rfl (And.intro rfl (And.intro rfl trivial)))))))
def fX9_cost_L21  (x1 : Int) (x2 : Int) : Nat → Int → Int → Int → Int → gMem → (Int → Int → Int → gMem → Prop) → (Int → gMem → Prop) → Prop
  | 0, _, _, _, _, _, _, _ => False
  | n21 + 1, x3, x4, x5, x6, M, K269, Q =>
    (rg x6 ∧ (x6 < 8 →
    (rg x2 ∧ (0 ≤ x6 ∧ x6 < 32) ∧ (rg (band (shr x2 x6) 1) ∧ ((band (shr x2 x6) 1) = 0 →
      fX9_cost_L21 x1 x2 n21 x3 x4 x5 (x6 + 1) M K269 Q) ∧
      (¬ (band (shr x2 x6) 1) = 0 →
      (fX9_cutsOf x1 x6 M (fun M_11 =>
        ∃ n_60, fX9_cost_L59 x1 x2 (x4 + (M_11 0 10)) x6 n_60 x3 x5 0 M_11 (fun x3_57 x5_58 M_59 =>
        fX9_cost_L21 x1 x2 n21 x3_57 (x4 + (M_11 0 10)) x5_58 (x6 + 1) M_59 K269 Q) Q)))))) ∧
    (¬ x6 < 8 →
    K269 x3 x4 x5 M))
set_option maxHeartbeats 4000000 in
set_option maxRecDepth 100000 in
theorem ctX9_cost_L21 {y : gY} {z : gZ} {l : Launch} {x1 : Int} {x2 : Int} {Q : Int → gMem → Prop} {K269 : Int → Int → Int → gMem → Prop} (hC : gC y z l cX9_cost RX9 11 wX9_cost rmX9_cost) (hR : gRI y z mL .int Q) (hZ : gZm z)  (hK269 : ∀ (x3 : Int) (x4 : Int) (x5 : Int) (M : gMem), K269 x3 x4 x5 M → gW y z mL 269 [some (vr z 0), none, none, some (vi x3), some (vi x4), some (vi x5), none, none, none, none, none] [] M) :
    ∀ (n : Nat) (x3 : Int) (x4 : Int) (x5 : Int) (x6 : Int) (M : gMem), fX9_cost_L21 x1 x2 n x3 x4 x5 x6 M K269 Q → gW y z mL 21 [some (vr z 0), some (vi x1), some (vi x2), some (vi x3), some (vi x4), some (vi x5), some (vi x6), none, none, none, none] [] M := by
  intro n
  induction n with
  | zero => intro x3 x4 x5 x6 M h; exact False.elim h
  | succ n21 ih =>
    intro x3 x4 x5 x6 M h
    replace h : (rg x6 ∧ (x6 < 8 →
    (rg x2 ∧ (0 ≤ x6 ∧ x6 < 32) ∧ (rg (band (shr x2 x6) 1) ∧ ((band (shr x2 x6) 1) = 0 →
      fX9_cost_L21 x1 x2 n21 x3 x4 x5 (x6 + 1) M K269 Q) ∧
      (¬ (band (shr x2 x6) 1) = 0 →
      (fX9_cutsOf x1 x6 M (fun M_11 =>
        ∃ n_60, fX9_cost_L59 x1 x2 (x4 + (M_11 0 10)) x6 n_60 x3 x5 0 M_11 (fun x3_57 x5_58 M_59 =>
        fX9_cost_L21 x1 x2 n21 x3_57 (x4 + (M_11 0 10)) x5_58 (x6 + 1) M_59 K269 Q) Q)))))) ∧
    (¬ x6 < 8 →
    K269 x3 x4 x5 M)) := h
    refine g_iload hC dX9_cost_21 rfl ?_
    refine g_bipush hC dX9_cost_23 (by decide) ?_
    obtain ⟨hr_5, hA, hB⟩ := h
    refine g_cge hC 269 hr_5 (by decide) dX9_cost_25 (by decide) (fun hc_6 => ?_) (fun hc_6 => ?_)
    · replace h := hA hc_6
      clear hA hB
      refine g_iload_n hC dX9_cost_28 rfl rfl ?_
      refine g_iload hC dX9_cost_29 rfl ?_
      obtain ⟨hr_7, hr_8, h⟩ := h
      refine g_ishr hC hr_7 hr_8 dX9_cost_31 ?_
      refine g_iconst hC dX9_cost_32 ?_
      refine g_iand hC dX9_cost_33 ?_
      obtain ⟨hr_9, hA, hB⟩ := h
      refine g_ine hC 40 hr_9 dX9_cost_34 (by decide) (fun hc_10 => ?_) (fun hc_10 => ?_)
      · replace h := hA hc_10
        clear hA hB
        refine g_goto hC 263 dX9_cost_37 (by decide) ?_
        refine g_iinc2 (lc' := [some (vr z 0), some (vi x1), some (vi x2), some (vi x3), some (vi x4), some (vi x5), some (vi (x6 + 1)), none, none, none, none]) hC dX9_cost_263 rfl rfl ?_
        refine g_goto hC 21 dX9_cost_266 (by decide) ?_
        exact g_subk (ih x3 x4 x5 (x6 + 1) M h) (And.intro rfl (And.intro rfl (And.intro rfl (And.intro rfl (And.intro rfl (And.intro rfl (And.intro rfl trivial)))))))
      · replace h := hB hc_10
        clear hA hB
        refine g_aload_n hC dX9_cost_40 rfl rfl ?_
        refine g_iload_n hC dX9_cost_41 rfl rfl ?_
        refine g_iload hC dX9_cost_42 rfl ?_
        refine g_callv (g_runV (As := [(vi x1), (vi x6)]) (rest := []) hC rfl (ctX9_cutsOf hZ  h) rfl (gm_k9 hZ) (kwX9_cutsOf (by decide) (by decide)) rfl (wc wd_869) (wc wd_871) (wc wd_24) rfl (Nat.le_of_ble_eq_true rfl) rfl dX9_cost_44) (fun M_11 h => ?_)
        refine g_iload hC dX9_cost_47 rfl ?_
        refine g_aload_n hC dX9_cost_49 rfl rfl ?_
        refine g_geti (ji := 10) hC rfl (gm_k9 hZ) iwX9 10 (by decide) rfl rfl (wc wd_698) dX9_cost_50 rfl ?_
        refine g_iadd hC dX9_cost_53 ?_
        refine g_istore2 (lc' := [some (vr z 0), some (vi x1), some (vi x2), some (vi x3), some (vi (x4 + (M_11 0 10))), some (vi x5), some (vi x6), none, none, none, none]) hC dX9_cost_54 (Nat.le_of_ble_eq_true rfl) rfl ?_
        refine g_iconst hC dX9_cost_56 ?_
        refine g_istore2 (lc' := [some (vr z 0), some (vi x1), some (vi x2), some (vi x3), some (vi (x4 + (M_11 0 10))), some (vi x5), some (vi x6), some (vi 0), none, none, none]) hC dX9_cost_57 (Nat.le_of_ble_eq_true rfl) rfl ?_
        obtain ⟨n_60, h⟩ := h
        refine g_subk (ctX9_cost_L59 hC hR hZ ?_ n_60 x3 x5 0 M_11 h) (And.intro rfl (And.intro rfl (And.intro rfl (And.intro rfl (And.intro rfl (And.intro rfl (And.intro rfl (And.intro rfl trivial))))))))
        intro x3_57 x5_58 M_59 h
        refine g_iinc2 (lc' := [some (vr z 0), some (vi x1), some (vi x2), some (vi x3_57), some (vi (x4 + (M_11 0 10))), some (vi x5_58), some (vi (x6 + 1)), none, none, none, none]) hC dX9_cost_263 rfl rfl ?_
        refine g_goto hC 21 dX9_cost_266 (by decide) ?_
        exact g_subk (ih x3_57 (x4 + (M_11 0 10)) x5_58 (x6 + 1) M_59 h) (And.intro rfl (And.intro rfl (And.intro rfl (And.intro rfl (And.intro rfl (And.intro rfl (And.intro rfl trivial)))))))
    · replace h := hB hc_6
      clear hA hB
      exact g_subk (hK269 x3 x4 x5 M h) (And.intro rfl (And.intro rfl (And.intro rfl (And.intro rfl trivial))))
def fX9_cost (x1 : Int) (x2 : Int) (M : gMem) (Q : Int → gMem → Prop) : Prop :=
  (fX9_isRule x1 M (fun r_1 =>
  (rg r_1 ∧ (r_1 = 0 →
  Q (-1) M) ∧
  (¬ r_1 = 0 →
  ∃ n_65, fX9_cost_L21 x1 x2 n_65 0 0 0 0 M (fun x3_61 x4_62 x5_63 M_64 =>
    Q ((x5_63 + ((M_64 0 14) * x3_61)) + ((M_64 0 15) * x4_62)) M_64) Q))))
set_option maxHeartbeats 4000000 in
set_option maxRecDepth 100000 in
theorem ctX9_cost {l : Launch} {z : gZ} (hZ : gZm z) {x1 : Int} {x2 : Int}  {M : gMem} {Q : Int → gMem → Prop} (h : fX9_cost x1 x2 M Q) : gMI l z mL yX9_cost wX9_cost rmX9_cost [(vr z 0), (vi x1), (vi x2)] M Q := by
  refine g_metI .int (by decide) rfl rfl (gCat_all (And.intro rfl (And.intro rfl (And.intro rfl trivial)))) (Nat.le_of_ble_eq_true rfl) ?_
  intro y hC hR
  replace h : (fX9_isRule x1 M (fun r_1 =>
  (rg r_1 ∧ (r_1 = 0 →
  Q (-1) M) ∧
  (¬ r_1 = 0 →
  ∃ n_65, fX9_cost_L21 x1 x2 n_65 0 0 0 0 M (fun x3_61 x4_62 x5_63 M_64 =>
    Q ((x5_63 + ((M_64 0 14) * x3_61)) + ((M_64 0 15) * x4_62)) M_64) Q)))) := h
  refine g_lc (lc' := [some (vr z 0), some (vi x1), some (vi x2), none, none, none, none, none, none, none, none]) rfl ?_
  refine g_aload_n hC dX9_cost_0 rfl rfl ?_
  refine g_iload_n hC dX9_cost_1 rfl rfl ?_
  refine g_calli (g_runV (As := [(vi x1)]) (rest := []) hC rfl (ctX9_isRule hZ  h) rfl (gm_k9 hZ) (kwX9_isRule (by decide) (by decide)) rfl (wc wd_852) (wc wd_854) (wc wd_21) rfl (Nat.le_of_ble_eq_true rfl) rfl dX9_cost_2) (fun r_1 M_2 h => ?_)
  obtain ⟨rfl, h⟩ := h
  obtain ⟨hr_3, hA, hB⟩ := h
  refine g_ine hC 10 hr_3 dX9_cost_5 (by decide) (fun hc_4 => ?_) (fun hc_4 => ?_)
  · replace h := hA hc_4
    clear hA hB
    refine g_iconst hC dX9_cost_8 ?_
    exact g_iret hC hR dX9_cost_9 h
  · replace h := hB hc_4
    clear hA hB
    refine g_iconst hC dX9_cost_10 ?_
    refine g_istore_n2 (lc' := [some (vr z 0), some (vi x1), some (vi x2), some (vi 0), none, none, none, none, none, none, none]) hC dX9_cost_11 rfl (Nat.le_of_ble_eq_true rfl) rfl ?_
    refine g_iconst hC dX9_cost_12 ?_
    refine g_istore2 (lc' := [some (vr z 0), some (vi x1), some (vi x2), some (vi 0), some (vi 0), none, none, none, none, none, none]) hC dX9_cost_13 (Nat.le_of_ble_eq_true rfl) rfl ?_
    refine g_iconst hC dX9_cost_15 ?_
    refine g_istore2 (lc' := [some (vr z 0), some (vi x1), some (vi x2), some (vi 0), some (vi 0), some (vi 0), none, none, none, none, none]) hC dX9_cost_16 (Nat.le_of_ble_eq_true rfl) rfl ?_
    refine g_iconst hC dX9_cost_18 ?_
    refine g_istore2 (lc' := [some (vr z 0), some (vi x1), some (vi x2), some (vi 0), some (vi 0), some (vi 0), some (vi 0), none, none, none, none]) hC dX9_cost_19 (Nat.le_of_ble_eq_true rfl) rfl ?_
    obtain ⟨n_65, h⟩ := h
    refine g_subk (ctX9_cost_L21 hC hR hZ ?_ n_65 0 0 0 0 M h) (And.intro rfl (And.intro rfl (And.intro rfl (And.intro rfl (And.intro rfl (And.intro rfl (And.intro rfl trivial)))))))
    intro x3_61 x4_62 x5_63 M_64 h
    refine g_iload hC dX9_cost_269 rfl ?_
    refine g_aload_n hC dX9_cost_271 rfl rfl ?_
    refine g_geti (ji := 14) hC rfl (gm_k9 hZ) iwX9 14 (by decide) rfl rfl (wc wd_702) dX9_cost_272 rfl ?_
    refine g_iload_n hC dX9_cost_275 rfl rfl ?_
    refine g_imul hC dX9_cost_276 ?_
    refine g_iadd hC dX9_cost_277 ?_
    refine g_aload_n hC dX9_cost_278 rfl rfl ?_
    refine g_geti (ji := 15) hC rfl (gm_k9 hZ) iwX9 15 (by decide) rfl rfl (wc wd_703) dX9_cost_279 rfl ?_
    refine g_iload hC dX9_cost_282 rfl ?_
    refine g_imul hC dX9_cost_284 ?_
    refine g_iadd hC dX9_cost_285 ?_
    exact g_iret hC hR dX9_cost_286 h
abbrev wX9_best : List Cond := Cond.code yX9_best cX9_best 6 (some .int) :: gTs
abbrev rmX9_best : Room := { frames := 4, cells := 0, slots := 0, locals := 105 }
theorem kwX9_best {c0 : Cond} {rm : Room} (h1 : rmX9_best.frames + 1 ≤ rm.frames) (h2 : 8 + (6 + 11) + rmX9_best.locals ≤ rm.locals) : gCw (c0 :: gTs) rm yX9_best cX9_best 6 (some .int) wX9_best rmX9_best 1 := gCw_of wd_912 wd_49 h1 h2 (by decide +kernel)
def fX9_best_L7  (x1 : Int) : Nat → Int → Int → Int → gMem → (Int → gMem → Prop) → Prop
  | 0, _, _, _, _, _ => False
  | n7 + 1, x2, x3, x4, M, Q =>
    (rg x4 ∧ (x4 < 6 →
    (fX9_isRule x4 M (fun r_3 =>
      (rg r_3 ∧ (r_3 = 0 →
      fX9_best_L7 x1 n7 x2 x3 (x4 + 1) M Q) ∧
      (¬ r_3 = 0 →
      (fX9_cost x4 x1 M (fun r_7 M_8 =>
        (rg x2 ∧ (x2 = (-1) →
        fX9_best_L7 x1 n7 x4 r_7 (x4 + 1) M_8 Q) ∧
        (¬ x2 = (-1) →
        (rg r_7 ∧ rg x3 ∧ (r_7 < x3 →
          fX9_best_L7 x1 n7 x4 r_7 (x4 + 1) M_8 Q) ∧
          (¬ r_7 < x3 →
          fX9_best_L7 x1 n7 x2 x3 (x4 + 1) M_8 Q))))))))))) ∧
    (¬ x4 < 6 →
    Q x2 M))
set_option maxHeartbeats 4000000 in
set_option maxRecDepth 100000 in
theorem ctX9_best_L7 {y : gY} {z : gZ} {l : Launch} {x1 : Int} {Q : Int → gMem → Prop}  (hC : gC y z l cX9_best RX9 6 wX9_best rmX9_best) (hR : gRI y z mL .int Q) (hZ : gZm z)  :
    ∀ (n : Nat) (x2 : Int) (x3 : Int) (x4 : Int) (M : gMem), fX9_best_L7 x1 n x2 x3 x4 M Q → gW y z mL 7 [some (vr z 0), some (vi x1), some (vi x2), some (vi x3), some (vi x4), none] [] M := by
  intro n
  induction n with
  | zero => intro x2 x3 x4 M h; exact False.elim h
  | succ n7 ih =>
    intro x2 x3 x4 M h
    replace h : (rg x4 ∧ (x4 < 6 →
    (fX9_isRule x4 M (fun r_3 =>
      (rg r_3 ∧ (r_3 = 0 →
      fX9_best_L7 x1 n7 x2 x3 (x4 + 1) M Q) ∧
      (¬ r_3 = 0 →
      (fX9_cost x4 x1 M (fun r_7 M_8 =>
        (rg x2 ∧ (x2 = (-1) →
        fX9_best_L7 x1 n7 x4 r_7 (x4 + 1) M_8 Q) ∧
        (¬ x2 = (-1) →
        (rg r_7 ∧ rg x3 ∧ (r_7 < x3 →
          fX9_best_L7 x1 n7 x4 r_7 (x4 + 1) M_8 Q) ∧
          (¬ r_7 < x3 →
          fX9_best_L7 x1 n7 x2 x3 (x4 + 1) M_8 Q))))))))))) ∧
    (¬ x4 < 6 →
    Q x2 M)) := h
    refine g_iload hC dX9_best_7 rfl ?_
    refine g_bipush hC dX9_best_9 (by decide) ?_
    obtain ⟨hr_1, hA, hB⟩ := h
    refine g_cge hC 61 hr_1 (by decide) dX9_best_11 (by decide) (fun hc_2 => ?_) (fun hc_2 => ?_)
    · replace h := hA hc_2
      clear hA hB
      refine g_aload_n hC dX9_best_14 rfl rfl ?_
      refine g_iload hC dX9_best_15 rfl ?_
      refine g_calli (g_runV (As := [(vi x4)]) (rest := []) hC rfl (ctX9_isRule hZ  h) rfl (gm_k9 hZ) (kwX9_isRule (by decide) (by decide)) rfl (wc wd_852) (wc wd_854) (wc wd_21) rfl (Nat.le_of_ble_eq_true rfl) rfl dX9_best_17) (fun r_3 M_4 h => ?_)
      obtain ⟨rfl, h⟩ := h
      obtain ⟨hr_5, hA, hB⟩ := h
      refine g_ine hC 26 hr_5 dX9_best_20 (by decide) (fun hc_6 => ?_) (fun hc_6 => ?_)
      · replace h := hA hc_6
        clear hA hB
        refine g_goto hC 55 dX9_best_23 (by decide) ?_
        refine g_iinc2 (lc' := [some (vr z 0), some (vi x1), some (vi x2), some (vi x3), some (vi (x4 + 1)), none]) hC dX9_best_55 rfl rfl ?_
        refine g_goto hC 7 dX9_best_58 (by decide) ?_
        exact g_subk (ih x2 x3 (x4 + 1) M h) (And.intro rfl (And.intro rfl (And.intro rfl (And.intro rfl (And.intro rfl trivial)))))
      · replace h := hB hc_6
        clear hA hB
        refine g_aload_n hC dX9_best_26 rfl rfl ?_
        refine g_iload hC dX9_best_27 rfl ?_
        refine g_iload_n hC dX9_best_29 rfl rfl ?_
        refine g_calli (g_runV (As := [(vi x4), (vi x1)]) (rest := []) hC rfl (ctX9_cost hZ  h) rfl (gm_k9 hZ) (kwX9_cost (by decide) (by decide)) rfl (wc wd_913) (wc wd_902) (wc wd_903) rfl (Nat.le_of_ble_eq_true rfl) rfl dX9_best_30) (fun r_7 M_8 h => ?_)
        refine g_istore2 (lc' := [some (vr z 0), some (vi x1), some (vi x2), some (vi x3), some (vi x4), some (vi r_7)]) hC dX9_best_33 (Nat.le_of_ble_eq_true rfl) rfl ?_
        refine g_iload_n hC dX9_best_35 rfl rfl ?_
        refine g_iconst hC dX9_best_36 ?_
        obtain ⟨hr_9, hA, hB⟩ := h
        refine g_ceq hC 49 hr_9 (by decide) dX9_best_37 (by decide) (fun hc_10 => ?_) (fun hc_10 => ?_)
        · replace h := hA hc_10
          clear hA hB
          refine g_iload hC dX9_best_49 rfl ?_
          refine g_istore_n2 (lc' := [some (vr z 0), some (vi x1), some (vi x4), some (vi x3), some (vi x4), some (vi r_7)]) hC dX9_best_51 rfl (Nat.le_of_ble_eq_true rfl) rfl ?_
          refine g_iload hC dX9_best_52 rfl ?_
          refine g_istore_n2 (lc' := [some (vr z 0), some (vi x1), some (vi x4), some (vi r_7), some (vi x4), some (vi r_7)]) hC dX9_best_54 rfl (Nat.le_of_ble_eq_true rfl) rfl ?_
          refine g_iinc2 (lc' := [some (vr z 0), some (vi x1), some (vi x4), some (vi r_7), some (vi (x4 + 1)), some (vi r_7)]) hC dX9_best_55 rfl rfl ?_
          refine g_goto hC 7 dX9_best_58 (by decide) ?_
          exact g_subk (ih x4 r_7 (x4 + 1) M_8 h) (And.intro rfl (And.intro rfl (And.intro rfl (And.intro rfl (And.intro rfl trivial)))))
        · replace h := hB hc_10
          clear hA hB
          refine g_iload hC dX9_best_40 rfl ?_
          refine g_iload_n hC dX9_best_42 rfl rfl ?_
          obtain ⟨hr_11, hr_12, hA, hB⟩ := h
          refine g_clt hC 49 hr_11 hr_12 dX9_best_43 (by decide) (fun hc_13 => ?_) (fun hc_13 => ?_)
          · replace h := hA hc_13
            clear hA hB
            refine g_iload hC dX9_best_49 rfl ?_
            refine g_istore_n2 (lc' := [some (vr z 0), some (vi x1), some (vi x4), some (vi x3), some (vi x4), some (vi r_7)]) hC dX9_best_51 rfl (Nat.le_of_ble_eq_true rfl) rfl ?_
            refine g_iload hC dX9_best_52 rfl ?_
            refine g_istore_n2 (lc' := [some (vr z 0), some (vi x1), some (vi x4), some (vi r_7), some (vi x4), some (vi r_7)]) hC dX9_best_54 rfl (Nat.le_of_ble_eq_true rfl) rfl ?_
            refine g_iinc2 (lc' := [some (vr z 0), some (vi x1), some (vi x4), some (vi r_7), some (vi (x4 + 1)), some (vi r_7)]) hC dX9_best_55 rfl rfl ?_
            refine g_goto hC 7 dX9_best_58 (by decide) ?_
            exact g_subk (ih x4 r_7 (x4 + 1) M_8 h) (And.intro rfl (And.intro rfl (And.intro rfl (And.intro rfl (And.intro rfl trivial)))))
          · replace h := hB hc_13
            clear hA hB
            refine g_goto hC 55 dX9_best_46 (by decide) ?_
            refine g_iinc2 (lc' := [some (vr z 0), some (vi x1), some (vi x2), some (vi x3), some (vi (x4 + 1)), some (vi r_7)]) hC dX9_best_55 rfl rfl ?_
            refine g_goto hC 7 dX9_best_58 (by decide) ?_
            exact g_subk (ih x2 x3 (x4 + 1) M_8 h) (And.intro rfl (And.intro rfl (And.intro rfl (And.intro rfl (And.intro rfl trivial)))))
    · replace h := hB hc_2
      clear hA hB
      refine g_iload_n hC dX9_best_61 rfl rfl ?_
      exact g_iret hC hR dX9_best_62 h
def fX9_best (x1 : Int) (M : gMem) (Q : Int → gMem → Prop) : Prop :=
  ∃ n_14, fX9_best_L7 x1 n_14 (-1) 0 0 M Q
set_option maxHeartbeats 4000000 in
set_option maxRecDepth 100000 in
theorem ctX9_best {l : Launch} {z : gZ} (hZ : gZm z) {x1 : Int}  {M : gMem} {Q : Int → gMem → Prop} (h : fX9_best x1 M Q) : gMI l z mL yX9_best wX9_best rmX9_best [(vr z 0), (vi x1)] M Q := by
  refine g_metI .int (by decide) rfl rfl (gCat_all (And.intro rfl (And.intro rfl trivial))) (Nat.le_of_ble_eq_true rfl) ?_
  intro y hC hR
  replace h : ∃ n_14, fX9_best_L7 x1 n_14 (-1) 0 0 M Q := h
  refine g_lc (lc' := [some (vr z 0), some (vi x1), none, none, none, none]) rfl ?_
  refine g_iconst hC dX9_best_0 ?_
  refine g_istore_n2 (lc' := [some (vr z 0), some (vi x1), some (vi (-1)), none, none, none]) hC dX9_best_1 rfl (Nat.le_of_ble_eq_true rfl) rfl ?_
  refine g_iconst hC dX9_best_2 ?_
  refine g_istore_n2 (lc' := [some (vr z 0), some (vi x1), some (vi (-1)), some (vi 0), none, none]) hC dX9_best_3 rfl (Nat.le_of_ble_eq_true rfl) rfl ?_
  refine g_iconst hC dX9_best_4 ?_
  refine g_istore2 (lc' := [some (vr z 0), some (vi x1), some (vi (-1)), some (vi 0), some (vi 0), none]) hC dX9_best_5 (Nat.le_of_ble_eq_true rfl) rfl ?_
  obtain ⟨n_14, h⟩ := h
  refine g_subk (ctX9_best_L7 hC hR hZ  n_14 (-1) 0 0 M h) (And.intro rfl (And.intro rfl (And.intro rfl (And.intro rfl (And.intro rfl trivial)))))
abbrev wX9_isPiece : List Cond := Cond.code yX9_isPiece cX9_isPiece 2 (some .boolean) :: gTs
abbrev rmX9_isPiece : Room := { frames := 0, cells := 0, slots := 0, locals := 0 }
theorem kwX9_isPiece {c0 : Cond} {rm : Room} (h1 : rmX9_isPiece.frames + 1 ≤ rm.frames) (h2 : 8 + (2 + 11) + rmX9_isPiece.locals ≤ rm.locals) : gCw (c0 :: gTs) rm yX9_isPiece cX9_isPiece 2 (some .boolean) wX9_isPiece rmX9_isPiece 1 := gCw_of wd_925 wd_49 h1 h2 (by decide +kernel)
def fX9_isPiece (x1 : Int) (M : gMem) (Q : Int → Prop) : Prop :=
  (rg x1 ∧ (0 < x1 →
  (rg x1 ∧ (300 < x1 →
    Q 0) ∧
    (¬ 300 < x1 →
    ((0 ≤ x1 ∧ x1 < 301) ∧ (rg (M 16 x1) ∧ (0 < (M 16 x1) →
      Q 1) ∧
      (¬ 0 < (M 16 x1) →
      Q 0)))))) ∧
  (¬ 0 < x1 →
  Q 0))
set_option maxHeartbeats 4000000 in
set_option maxRecDepth 100000 in
theorem ctX9_isPiece {l : Launch} {z : gZ} (hZ : gZm z) {x1 : Int}  {M : gMem} {Q : Int → Prop} (h : fX9_isPiece x1 M Q) : gMI l z mL yX9_isPiece wX9_isPiece rmX9_isPiece [(vr z 0), (vi x1)] M (fun r M' => M = M' ∧ Q r) := by
  refine g_metI .boolean (by decide) rfl rfl (gCat_all (And.intro rfl (And.intro rfl trivial))) (Nat.le_of_ble_eq_true rfl) ?_
  intro y hC hR
  replace h : (rg x1 ∧ (0 < x1 →
  (rg x1 ∧ (300 < x1 →
    Q 0) ∧
    (¬ 300 < x1 →
    ((0 ≤ x1 ∧ x1 < 301) ∧ (rg (M 16 x1) ∧ (0 < (M 16 x1) →
      Q 1) ∧
      (¬ 0 < (M 16 x1) →
      Q 0)))))) ∧
  (¬ 0 < x1 →
  Q 0)) := h
  refine g_lc (lc' := [some (vr z 0), some (vi x1)]) rfl ?_
  refine g_iload_n hC dX9_isPiece_0 rfl rfl ?_
  obtain ⟨hr_1, hA, hB⟩ := h
  refine g_ile hC 24 hr_1 dX9_isPiece_1 (by decide) (fun hc_2 => ?_) (fun hc_2 => ?_)
  · replace h := hA hc_2
    clear hA hB
    refine g_iload_n hC dX9_isPiece_4 rfl rfl ?_
    refine g_sipush hC dX9_isPiece_5 (by decide) ?_
    obtain ⟨hr_3, hA, hB⟩ := h
    refine g_cgt hC 24 hr_3 (by decide) dX9_isPiece_8 (by decide) (fun hc_4 => ?_) (fun hc_4 => ?_)
    · replace h := hA hc_4
      clear hA hB
      refine g_iconst hC dX9_isPiece_24 ?_
      exact g_zret hC hR (by decide) dX9_isPiece_25 ⟨rfl, h⟩
    · replace h := hB hc_4
      clear hA hB
      refine g_aload_n hC dX9_isPiece_11 rfl rfl ?_
      refine g_getr (r := 16) hC rfl (gm_k9 hZ) iwX9 20 (by decide) rfl rfl (wc wd_708) dX9_isPiece_12 ?_
      refine g_iload_n hC dX9_isPiece_15 rfl rfl ?_
      obtain ⟨hb_5, h⟩ := h
      refine g_iald hC 0 rfl (m_t0 hZ) (by decide) hb_5 dX9_isPiece_16 ?_
      obtain ⟨hr_6, hA, hB⟩ := h
      refine g_ile hC 24 hr_6 dX9_isPiece_17 (by decide) (fun hc_7 => ?_) (fun hc_7 => ?_)
      · replace h := hA hc_7
        clear hA hB
        refine g_iconst hC dX9_isPiece_20 ?_
        refine g_goto hC 25 dX9_isPiece_21 (by decide) ?_
        exact g_zret hC hR (by decide) dX9_isPiece_25 ⟨rfl, h⟩
      · replace h := hB hc_7
        clear hA hB
        refine g_iconst hC dX9_isPiece_24 ?_
        exact g_zret hC hR (by decide) dX9_isPiece_25 ⟨rfl, h⟩
  · replace h := hB hc_2
    clear hA hB
    refine g_iconst hC dX9_isPiece_24 ?_
    exact g_zret hC hR (by decide) dX9_isPiece_25 ⟨rfl, h⟩
abbrev wX9_isThat : List Cond := Cond.code yX9_isThat cX9_isThat 6 (some .boolean) :: gTs
abbrev rmX9_isThat : Room := { frames := 0, cells := 0, slots := 0, locals := 0 }
theorem kwX9_isThat {c0 : Cond} {rm : Room} (h1 : rmX9_isThat.frames + 1 ≤ rm.frames) (h2 : 8 + (6 + 11) + rmX9_isThat.locals ≤ rm.locals) : gCw (c0 :: gTs) rm yX9_isThat cX9_isThat 6 (some .boolean) wX9_isThat rmX9_isThat 4 := gCw_of wd_929 wd_49 h1 h2 (by decide +kernel)
def fX9_isThat_L18  (x1 : Int) (x2 : Int) (x3 : Int) (x4 : Int) (M : gMem) : Nat → Int → (Int → Prop) → Prop
  | 0, _, _ => False
  | n18 + 1, x5, Q =>
    (rg x5 ∧ rg x4 ∧ (x5 < x4 →
    ((0 ≤ (((200 * x1) + x5) - x3) ∧ (((200 * x1) + x5) - x3) < 60200) ∧ ((0 ≤ ((600 * x2) + x5) ∧ ((600 * x2) + x5) < 4800) ∧ (rg (M 17 (((200 * x1) + x5) - x3)) ∧ rg (M 2 ((600 * x2) + x5)) ∧ ((M 17 (((200 * x1) + x5) - x3)) = (M 2 ((600 * x2) + x5)) →
      fX9_isThat_L18 x1 x2 x3 x4 M n18 (x5 + 1) Q) ∧
      (¬ (M 17 (((200 * x1) + x5) - x3)) = (M 2 ((600 * x2) + x5)) →
      Q 0))))) ∧
    (¬ x5 < x4 →
    Q 1))
set_option maxHeartbeats 4000000 in
set_option maxRecDepth 100000 in
theorem ctX9_isThat_L18 {y : gY} {z : gZ} {l : Launch} {x1 : Int} {x2 : Int} {x3 : Int} {x4 : Int} {M : gMem} {Q : Int → Prop}  (hC : gC y z l cX9_isThat RX9 6 wX9_isThat rmX9_isThat) (hR : gRI y z mL .boolean (fun r M' => M = M' ∧ Q r)) (hZ : gZm z)  :
    ∀ (n : Nat) (x5 : Int), fX9_isThat_L18 x1 x2 x3 x4 M n x5 Q → gW y z mL 18 [some (vr z 0), some (vi x1), some (vi x2), some (vi x3), some (vi x4), some (vi x5)] [] M := by
  intro n
  induction n with
  | zero => intro x5 h; exact False.elim h
  | succ n18 ih =>
    intro x5 h
    replace h : (rg x5 ∧ rg x4 ∧ (x5 < x4 →
    ((0 ≤ (((200 * x1) + x5) - x3) ∧ (((200 * x1) + x5) - x3) < 60200) ∧ ((0 ≤ ((600 * x2) + x5) ∧ ((600 * x2) + x5) < 4800) ∧ (rg (M 17 (((200 * x1) + x5) - x3)) ∧ rg (M 2 ((600 * x2) + x5)) ∧ ((M 17 (((200 * x1) + x5) - x3)) = (M 2 ((600 * x2) + x5)) →
      fX9_isThat_L18 x1 x2 x3 x4 M n18 (x5 + 1) Q) ∧
      (¬ (M 17 (((200 * x1) + x5) - x3)) = (M 2 ((600 * x2) + x5)) →
      Q 0))))) ∧
    (¬ x5 < x4 →
    Q 1)) := h
    refine g_iload hC dX9_isThat_18 rfl ?_
    refine g_iload hC dX9_isThat_20 rfl ?_
    obtain ⟨hr_5, hr_6, hA, hB⟩ := h
    refine g_cge hC 64 hr_5 hr_6 dX9_isThat_22 (by decide) (fun hc_7 => ?_) (fun hc_7 => ?_)
    · replace h := hA hc_7
      clear hA hB
      refine g_aload_n hC dX9_isThat_25 rfl rfl ?_
      refine g_getr (r := 17) hC rfl (gm_k9 hZ) iwX9 21 (by decide) rfl rfl (wc wd_709) dX9_isThat_26 ?_
      refine g_sipush hC dX9_isThat_29 (by decide) ?_
      refine g_iload_n hC dX9_isThat_32 rfl rfl ?_
      refine g_imul hC dX9_isThat_33 ?_
      refine g_iload hC dX9_isThat_34 rfl ?_
      refine g_iadd hC dX9_isThat_36 ?_
      refine g_iload_n hC dX9_isThat_37 rfl rfl ?_
      refine g_isub hC dX9_isThat_38 ?_
      obtain ⟨hb_8, h⟩ := h
      refine g_iald hC 0 rfl (m_t0 hZ) (by decide) hb_8 dX9_isThat_39 ?_
      refine g_aload_n hC dX9_isThat_40 rfl rfl ?_
      refine g_getr (r := 2) hC rfl (gm_k9 hZ) iwX9 1 (by decide) rfl rfl (wc wd_689) dX9_isThat_41 ?_
      refine g_sipush hC dX9_isThat_44 (by decide) ?_
      refine g_iload_n hC dX9_isThat_47 rfl rfl ?_
      refine g_imul hC dX9_isThat_48 ?_
      refine g_iload hC dX9_isThat_49 rfl ?_
      refine g_iadd hC dX9_isThat_51 ?_
      obtain ⟨hb_9, h⟩ := h
      refine g_iald hC 0 rfl (m_t0 hZ) (by decide) hb_9 dX9_isThat_52 ?_
      obtain ⟨hr_10, hr_11, hA, hB⟩ := h
      refine g_ceq hC 58 hr_10 hr_11 dX9_isThat_53 (by decide) (fun hc_12 => ?_) (fun hc_12 => ?_)
      · replace h := hA hc_12
        clear hA hB
        refine g_iinc2 (lc' := [some (vr z 0), some (vi x1), some (vi x2), some (vi x3), some (vi x4), some (vi (x5 + 1))]) hC dX9_isThat_58 rfl rfl ?_
        refine g_goto hC 18 dX9_isThat_61 (by decide) ?_
        exact g_subk (ih (x5 + 1) h) (And.intro rfl (And.intro rfl (And.intro rfl (And.intro rfl (And.intro rfl (And.intro rfl trivial))))))
      · replace h := hB hc_12
        clear hA hB
        refine g_iconst hC dX9_isThat_56 ?_
        exact g_zret hC hR (by decide) dX9_isThat_57 ⟨rfl, h⟩
    · replace h := hB hc_7
      clear hA hB
      refine g_iconst hC dX9_isThat_64 ?_
      exact g_zret hC hR (by decide) dX9_isThat_65 ⟨rfl, h⟩
def fX9_isThat (x1 : Int) (x2 : Int) (x3 : Int) (x4 : Int) (M : gMem) (Q : Int → Prop) : Prop :=
  ((0 ≤ x1 ∧ x1 < 301) ∧ (rg (M 16 x1) ∧ rg (x4 - x3) ∧ ((M 16 x1) = (x4 - x3) →
  ∃ n_13, fX9_isThat_L18 x1 x2 x3 x4 M n_13 x3 Q) ∧
  (¬ (M 16 x1) = (x4 - x3) →
  Q 0)))
set_option maxHeartbeats 4000000 in
set_option maxRecDepth 100000 in
theorem ctX9_isThat {l : Launch} {z : gZ} (hZ : gZm z) {x1 : Int} {x2 : Int} {x3 : Int} {x4 : Int}  {M : gMem} {Q : Int → Prop} (h : fX9_isThat x1 x2 x3 x4 M Q) : gMI l z mL yX9_isThat wX9_isThat rmX9_isThat [(vr z 0), (vi x1), (vi x2), (vi x3), (vi x4)] M (fun r M' => M = M' ∧ Q r) := by
  refine g_metI .boolean (by decide) rfl rfl (gCat_all (And.intro rfl (And.intro rfl (And.intro rfl (And.intro rfl (And.intro rfl trivial)))))) (Nat.le_of_ble_eq_true rfl) ?_
  intro y hC hR
  replace h : ((0 ≤ x1 ∧ x1 < 301) ∧ (rg (M 16 x1) ∧ rg (x4 - x3) ∧ ((M 16 x1) = (x4 - x3) →
  ∃ n_13, fX9_isThat_L18 x1 x2 x3 x4 M n_13 x3 Q) ∧
  (¬ (M 16 x1) = (x4 - x3) →
  Q 0))) := h
  refine g_lc (lc' := [some (vr z 0), some (vi x1), some (vi x2), some (vi x3), some (vi x4), none]) rfl ?_
  refine g_aload_n hC dX9_isThat_0 rfl rfl ?_
  refine g_getr (r := 16) hC rfl (gm_k9 hZ) iwX9 20 (by decide) rfl rfl (wc wd_708) dX9_isThat_1 ?_
  refine g_iload_n hC dX9_isThat_4 rfl rfl ?_
  obtain ⟨hb_1, h⟩ := h
  refine g_iald hC 0 rfl (m_t0 hZ) (by decide) hb_1 dX9_isThat_5 ?_
  refine g_iload hC dX9_isThat_6 rfl ?_
  refine g_iload_n hC dX9_isThat_8 rfl rfl ?_
  refine g_isub hC dX9_isThat_9 ?_
  obtain ⟨hr_2, hr_3, hA, hB⟩ := h
  refine g_ceq hC 15 hr_2 hr_3 dX9_isThat_10 (by decide) (fun hc_4 => ?_) (fun hc_4 => ?_)
  · replace h := hA hc_4
    clear hA hB
    refine g_iload_n hC dX9_isThat_15 rfl rfl ?_
    refine g_istore2 (lc' := [some (vr z 0), some (vi x1), some (vi x2), some (vi x3), some (vi x4), some (vi x3)]) hC dX9_isThat_16 (Nat.le_of_ble_eq_true rfl) rfl ?_
    obtain ⟨n_13, h⟩ := h
    refine g_subk (ctX9_isThat_L18 hC hR hZ  n_13 x3 h) (And.intro rfl (And.intro rfl (And.intro rfl (And.intro rfl (And.intro rfl (And.intro rfl trivial))))))
  · replace h := hB hc_4
    clear hA hB
    refine g_iconst hC dX9_isThat_13 ?_
    exact g_zret hC hR (by decide) dX9_isThat_14 ⟨rfl, h⟩
abbrev wX9_there : List Cond := Cond.code yX9_there cX9_there 3 (some .int) :: gTs
abbrev rmX9_there : Room := { frames := 1, cells := 0, slots := 0, locals := 21 }
theorem kwX9_there {c0 : Cond} {rm : Room} (h1 : rmX9_there.frames + 1 ≤ rm.frames) (h2 : 8 + (3 + 11) + rmX9_there.locals ≤ rm.locals) : gCw (c0 :: gTs) rm yX9_there cX9_there 3 (some .int) wX9_there rmX9_there 0 := gCw_of wd_933 wd_49 h1 h2 (by decide +kernel)
def fX9_there_L4  (M : gMem) : Nat → Int → Int → (Int → Prop) → Prop
  | 0, _, _, _ => False
  | n4 + 1, x1, x2, Q =>
    (rg x2 ∧ (300 < x2 →
    Q x1) ∧
    (¬ 300 < x2 →
    (fX9_isPiece x2 M (fun r_3 =>
      (rg r_3 ∧ (r_3 = 0 →
      fX9_there_L4 M n4 x1 (x2 + 1) Q) ∧
      (¬ r_3 = 0 →
      fX9_there_L4 M n4 (x1 + 1) (x2 + 1) Q))))))
set_option maxHeartbeats 4000000 in
set_option maxRecDepth 100000 in
theorem ctX9_there_L4 {y : gY} {z : gZ} {l : Launch}  {M : gMem} {Q : Int → Prop}  (hC : gC y z l cX9_there RX9 3 wX9_there rmX9_there) (hR : gRI y z mL .int (fun r M' => M = M' ∧ Q r)) (hZ : gZm z)  :
    ∀ (n : Nat) (x1 : Int) (x2 : Int), fX9_there_L4 M n x1 x2 Q → gW y z mL 4 [some (vr z 0), some (vi x1), some (vi x2)] [] M := by
  intro n
  induction n with
  | zero => intro x1 x2 h; exact False.elim h
  | succ n4 ih =>
    intro x1 x2 h
    replace h : (rg x2 ∧ (300 < x2 →
    Q x1) ∧
    (¬ 300 < x2 →
    (fX9_isPiece x2 M (fun r_3 =>
      (rg r_3 ∧ (r_3 = 0 →
      fX9_there_L4 M n4 x1 (x2 + 1) Q) ∧
      (¬ r_3 = 0 →
      fX9_there_L4 M n4 (x1 + 1) (x2 + 1) Q)))))) := h
    refine g_iload_n hC dX9_there_4 rfl rfl ?_
    refine g_sipush hC dX9_there_5 (by decide) ?_
    obtain ⟨hr_1, hA, hB⟩ := h
    refine g_cgt hC 28 hr_1 (by decide) dX9_there_8 (by decide) (fun hc_2 => ?_) (fun hc_2 => ?_)
    · replace h := hA hc_2
      clear hA hB
      refine g_iload_n hC dX9_there_28 rfl rfl ?_
      exact g_iret hC hR dX9_there_29 ⟨rfl, h⟩
    · replace h := hB hc_2
      clear hA hB
      refine g_aload_n hC dX9_there_11 rfl rfl ?_
      refine g_iload_n hC dX9_there_12 rfl rfl ?_
      refine g_calli (g_runV (As := [(vi x2)]) (rest := []) hC rfl (ctX9_isPiece hZ  h) rfl (gm_k9 hZ) (kwX9_isPiece (by decide) (by decide)) rfl (wc wd_922) (wc wd_924) (wc wd_31) rfl (Nat.le_of_ble_eq_true rfl) rfl dX9_there_13) (fun r_3 M_4 h => ?_)
      obtain ⟨rfl, h⟩ := h
      obtain ⟨hr_5, hA, hB⟩ := h
      refine g_ieq hC 22 hr_5 dX9_there_16 (by decide) (fun hc_6 => ?_) (fun hc_6 => ?_)
      · replace h := hA hc_6
        clear hA hB
        refine g_iinc2 (lc' := [some (vr z 0), some (vi x1), some (vi (x2 + 1))]) hC dX9_there_22 rfl rfl ?_
        refine g_goto hC 4 dX9_there_25 (by decide) ?_
        exact g_subk (ih x1 (x2 + 1) h) (And.intro rfl (And.intro rfl (And.intro rfl trivial)))
      · replace h := hB hc_6
        clear hA hB
        refine g_iinc2 (lc' := [some (vr z 0), some (vi (x1 + 1)), some (vi x2)]) hC dX9_there_19 rfl rfl ?_
        refine g_iinc2 (lc' := [some (vr z 0), some (vi (x1 + 1)), some (vi (x2 + 1))]) hC dX9_there_22 rfl rfl ?_
        refine g_goto hC 4 dX9_there_25 (by decide) ?_
        exact g_subk (ih (x1 + 1) (x2 + 1) h) (And.intro rfl (And.intro rfl (And.intro rfl trivial)))
def fX9_there  (M : gMem) (Q : Int → Prop) : Prop :=
  ∃ n_7, fX9_there_L4 M n_7 0 1 Q
set_option maxHeartbeats 4000000 in
set_option maxRecDepth 100000 in
theorem ctX9_there {l : Launch} {z : gZ} (hZ : gZm z)   {M : gMem} {Q : Int → Prop} (h : fX9_there  M Q) : gMI l z mL yX9_there wX9_there rmX9_there [(vr z 0)] M (fun r M' => M = M' ∧ Q r) := by
  refine g_metI .int (by decide) rfl rfl (gCat_all (And.intro rfl trivial)) (Nat.le_of_ble_eq_true rfl) ?_
  intro y hC hR
  replace h : ∃ n_7, fX9_there_L4 M n_7 0 1 Q := h
  refine g_lc (lc' := [some (vr z 0), none, none]) rfl ?_
  refine g_iconst hC dX9_there_0 ?_
  refine g_istore_n2 (lc' := [some (vr z 0), some (vi 0), none]) hC dX9_there_1 rfl (Nat.le_of_ble_eq_true rfl) rfl ?_
  refine g_iconst hC dX9_there_2 ?_
  refine g_istore_n2 (lc' := [some (vr z 0), some (vi 0), some (vi 1)]) hC dX9_there_3 rfl (Nat.le_of_ble_eq_true rfl) rfl ?_
  obtain ⟨n_7, h⟩ := h
  refine g_subk (ctX9_there_L4 hC hR hZ  n_7 0 1 h) (And.intro rfl (And.intro rfl (And.intro rfl trivial)))
abbrev wX9_lacks : List Cond := Cond.code yX9_lacks cX9_lacks 6 (some .int) :: gTs
abbrev rmX9_lacks : Room := { frames := 1, cells := 0, slots := 0, locals := 27 }
theorem kwX9_lacks {c0 : Cond} {rm : Room} (h1 : rmX9_lacks.frames + 1 ≤ rm.frames) (h2 : 8 + (6 + 11) + rmX9_lacks.locals ≤ rm.locals) : gCw (c0 :: gTs) rm yX9_lacks cX9_lacks 6 (some .int) wX9_lacks rmX9_lacks 1 := gCw_of wd_921 wd_49 h1 h2 (by decide +kernel)
def fX9_lacks_L18  (x1 : Int) (x3 : Int) (M : gMem) : Nat → Int → Int → (Int → Prop) → (Int → Prop) → Prop
  | 0, _, _, _, _ => False
  | n18 + 1, x4, x5, K77, Q =>
    (rg x5 ∧ (300 < x5 →
    K77 x4) ∧
    (¬ 300 < x5 →
    (rg x4 ∧ (x4 = 0 →
      (fX9_isPiece x5 M (fun r_8 =>
        (rg r_8 ∧ (r_8 = 0 →
        fX9_lacks_L18 x1 x3 M n18 0 (x5 + 1) K77 Q) ∧
        (¬ r_8 = 0 →
        ((0 ≤ x3 ∧ x3 < 601) ∧ ((0 ≤ (x3 + 1) ∧ (x3 + 1) < 601) ∧ (fX9_isThat x5 x1 (M 10 x3) (M 10 (x3 + 1)) M (fun r_14 =>
          (rg r_14 ∧ (r_14 = 0 →
          fX9_lacks_L18 x1 x3 M n18 0 (x5 + 1) K77 Q) ∧
          (¬ r_14 = 0 →
          fX9_lacks_L18 x1 x3 M n18 1 (x5 + 1) K77 Q))))))))))) ∧
      (¬ x4 = 0 →
      K77 x4))))
set_option maxHeartbeats 4000000 in
set_option maxRecDepth 100000 in
theorem ctX9_lacks_L18 {y : gY} {z : gZ} {l : Launch} {x1 : Int} {x2 : Int} {x3 : Int} {M : gMem} {Q : Int → Prop} {K77 : Int → Prop} (hC : gC y z l cX9_lacks RX9 6 wX9_lacks rmX9_lacks) (hR : gRI y z mL .int (fun r M' => M = M' ∧ Q r)) (hZ : gZm z)  (hK77 : ∀ (x4 : Int), K77 x4 → gW y z mL 77 [some (vr z 0), some (vi x1), some (vi x2), some (vi x3), some (vi x4), none] [] M) :
    ∀ (n : Nat) (x4 : Int) (x5 : Int), fX9_lacks_L18 x1 x3 M n x4 x5 K77 Q → gW y z mL 18 [some (vr z 0), some (vi x1), some (vi x2), some (vi x3), some (vi x4), some (vi x5)] [] M := by
  intro n
  induction n with
  | zero => intro x4 x5 h; exact False.elim h
  | succ n18 ih =>
    intro x4 x5 h
    replace h : (rg x5 ∧ (300 < x5 →
    K77 x4) ∧
    (¬ 300 < x5 →
    (rg x4 ∧ (x4 = 0 →
      (fX9_isPiece x5 M (fun r_8 =>
        (rg r_8 ∧ (r_8 = 0 →
        fX9_lacks_L18 x1 x3 M n18 0 (x5 + 1) K77 Q) ∧
        (¬ r_8 = 0 →
        ((0 ≤ x3 ∧ x3 < 601) ∧ ((0 ≤ (x3 + 1) ∧ (x3 + 1) < 601) ∧ (fX9_isThat x5 x1 (M 10 x3) (M 10 (x3 + 1)) M (fun r_14 =>
          (rg r_14 ∧ (r_14 = 0 →
          fX9_lacks_L18 x1 x3 M n18 0 (x5 + 1) K77 Q) ∧
          (¬ r_14 = 0 →
          fX9_lacks_L18 x1 x3 M n18 1 (x5 + 1) K77 Q))))))))))) ∧
      (¬ x4 = 0 →
      K77 x4)))) := h
    refine g_iload hC dX9_lacks_18 rfl ?_
    refine g_sipush hC dX9_lacks_20 (by decide) ?_
    obtain ⟨hr_4, hA, hB⟩ := h
    refine g_cgt hC 77 hr_4 (by decide) dX9_lacks_23 (by decide) (fun hc_5 => ?_) (fun hc_5 => ?_)
    · replace h := hA hc_5
      clear hA hB
      exact g_subk (hK77 x4 h) (And.intro rfl (And.intro rfl (And.intro rfl (And.intro rfl (And.intro rfl trivial)))))
    · replace h := hB hc_5
      clear hA hB
      refine g_iload hC dX9_lacks_26 rfl ?_
      obtain ⟨hr_6, hA, hB⟩ := h
      refine g_ine hC 77 hr_6 dX9_lacks_28 (by decide) (fun hc_7 => ?_) (fun hc_7 => ?_)
      · replace h := hA hc_7
        clear hA hB
        refine g_aload_n hC dX9_lacks_31 rfl rfl ?_
        refine g_iload hC dX9_lacks_32 rfl ?_
        refine g_calli (g_runV (As := [(vi x5)]) (rest := []) hC rfl (ctX9_isPiece hZ  h) rfl (gm_k9 hZ) (kwX9_isPiece (by decide) (by decide)) rfl (wc wd_922) (wc wd_924) (wc wd_31) rfl (Nat.le_of_ble_eq_true rfl) rfl dX9_lacks_34) (fun r_8 M_9 h => ?_)
        obtain ⟨rfl, h⟩ := h
        obtain ⟨hr_10, hA, hB⟩ := h
        refine g_ieq hC 68 hr_10 dX9_lacks_37 (by decide) (fun hc_11 => ?_) (fun hc_11 => ?_)
        · replace h := hA hc_11
          clear hA hB
          refine g_iconst hC dX9_lacks_68 ?_
          refine g_istore2 (lc' := [some (vr z 0), some (vi x1), some (vi x2), some (vi x3), some (vi 0), some (vi x5)]) hC dX9_lacks_69 (Nat.le_of_ble_eq_true rfl) rfl ?_
          refine g_iinc2 (lc' := [some (vr z 0), some (vi x1), some (vi x2), some (vi x3), some (vi 0), some (vi (x5 + 1))]) hC dX9_lacks_71 rfl rfl ?_
          refine g_goto hC 18 dX9_lacks_74 (by decide) ?_
          exact g_subk (ih 0 (x5 + 1) h) (And.intro rfl (And.intro rfl (And.intro rfl (And.intro rfl (And.intro rfl (And.intro rfl trivial))))))
        · replace h := hB hc_11
          clear hA hB
          refine g_aload_n hC dX9_lacks_40 rfl rfl ?_
          refine g_iload hC dX9_lacks_41 rfl ?_
          refine g_iload_n hC dX9_lacks_43 rfl rfl ?_
          refine g_aload_n hC dX9_lacks_44 rfl rfl ?_
          refine g_getr (r := 10) hC rfl (gm_k9 hZ) iwX9 11 (by decide) rfl rfl (wc wd_699) dX9_lacks_45 ?_
          refine g_iload_n hC dX9_lacks_48 rfl rfl ?_
          obtain ⟨hb_12, h⟩ := h
          refine g_iald hC 0 rfl (m_t0 hZ) (by decide) hb_12 dX9_lacks_49 ?_
          refine g_aload_n hC dX9_lacks_50 rfl rfl ?_
          refine g_getr (r := 10) hC rfl (gm_k9 hZ) iwX9 11 (by decide) rfl rfl (wc wd_699) dX9_lacks_51 ?_
          refine g_iload_n hC dX9_lacks_54 rfl rfl ?_
          refine g_iconst hC dX9_lacks_55 ?_
          refine g_iadd hC dX9_lacks_56 ?_
          obtain ⟨hb_13, h⟩ := h
          refine g_iald hC 0 rfl (m_t0 hZ) (by decide) hb_13 dX9_lacks_57 ?_
          refine g_calli (g_runV (As := [(vi x5), (vi x1), (vi (M 10 x3)), (vi (M 10 (x3 + 1)))]) (rest := []) hC rfl (ctX9_isThat hZ  h) rfl (gm_k9 hZ) (kwX9_isThat (by decide) (by decide)) rfl (wc wd_926) (wc wd_928) (wc wd_32) rfl (Nat.le_of_ble_eq_true rfl) rfl dX9_lacks_58) (fun r_14 M_15 h => ?_)
          obtain ⟨rfl, h⟩ := h
          obtain ⟨hr_16, hA, hB⟩ := h
          refine g_ieq hC 68 hr_16 dX9_lacks_61 (by decide) (fun hc_17 => ?_) (fun hc_17 => ?_)
          · replace h := hA hc_17
            clear hA hB
            refine g_iconst hC dX9_lacks_68 ?_
            refine g_istore2 (lc' := [some (vr z 0), some (vi x1), some (vi x2), some (vi x3), some (vi 0), some (vi x5)]) hC dX9_lacks_69 (Nat.le_of_ble_eq_true rfl) rfl ?_
            refine g_iinc2 (lc' := [some (vr z 0), some (vi x1), some (vi x2), some (vi x3), some (vi 0), some (vi (x5 + 1))]) hC dX9_lacks_71 rfl rfl ?_
            refine g_goto hC 18 dX9_lacks_74 (by decide) ?_
            exact g_subk (ih 0 (x5 + 1) h) (And.intro rfl (And.intro rfl (And.intro rfl (And.intro rfl (And.intro rfl (And.intro rfl trivial))))))
          · replace h := hB hc_17
            clear hA hB
            refine g_iconst hC dX9_lacks_64 ?_
            refine g_goto hC 69 dX9_lacks_65 (by decide) ?_
            refine g_istore2 (lc' := [some (vr z 0), some (vi x1), some (vi x2), some (vi x3), some (vi 1), some (vi x5)]) hC dX9_lacks_69 (Nat.le_of_ble_eq_true rfl) rfl ?_
            refine g_iinc2 (lc' := [some (vr z 0), some (vi x1), some (vi x2), some (vi x3), some (vi 1), some (vi (x5 + 1))]) hC dX9_lacks_71 rfl rfl ?_
            refine g_goto hC 18 dX9_lacks_74 (by decide) ?_
            exact g_subk (ih 1 (x5 + 1) h) (And.intro rfl (And.intro rfl (And.intro rfl (And.intro rfl (And.intro rfl (And.intro rfl trivial))))))
      · replace h := hB hc_7
        clear hA hB
        exact g_subk (hK77 x4 h) (And.intro rfl (And.intro rfl (And.intro rfl (And.intro rfl (And.intro rfl trivial)))))
def fX9_lacks_L80  (x1 : Int) (x3 : Int) (M : gMem) : Nat → Int → Int → (Int → Prop) → (Int → Prop) → Prop
  | 0, _, _, _, _ => False
  | n80 + 1, x4, x5, K135, Q =>
    (rg x5 ∧ rg x3 ∧ (x5 < x3 →
    (rg x4 ∧ (x4 = 0 →
      ((0 ≤ x5 ∧ x5 < 601) ∧ ((0 ≤ (x5 + 1) ∧ (x5 + 1) < 601) ∧ ((0 ≤ x3 ∧ x3 < 601) ∧ ((0 ≤ (x3 + 1) ∧ (x3 + 1) < 601) ∧ (fX9_isAlike x1 (M 10 x5) (M 10 (x5 + 1)) x1 (M 10 x3) (M 10 (x3 + 1)) M (fun r_28 =>
        fX9_lacks_L80 x1 x3 M n80 r_28 (x5 + 1) K135 Q))))))) ∧
      (¬ x4 = 0 →
      K135 x4))) ∧
    (¬ x5 < x3 →
    K135 x4))
set_option maxHeartbeats 4000000 in
set_option maxRecDepth 100000 in
theorem ctX9_lacks_L80 {y : gY} {z : gZ} {l : Launch} {x1 : Int} {x2 : Int} {x3 : Int} {M : gMem} {Q : Int → Prop} {K135 : Int → Prop} (hC : gC y z l cX9_lacks RX9 6 wX9_lacks rmX9_lacks) (hR : gRI y z mL .int (fun r M' => M = M' ∧ Q r)) (hZ : gZm z)  (hK135 : ∀ (x4 : Int), K135 x4 → gW y z mL 135 [some (vr z 0), some (vi x1), some (vi x2), some (vi x3), some (vi x4), none] [] M) :
    ∀ (n : Nat) (x4 : Int) (x5 : Int), fX9_lacks_L80 x1 x3 M n x4 x5 K135 Q → gW y z mL 80 [some (vr z 0), some (vi x1), some (vi x2), some (vi x3), some (vi x4), some (vi x5)] [] M := by
  intro n
  induction n with
  | zero => intro x4 x5 h; exact False.elim h
  | succ n80 ih =>
    intro x4 x5 h
    replace h : (rg x5 ∧ rg x3 ∧ (x5 < x3 →
    (rg x4 ∧ (x4 = 0 →
      ((0 ≤ x5 ∧ x5 < 601) ∧ ((0 ≤ (x5 + 1) ∧ (x5 + 1) < 601) ∧ ((0 ≤ x3 ∧ x3 < 601) ∧ ((0 ≤ (x3 + 1) ∧ (x3 + 1) < 601) ∧ (fX9_isAlike x1 (M 10 x5) (M 10 (x5 + 1)) x1 (M 10 x3) (M 10 (x3 + 1)) M (fun r_28 =>
        fX9_lacks_L80 x1 x3 M n80 r_28 (x5 + 1) K135 Q))))))) ∧
      (¬ x4 = 0 →
      K135 x4))) ∧
    (¬ x5 < x3 →
    K135 x4)) := h
    refine g_iload hC dX9_lacks_80 rfl ?_
    refine g_iload_n hC dX9_lacks_82 rfl rfl ?_
    obtain ⟨hr_19, hr_20, hA, hB⟩ := h
    refine g_cge hC 135 hr_19 hr_20 dX9_lacks_83 (by decide) (fun hc_21 => ?_) (fun hc_21 => ?_)
    · replace h := hA hc_21
      clear hA hB
      refine g_iload hC dX9_lacks_86 rfl ?_
      obtain ⟨hr_22, hA, hB⟩ := h
      refine g_ine hC 135 hr_22 dX9_lacks_88 (by decide) (fun hc_23 => ?_) (fun hc_23 => ?_)
      · replace h := hA hc_23
        clear hA hB
        refine g_aload_n hC dX9_lacks_91 rfl rfl ?_
        refine g_iload_n hC dX9_lacks_92 rfl rfl ?_
        refine g_aload_n hC dX9_lacks_93 rfl rfl ?_
        refine g_getr (r := 10) hC rfl (gm_k9 hZ) iwX9 11 (by decide) rfl rfl (wc wd_699) dX9_lacks_94 ?_
        refine g_iload hC dX9_lacks_97 rfl ?_
        obtain ⟨hb_24, h⟩ := h
        refine g_iald hC 0 rfl (m_t0 hZ) (by decide) hb_24 dX9_lacks_99 ?_
        refine g_aload_n hC dX9_lacks_100 rfl rfl ?_
        refine g_getr (r := 10) hC rfl (gm_k9 hZ) iwX9 11 (by decide) rfl rfl (wc wd_699) dX9_lacks_101 ?_
        refine g_iload hC dX9_lacks_104 rfl ?_
        refine g_iconst hC dX9_lacks_106 ?_
        refine g_iadd hC dX9_lacks_107 ?_
        obtain ⟨hb_25, h⟩ := h
        refine g_iald hC 0 rfl (m_t0 hZ) (by decide) hb_25 dX9_lacks_108 ?_
        refine g_iload_n hC dX9_lacks_109 rfl rfl ?_
        refine g_aload_n hC dX9_lacks_110 rfl rfl ?_
        refine g_getr (r := 10) hC rfl (gm_k9 hZ) iwX9 11 (by decide) rfl rfl (wc wd_699) dX9_lacks_111 ?_
        refine g_iload_n hC dX9_lacks_114 rfl rfl ?_
        obtain ⟨hb_26, h⟩ := h
        refine g_iald hC 0 rfl (m_t0 hZ) (by decide) hb_26 dX9_lacks_115 ?_
        refine g_aload_n hC dX9_lacks_116 rfl rfl ?_
        refine g_getr (r := 10) hC rfl (gm_k9 hZ) iwX9 11 (by decide) rfl rfl (wc wd_699) dX9_lacks_117 ?_
        refine g_iload_n hC dX9_lacks_120 rfl rfl ?_
        refine g_iconst hC dX9_lacks_121 ?_
        refine g_iadd hC dX9_lacks_122 ?_
        obtain ⟨hb_27, h⟩ := h
        refine g_iald hC 0 rfl (m_t0 hZ) (by decide) hb_27 dX9_lacks_123 ?_
        refine g_calli (g_runV (As := [(vi x1), (vi (M 10 x5)), (vi (M 10 (x5 + 1))), (vi x1), (vi (M 10 x3)), (vi (M 10 (x3 + 1)))]) (rest := []) hC rfl (ctX9_isAlike hZ  h) rfl (gm_k9 hZ) (kwX9_isAlike (by decide) (by decide)) rfl (wc wd_893) (wc wd_895) (wc wd_28) rfl (Nat.le_of_ble_eq_true rfl) rfl dX9_lacks_124) (fun r_28 M_29 h => ?_)
        obtain ⟨rfl, h⟩ := h
        refine g_istore2 (lc' := [some (vr z 0), some (vi x1), some (vi x2), some (vi x3), some (vi r_28), some (vi x5)]) hC dX9_lacks_127 (Nat.le_of_ble_eq_true rfl) rfl ?_
        refine g_iinc2 (lc' := [some (vr z 0), some (vi x1), some (vi x2), some (vi x3), some (vi r_28), some (vi (x5 + 1))]) hC dX9_lacks_129 rfl rfl ?_
        refine g_goto hC 80 dX9_lacks_132 (by decide) ?_
        exact g_subk (ih r_28 (x5 + 1) h) (And.intro rfl (And.intro rfl (And.intro rfl (And.intro rfl (And.intro rfl (And.intro rfl trivial))))))
      · replace h := hB hc_23
        clear hA hB
        exact g_subk (hK135 x4 h) (And.intro rfl (And.intro rfl (And.intro rfl (And.intro rfl (And.intro rfl trivial)))))
    · replace h := hB hc_21
      clear hA hB
      exact g_subk (hK135 x4 h) (And.intro rfl (And.intro rfl (And.intro rfl (And.intro rfl (And.intro rfl trivial)))))
def fX9_lacks_L4  (x1 : Int) (M : gMem) : Nat → Int → Int → (Int → Prop) → Prop
  | 0, _, _, _ => False
  | n4 + 1, x2, x3, Q =>
    (rg x3 ∧ rg (M 0 10) ∧ (x3 < (M 0 10) →
    ∃ n_34, fX9_lacks_L18 x1 x3 M n_34 0 1 (fun x4_18 =>
      ∃ n_33, fX9_lacks_L80 x1 x3 M n_33 x4_18 0 (fun x4_30 =>
        (rg x4_30 ∧ (x4_30 = 0 →
          fX9_lacks_L4 x1 M n4 (x2 + 1) (x3 + 1) Q) ∧
          (¬ x4_30 = 0 →
          fX9_lacks_L4 x1 M n4 x2 (x3 + 1) Q))) Q) Q) ∧
    (¬ x3 < (M 0 10) →
    Q x2))
set_option maxHeartbeats 4000000 in
set_option maxRecDepth 100000 in
theorem ctX9_lacks_L4 {y : gY} {z : gZ} {l : Launch} {x1 : Int} {M : gMem} {Q : Int → Prop}  (hC : gC y z l cX9_lacks RX9 6 wX9_lacks rmX9_lacks) (hR : gRI y z mL .int (fun r M' => M = M' ∧ Q r)) (hZ : gZm z)  :
    ∀ (n : Nat) (x2 : Int) (x3 : Int), fX9_lacks_L4 x1 M n x2 x3 Q → gW y z mL 4 [some (vr z 0), some (vi x1), some (vi x2), some (vi x3), none, none] [] M := by
  intro n
  induction n with
  | zero => intro x2 x3 h; exact False.elim h
  | succ n4 ih =>
    intro x2 x3 h
    replace h : (rg x3 ∧ rg (M 0 10) ∧ (x3 < (M 0 10) →
    ∃ n_34, fX9_lacks_L18 x1 x3 M n_34 0 1 (fun x4_18 =>
      ∃ n_33, fX9_lacks_L80 x1 x3 M n_33 x4_18 0 (fun x4_30 =>
        (rg x4_30 ∧ (x4_30 = 0 →
          fX9_lacks_L4 x1 M n4 (x2 + 1) (x3 + 1) Q) ∧
          (¬ x4_30 = 0 →
          fX9_lacks_L4 x1 M n4 x2 (x3 + 1) Q))) Q) Q) ∧
    (¬ x3 < (M 0 10) →
    Q x2)) := h
    refine g_iload_n hC dX9_lacks_4 rfl rfl ?_
    refine g_aload_n hC dX9_lacks_5 rfl rfl ?_
    refine g_geti (ji := 10) hC rfl (gm_k9 hZ) iwX9 10 (by decide) rfl rfl (wc wd_698) dX9_lacks_6 rfl ?_
    obtain ⟨hr_1, hr_2, hA, hB⟩ := h
    refine g_cge hC 149 hr_1 hr_2 dX9_lacks_9 (by decide) (fun hc_3 => ?_) (fun hc_3 => ?_)
    · replace h := hA hc_3
      clear hA hB
      refine g_iconst hC dX9_lacks_12 ?_
      refine g_istore2 (lc' := [some (vr z 0), some (vi x1), some (vi x2), some (vi x3), some (vi 0), none]) hC dX9_lacks_13 (Nat.le_of_ble_eq_true rfl) rfl ?_
      refine g_iconst hC dX9_lacks_15 ?_
      refine g_istore2 (lc' := [some (vr z 0), some (vi x1), some (vi x2), some (vi x3), some (vi 0), some (vi 1)]) hC dX9_lacks_16 (Nat.le_of_ble_eq_true rfl) rfl ?_
      obtain ⟨n_34, h⟩ := h
      refine g_subk (ctX9_lacks_L18 hC hR hZ ?_ n_34 0 1 h) (And.intro rfl (And.intro rfl (And.intro rfl (And.intro rfl (And.intro rfl (And.intro rfl trivial))))))
      intro x4_18 h
      refine g_iconst hC dX9_lacks_77 ?_
      refine g_istore2 (lc' := [some (vr z 0), some (vi x1), some (vi x2), some (vi x3), some (vi x4_18), some (vi 0)]) hC dX9_lacks_78 (Nat.le_of_ble_eq_true rfl) rfl ?_
      obtain ⟨n_33, h⟩ := h
      refine g_subk (ctX9_lacks_L80 hC hR hZ ?_ n_33 x4_18 0 h) (And.intro rfl (And.intro rfl (And.intro rfl (And.intro rfl (And.intro rfl (And.intro rfl trivial))))))
      intro x4_30 h
      refine g_iload hC dX9_lacks_135 rfl ?_
      obtain ⟨hr_31, hA, hB⟩ := h
      refine g_ine hC 143 hr_31 dX9_lacks_137 (by decide) (fun hc_32 => ?_) (fun hc_32 => ?_)
      · replace h := hA hc_32
        clear hA hB
        refine g_iinc2 (lc' := [some (vr z 0), some (vi x1), some (vi (x2 + 1)), some (vi x3), some (vi x4_30), none]) hC dX9_lacks_140 rfl rfl ?_
        refine g_iinc2 (lc' := [some (vr z 0), some (vi x1), some (vi (x2 + 1)), some (vi (x3 + 1)), some (vi x4_30), none]) hC dX9_lacks_143 rfl rfl ?_
        refine g_goto hC 4 dX9_lacks_146 (by decide) ?_
        exact g_subk (ih (x2 + 1) (x3 + 1) h) (And.intro rfl (And.intro rfl (And.intro rfl (And.intro rfl trivial))))
      · replace h := hB hc_32
        clear hA hB
        refine g_iinc2 (lc' := [some (vr z 0), some (vi x1), some (vi x2), some (vi (x3 + 1)), some (vi x4_30), none]) hC dX9_lacks_143 rfl rfl ?_
        refine g_goto hC 4 dX9_lacks_146 (by decide) ?_
        exact g_subk (ih x2 (x3 + 1) h) (And.intro rfl (And.intro rfl (And.intro rfl (And.intro rfl trivial))))
    · replace h := hB hc_3
      clear hA hB
      refine g_iload_n hC dX9_lacks_149 rfl rfl ?_
      exact g_iret hC hR dX9_lacks_150 ⟨rfl, h⟩
def fX9_lacks (x1 : Int) (M : gMem) (Q : Int → Prop) : Prop :=
  ∃ n_35, fX9_lacks_L4 x1 M n_35 0 0 Q
set_option maxHeartbeats 4000000 in
set_option maxRecDepth 100000 in
theorem ctX9_lacks {l : Launch} {z : gZ} (hZ : gZm z) {x1 : Int}  {M : gMem} {Q : Int → Prop} (h : fX9_lacks x1 M Q) : gMI l z mL yX9_lacks wX9_lacks rmX9_lacks [(vr z 0), (vi x1)] M (fun r M' => M = M' ∧ Q r) := by
  refine g_metI .int (by decide) rfl rfl (gCat_all (And.intro rfl (And.intro rfl trivial))) (Nat.le_of_ble_eq_true rfl) ?_
  intro y hC hR
  replace h : ∃ n_35, fX9_lacks_L4 x1 M n_35 0 0 Q := h
  refine g_lc (lc' := [some (vr z 0), some (vi x1), none, none, none, none]) rfl ?_
  refine g_iconst hC dX9_lacks_0 ?_
  refine g_istore_n2 (lc' := [some (vr z 0), some (vi x1), some (vi 0), none, none, none]) hC dX9_lacks_1 rfl (Nat.le_of_ble_eq_true rfl) rfl ?_
  refine g_iconst hC dX9_lacks_2 ?_
  refine g_istore_n2 (lc' := [some (vr z 0), some (vi x1), some (vi 0), some (vi 0), none, none]) hC dX9_lacks_3 rfl (Nat.le_of_ble_eq_true rfl) rfl ?_
  obtain ⟨n_35, h⟩ := h
  refine g_subk (ctX9_lacks_L4 hC hR hZ  n_35 0 0 h) (And.intro rfl (And.intro rfl (And.intro rfl (And.intro rfl trivial))))
