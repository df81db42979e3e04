abbrev wX9_feed : List Cond := Cond.code yX9_feed cX9_feed 8 (some .int) :: gTs
abbrev rmX9_feed : Room := { frames := 0, cells := 0, slots := 0, locals := 0 }
theorem kwX9_feed {c0 : Cond} {rm : Room} (h1 : rmX9_feed.frames + 1 ≤ rm.frames) (h2 : 8 + (8 + 11) + rmX9_feed.locals ≤ rm.locals) : gCw (c0 :: gTs) rm yX9_feed cX9_feed 8 (some .int) wX9_feed rmX9_feed 5 := gCw_of wd_804 wd_49 h1 h2 (by decide +kernel)
def fX9_feed_J71  (x1 : Int) (x2 : Int) (x3 : Int) (x4 : Int) (x5 : Int) (x6 : Int) (s0 : Int) (M : gMem) (K18 : Int → gMem → Prop) (Q : Int → gMem → Prop) : Prop :=
  (rg x6 ∧ (rg s0 ∧ (0 ≤ (8 * (3 - (Int.tmod x6 4))) ∧ (8 * (3 - (Int.tmod x6 4))) < 32) ∧ ((0 ≤ (M 0 3) ∧ (M 0 3) < 400) ∧ ∀ M_11, M_11 = gSt M 3 (M 0 3) (band (shr s0 (8 * (3 - (Int.tmod x6 4)))) 255) → (∀ M_12, M_12 = gSt M_11 0 3 ((M_11 0 3) + 1) → K18 (x6 + 1) M_12))))
set_option maxHeartbeats 4000000 in
set_option maxRecDepth 100000 in
theorem ctX9_feed_J71 {y : gY} {z : gZ} {l : Launch}  {x1 : Int} {x2 : Int} {x3 : Int} {x4 : Int} {x5 : Int} {Q : Int → gMem → Prop} {K18 : Int → gMem → Prop} (hC : gC y z l cX9_feed RX9 8 wX9_feed rmX9_feed) (hR : gRI y z mL .int Q) (hZ : gZm z)  (hK18 : ∀ (x6 : Int) (M : gMem), K18 x6 M → gW y z mL 18 [some (vr z 0), some (vi x1), some (vi x2), some (vi x3), some (vi x4), some (vi x5), some (vi x6), none] [] M) :
    ∀ (x6 : Int) (s0 : Int) (M : gMem), fX9_feed_J71 x1 x2 x3 x4 x5 x6 s0 M K18 Q → gW y z mL 71 [some (vr z 0), some (vi x1), some (vi x2), some (vi x3), some (vi x4), some (vi x5), some (vi x6), none] [(vi s0)] M := by
  intro x6 s0 M h
  replace h : (rg x6 ∧ (rg s0 ∧ (0 ≤ (8 * (3 - (Int.tmod x6 4))) ∧ (8 * (3 - (Int.tmod x6 4))) < 32) ∧ ((0 ≤ (M 0 3) ∧ (M 0 3) < 400) ∧ ∀ M_11, M_11 = gSt M 3 (M 0 3) (band (shr s0 (8 * (3 - (Int.tmod x6 4)))) 255) → (∀ M_12, M_12 = gSt M_11 0 3 ((M_11 0 3) + 1) → K18 (x6 + 1) M_12)))) := h
  refine g_istore2 (lc' := [some (vr z 0), some (vi x1), some (vi x2), some (vi x3), some (vi x4), some (vi x5), some (vi x6), some (vi s0)]) hC dX9_feed_71 (Nat.le_of_ble_eq_true rfl) rfl ?_
  refine g_aload_n hC dX9_feed_73 rfl rfl ?_
  refine g_getr (r := 3) hC rfl (gm_k9 hZ) iwX9 2 (by decide) rfl rfl (wc wd_690) dX9_feed_74 ?_
  refine g_aload_n hC dX9_feed_77 rfl rfl ?_
  refine g_geti (ji := 3) hC rfl (gm_k9 hZ) iwX9 3 (by decide) rfl rfl (wc wd_691) dX9_feed_78 rfl ?_
  refine g_iload hC dX9_feed_81 rfl ?_
  refine g_bipush hC dX9_feed_83 (by decide) ?_
  refine g_iconst hC dX9_feed_85 ?_
  refine g_iload hC dX9_feed_86 rfl ?_
  refine g_iconst hC dX9_feed_88 ?_
  obtain ⟨hr_7, h⟩ := h
  refine g_irem hC hr_7 (by decide) (by decide) dX9_feed_89 ?_
  refine g_isub hC dX9_feed_90 ?_
  refine g_imul hC dX9_feed_91 ?_
  obtain ⟨hr_8, hr_9, h⟩ := h
  refine g_ishr hC hr_8 hr_9 dX9_feed_92 ?_
  refine g_sipush hC dX9_feed_93 (by decide) ?_
  refine g_iand hC dX9_feed_96 ?_
  obtain ⟨hb_10, h⟩ := h
  obtain ⟨M_11, hM_11⟩ : ∃ M9, M9 = gSt M 3 (M 0 3) (band (shr s0 (8 * (3 - (Int.tmod x6 4)))) 255) := ⟨_, rfl⟩
  replace h := h M_11 hM_11
  refine g_iast hC 0 rfl (m_t0 hZ) (by decide) hb_10 dX9_feed_97 hM_11 ?_
  refine g_aload_n hC dX9_feed_98 rfl rfl ?_
  refine g_dup hC dX9_feed_99 rfl ?_
  refine g_geti (ji := 3) hC rfl (gm_k9 hZ) iwX9 3 (by decide) rfl rfl (wc wd_691) dX9_feed_100 rfl ?_
  refine g_iconst hC dX9_feed_103 ?_
  refine g_iadd hC dX9_feed_104 ?_
  obtain ⟨M_12, hM_12⟩ : ∃ M9, M9 = gSt M_11 0 3 ((M_11 0 3) + 1) := ⟨_, rfl⟩
  replace h := h M_12 hM_12
  refine g_puti (ji := 3) hC rfl (gm_k9 hZ) iwX9 tyX9_ok nmX9 3 (by decide) rfl rfl (wc wd_691) rfl rfl dX9_feed_105 rfl hM_12 ?_
  refine g_iinc2 (lc' := [some (vr z 0), some (vi x1), some (vi x2), some (vi x3), some (vi x4), some (vi x5), some (vi (x6 + 1)), some (vi s0)]) hC dX9_feed_108 rfl rfl ?_
  refine g_goto hC 18 dX9_feed_111 (by decide) ?_
  exact g_subk (hK18 (x6 + 1) M_12 h) (And.intro rfl (And.intro rfl (And.intro rfl (And.intro rfl (And.intro rfl (And.intro rfl (And.intro rfl trivial)))))))
def fX9_feed_L18  (x1 : Int) (x2 : Int) (x3 : Int) (x4 : Int) (x5 : Int) : Nat → Int → gMem → (Int → gMem → Prop) → Prop
  | 0, _, _, _ => False
  | n18 + 1, x6, M, Q =>
    (rg x6 ∧ (x6 < 20 →
    (rg x6 ∧ (x6 < 4 →
      fX9_feed_J71 x1 x2 x3 x4 x5 x6 x1 M (fun x6_13 M_14 => fX9_feed_L18 x1 x2 x3 x4 x5 n18 x6_13 M_14 Q) Q) ∧
      (¬ x6 < 4 →
      (rg x6 ∧ (x6 < 8 →
        fX9_feed_J71 x1 x2 x3 x4 x5 x6 x2 M (fun x6_17 M_18 => fX9_feed_L18 x1 x2 x3 x4 x5 n18 x6_17 M_18 Q) Q) ∧
        (¬ x6 < 8 →
        (rg x6 ∧ (x6 < 12 →
          fX9_feed_J71 x1 x2 x3 x4 x5 x6 x3 M (fun x6_21 M_22 => fX9_feed_L18 x1 x2 x3 x4 x5 n18 x6_21 M_22 Q) Q) ∧
          (¬ x6 < 12 →
          (rg x6 ∧ (x6 < 16 →
            fX9_feed_J71 x1 x2 x3 x4 x5 x6 x4 M (fun x6_25 M_26 => fX9_feed_L18 x1 x2 x3 x4 x5 n18 x6_25 M_26 Q) Q) ∧
            (¬ x6 < 16 →
            fX9_feed_J71 x1 x2 x3 x4 x5 x6 x5 M (fun x6_27 M_28 => fX9_feed_L18 x1 x2 x3 x4 x5 n18 x6_27 M_28 Q) Q))))))))) ∧
    (¬ x6 < 20 →
    Q (M 0 3) M))
set_option maxHeartbeats 4000000 in
set_option maxRecDepth 100000 in
theorem ctX9_feed_L18 {y : gY} {z : gZ} {l : Launch} {x1 : Int} {x2 : Int} {x3 : Int} {x4 : Int} {x5 : Int} {Q : Int → gMem → Prop}  (hC : gC y z l cX9_feed RX9 8 wX9_feed rmX9_feed) (hR : gRI y z mL .int Q) (hZ : gZm z)  :
    ∀ (n : Nat) (x6 : Int) (M : gMem), fX9_feed_L18 x1 x2 x3 x4 x5 n x6 M Q → gW y z mL 18 [some (vr z 0), some (vi x1), some (vi x2), some (vi x3), some (vi x4), some (vi x5), some (vi x6), none] [] M := by
  intro n
  induction n with
  | zero => intro x6 M h; exact False.elim h
  | succ n18 ih =>
    intro x6 M h
    replace h : (rg x6 ∧ (x6 < 20 →
    (rg x6 ∧ (x6 < 4 →
      fX9_feed_J71 x1 x2 x3 x4 x5 x6 x1 M (fun x6_13 M_14 => fX9_feed_L18 x1 x2 x3 x4 x5 n18 x6_13 M_14 Q) Q) ∧
      (¬ x6 < 4 →
      (rg x6 ∧ (x6 < 8 →
        fX9_feed_J71 x1 x2 x3 x4 x5 x6 x2 M (fun x6_17 M_18 => fX9_feed_L18 x1 x2 x3 x4 x5 n18 x6_17 M_18 Q) Q) ∧
        (¬ x6 < 8 →
        (rg x6 ∧ (x6 < 12 →
          fX9_feed_J71 x1 x2 x3 x4 x5 x6 x3 M (fun x6_21 M_22 => fX9_feed_L18 x1 x2 x3 x4 x5 n18 x6_21 M_22 Q) Q) ∧
          (¬ x6 < 12 →
          (rg x6 ∧ (x6 < 16 →
            fX9_feed_J71 x1 x2 x3 x4 x5 x6 x4 M (fun x6_25 M_26 => fX9_feed_L18 x1 x2 x3 x4 x5 n18 x6_25 M_26 Q) Q) ∧
            (¬ x6 < 16 →
            fX9_feed_J71 x1 x2 x3 x4 x5 x6 x5 M (fun x6_27 M_28 => fX9_feed_L18 x1 x2 x3 x4 x5 n18 x6_27 M_28 Q) Q))))))))) ∧
    (¬ x6 < 20 →
    Q (M 0 3) M)) := h
    refine g_iload hC dX9_feed_18 rfl ?_
    refine g_bipush hC dX9_feed_20 (by decide) ?_
    obtain ⟨hr_3, hA, hB⟩ := h
    refine g_cge hC 114 hr_3 (by decide) dX9_feed_22 (by decide) (fun hc_4 => ?_) (fun hc_4 => ?_)
    · replace h := hA hc_4
      clear hA hB
      refine g_iload hC dX9_feed_25 rfl ?_
      refine g_iconst hC dX9_feed_27 ?_
      obtain ⟨hr_5, hA, hB⟩ := h
      refine g_cge hC 35 hr_5 (by decide) dX9_feed_28 (by decide) (fun hc_6 => ?_) (fun hc_6 => ?_)
      · replace h := hA hc_6
        clear hA hB
        refine g_iload_n hC dX9_feed_31 rfl rfl ?_
        refine g_goto hC 71 dX9_feed_32 (by decide) ?_
        refine g_subk (ctX9_feed_J71 hC hR hZ ?_ x6 x1 M h) (And.intro rfl (And.intro rfl (And.intro rfl (And.intro rfl (And.intro rfl (And.intro rfl (And.intro rfl trivial)))))))
        · intro x6_13 M_14 h
          exact g_subk (ih x6_13 M_14 h) (And.intro rfl (And.intro rfl (And.intro rfl (And.intro rfl (And.intro rfl (And.intro rfl (And.intro rfl trivial)))))))
      · replace h := hB hc_6
        clear hA hB
        refine g_iload hC dX9_feed_35 rfl ?_
        refine g_bipush hC dX9_feed_37 (by decide) ?_
        obtain ⟨hr_15, hA, hB⟩ := h
        refine g_cge hC 46 hr_15 (by decide) dX9_feed_39 (by decide) (fun hc_16 => ?_) (fun hc_16 => ?_)
        · replace h := hA hc_16
          clear hA hB
          refine g_iload_n hC dX9_feed_42 rfl rfl ?_
          refine g_goto hC 71 dX9_feed_43 (by decide) ?_
          refine g_subk (ctX9_feed_J71 hC hR hZ ?_ x6 x2 M h) (And.intro rfl (And.intro rfl (And.intro rfl (And.intro rfl (And.intro rfl (And.intro rfl (And.intro rfl trivial)))))))
          · intro x6_17 M_18 h
            exact g_subk (ih x6_17 M_18 h) (And.intro rfl (And.intro rfl (And.intro rfl (And.intro rfl (And.intro rfl (And.intro rfl (And.intro rfl trivial)))))))
        · replace h := hB hc_16
          clear hA hB
          refine g_iload hC dX9_feed_46 rfl ?_
          refine g_bipush hC dX9_feed_48 (by decide) ?_
          obtain ⟨hr_19, hA, hB⟩ := h
          refine g_cge hC 57 hr_19 (by decide) dX9_feed_50 (by decide) (fun hc_20 => ?_) (fun hc_20 => ?_)
          · replace h := hA hc_20
            clear hA hB
            refine g_iload_n hC dX9_feed_53 rfl rfl ?_
            refine g_goto hC 71 dX9_feed_54 (by decide) ?_
            refine g_subk (ctX9_feed_J71 hC hR hZ ?_ x6 x3 M h) (And.intro rfl (And.intro rfl (And.intro rfl (And.intro rfl (And.intro rfl (And.intro rfl (And.intro rfl trivial)))))))
            · intro x6_21 M_22 h
              exact g_subk (ih x6_21 M_22 h) (And.intro rfl (And.intro rfl (And.intro rfl (And.intro rfl (And.intro rfl (And.intro rfl (And.intro rfl trivial)))))))
          · replace h := hB hc_20
            clear hA hB
            refine g_iload hC dX9_feed_57 rfl ?_
            refine g_bipush hC dX9_feed_59 (by decide) ?_
            obtain ⟨hr_23, hA, hB⟩ := h
            refine g_cge hC 69 hr_23 (by decide) dX9_feed_61 (by decide) (fun hc_24 => ?_) (fun hc_24 => ?_)
            · replace h := hA hc_24
              clear hA hB
              refine g_iload hC dX9_feed_64 rfl ?_
              refine g_goto hC 71 dX9_feed_66 (by decide) ?_
              refine g_subk (ctX9_feed_J71 hC hR hZ ?_ x6 x4 M h) (And.intro rfl (And.intro rfl (And.intro rfl (And.intro rfl (And.intro rfl (And.intro rfl (And.intro rfl trivial)))))))
              · intro x6_25 M_26 h
                exact g_subk (ih x6_25 M_26 h) (And.intro rfl (And.intro rfl (And.intro rfl (And.intro rfl (And.intro rfl (And.intro rfl (And.intro rfl trivial)))))))
            · replace h := hB hc_24
              clear hA hB
              refine g_iload hC dX9_feed_69 rfl ?_
              refine g_subk (ctX9_feed_J71 hC hR hZ ?_ x6 x5 M h) (And.intro rfl (And.intro rfl (And.intro rfl (And.intro rfl (And.intro rfl (And.intro rfl (And.intro rfl trivial)))))))
              · intro x6_27 M_28 h
                exact g_subk (ih x6_27 M_28 h) (And.intro rfl (And.intro rfl (And.intro rfl (And.intro rfl (And.intro rfl (And.intro rfl (And.intro rfl trivial)))))))
    · replace h := hB hc_4
      clear hA hB
      refine g_aload_n hC dX9_feed_114 rfl rfl ?_
      refine g_geti (ji := 3) hC rfl (gm_k9 hZ) iwX9 3 (by decide) rfl rfl (wc wd_691) dX9_feed_115 rfl ?_
      exact g_iret hC hR dX9_feed_118 h
def fX9_feed (x1 : Int) (x2 : Int) (x3 : Int) (x4 : Int) (x5 : Int) (M : gMem) (Q : Int → gMem → Prop) : Prop :=
  (rg ((M 0 3) + 20) ∧ (400 < ((M 0 3) + 20) →
  Q (-1) M) ∧
  (¬ 400 < ((M 0 3) + 20) →
  ∃ n_29, fX9_feed_L18 x1 x2 x3 x4 x5 n_29 0 M Q))
set_option maxHeartbeats 4000000 in
set_option maxRecDepth 100000 in
theorem ctX9_feed {l : Launch} {z : gZ} (hZ : gZm z) {x1 : Int} {x2 : Int} {x3 : Int} {x4 : Int} {x5 : Int}  {M : gMem} {Q : Int → gMem → Prop} (h : fX9_feed x1 x2 x3 x4 x5 M Q) : gMI l z mL yX9_feed wX9_feed rmX9_feed [(vr z 0), (vi x1), (vi x2), (vi x3), (vi x4), (vi x5)] M Q := by
  refine g_metI .int (by decide) rfl rfl (gCat_all (And.intro rfl (And.intro rfl (And.intro rfl (And.intro rfl (And.intro rfl (And.intro rfl trivial))))))) (Nat.le_of_ble_eq_true rfl) ?_
  intro y hC hR
  replace h : (rg ((M 0 3) + 20) ∧ (400 < ((M 0 3) + 20) →
  Q (-1) M) ∧
  (¬ 400 < ((M 0 3) + 20) →
  ∃ n_29, fX9_feed_L18 x1 x2 x3 x4 x5 n_29 0 M Q)) := h
  refine g_lc (lc' := [some (vr z 0), some (vi x1), some (vi x2), some (vi x3), some (vi x4), some (vi x5), none, none]) rfl ?_
  refine g_aload_n hC dX9_feed_0 rfl rfl ?_
  refine g_geti (ji := 3) hC rfl (gm_k9 hZ) iwX9 3 (by decide) rfl rfl (wc wd_691) dX9_feed_1 rfl ?_
  refine g_bipush hC dX9_feed_4 (by decide) ?_
  refine g_iadd hC dX9_feed_6 ?_
  refine g_sipush hC dX9_feed_7 (by decide) ?_
  obtain ⟨hr_1, hA, hB⟩ := h
  refine g_cle hC 15 hr_1 (by decide) dX9_feed_10 (by decide) (fun hc_2 => ?_) (fun hc_2 => ?_)
  · replace h := hA hc_2
    clear hA hB
    refine g_iconst hC dX9_feed_13 ?_
    exact g_iret hC hR dX9_feed_14 h
  · replace h := hB hc_2
    clear hA hB
    refine g_iconst hC dX9_feed_15 ?_
    refine g_istore2 (lc' := [some (vr z 0), some (vi x1), some (vi x2), some (vi x3), some (vi x4), some (vi x5), some (vi 0), none]) hC dX9_feed_16 (Nat.le_of_ble_eq_true rfl) rfl ?_
    obtain ⟨n_29, h⟩ := h
    refine g_subk (ctX9_feed_L18 hC hR hZ  n_29 0 M h) (And.intro rfl (And.intro rfl (And.intro rfl (And.intro rfl (And.intro rfl (And.intro rfl (And.intro rfl trivial)))))))
abbrev wX9_end : List Cond := Cond.code yX9_end cX9_end 2 (some .boolean) :: gTs
abbrev rmX9_end : Room := { frames := 0, cells := 0, slots := 0, locals := 0 }
theorem kwX9_end {c0 : Cond} {rm : Room} (h1 : rmX9_end.frames + 1 ≤ rm.frames) (h2 : 8 + (2 + 11) + rmX9_end.locals ≤ rm.locals) : gCw (c0 :: gTs) rm yX9_end cX9_end 2 (some .boolean) wX9_end rmX9_end 1 := gCw_of wd_808 wd_49 h1 h2 (by decide +kernel)
def fX9_end (x1 : Int) (M : gMem) (Q : Int → gMem → Prop) : Prop :=
  (rg x1 ∧ (x1 < 0 →
  Q 0 M) ∧
  (¬ x1 < 0 →
  (rg x1 ∧ rg (M 0 3) ∧ ((M 0 3) < x1 →
    Q 0 M) ∧
    (¬ (M 0 3) < x1 →
    (∀ M_6, M_6 = gSt M 0 3 x1 → Q 1 M_6)))))
set_option maxHeartbeats 4000000 in
set_option maxRecDepth 100000 in
theorem ctX9_end {l : Launch} {z : gZ} (hZ : gZm z) {x1 : Int}  {M : gMem} {Q : Int → gMem → Prop} (h : fX9_end x1 M Q) : gMI l z mL yX9_end wX9_end rmX9_end [(vr z 0), (vi x1)] M Q := by
  refine g_metI .boolean (by decide) rfl rfl (gCat_all (And.intro rfl (And.intro rfl trivial))) (Nat.le_of_ble_eq_true rfl) ?_
  intro y hC hR
  replace h : (rg x1 ∧ (x1 < 0 →
  Q 0 M) ∧
  (¬ x1 < 0 →
  (rg x1 ∧ rg (M 0 3) ∧ ((M 0 3) < x1 →
    Q 0 M) ∧
    (¬ (M 0 3) < x1 →
    (∀ M_6, M_6 = gSt M 0 3 x1 → Q 1 M_6))))) := h
  refine g_lc (lc' := [some (vr z 0), some (vi x1)]) rfl ?_
  refine g_iload_n hC dX9_end_0 rfl rfl ?_
  obtain ⟨hr_1, hA, hB⟩ := h
  refine g_ilt hC 12 hr_1 dX9_end_1 (by decide) (fun hc_2 => ?_) (fun hc_2 => ?_)
  · replace h := hA hc_2
    clear hA hB
    refine g_iconst hC dX9_end_12 ?_
    exact g_zret hC hR (by decide) dX9_end_13 h
  · replace h := hB hc_2
    clear hA hB
    refine g_iload_n hC dX9_end_4 rfl rfl ?_
    refine g_aload_n hC dX9_end_5 rfl rfl ?_
    refine g_geti (ji := 3) hC rfl (gm_k9 hZ) iwX9 3 (by decide) rfl rfl (wc wd_691) dX9_end_6 rfl ?_
    obtain ⟨hr_3, hr_4, hA, hB⟩ := h
    refine g_cle hC 14 hr_3 hr_4 dX9_end_9 (by decide) (fun hc_5 => ?_) (fun hc_5 => ?_)
    · replace h := hA hc_5
      clear hA hB
      refine g_iconst hC dX9_end_12 ?_
      exact g_zret hC hR (by decide) dX9_end_13 h
    · replace h := hB hc_5
      clear hA hB
      refine g_aload_n hC dX9_end_14 rfl rfl ?_
      refine g_iload_n hC dX9_end_15 rfl rfl ?_
      obtain ⟨M_6, hM_6⟩ : ∃ M9, M9 = gSt M 0 3 x1 := ⟨_, rfl⟩
      replace h := h M_6 hM_6
      refine g_puti (ji := 3) hC rfl (gm_k9 hZ) iwX9 tyX9_ok nmX9 3 (by decide) rfl rfl (wc wd_691) rfl rfl dX9_end_16 rfl hM_6 ?_
      refine g_iconst hC dX9_end_19 ?_
      exact g_zret hC hR (by decide) dX9_end_20 h
abbrev wX9_isFile : List Cond := Cond.code yX9_isFile cX9_isFile 1 (some .boolean) :: gTs
abbrev rmX9_isFile : Room := { frames := 0, cells := 0, slots := 0, locals := 0 }
theorem kwX9_isFile {c0 : Cond} {rm : Room} (h1 : rmX9_isFile.frames + 1 ≤ rm.frames) (h2 : 8 + (1 + 11) + rmX9_isFile.locals ≤ rm.locals) : gCw (c0 :: gTs) rm yX9_isFile cX9_isFile 1 (some .boolean) wX9_isFile rmX9_isFile 1 := gCw_of wd_815 wd_49 h1 h2 (by decide +kernel)
def fX9_isFile (x0 : Int) (M : gMem) (Q : Int → Prop) : Prop :=
  (rg x0 ∧ (x0 < 0 →
  Q 0) ∧
  (¬ x0 < 0 →
  (rg x0 ∧ (x0 < 8 →
    Q 1) ∧
    (¬ x0 < 8 →
    Q 0))))
set_option maxHeartbeats 4000000 in
set_option maxRecDepth 100000 in
theorem ctX9_isFile {l : Launch} {z : gZ} (hZ : gZm z) {x0 : Int}  {M : gMem} {Q : Int → Prop} (h : fX9_isFile x0 M Q) : gMI l z mL yX9_isFile wX9_isFile rmX9_isFile [(vi x0)] M (fun r M' => M = M' ∧ Q r) := by
  refine g_metI .boolean (by decide) rfl rfl (gCat_all (And.intro rfl trivial)) (Nat.le_of_ble_eq_true rfl) ?_
  intro y hC hR
  replace h : (rg x0 ∧ (x0 < 0 →
  Q 0) ∧
  (¬ x0 < 0 →
  (rg x0 ∧ (x0 < 8 →
    Q 1) ∧
    (¬ x0 < 8 →
    Q 0)))) := h
  refine g_lc (lc' := [some (vi x0)]) rfl ?_
  refine g_iload_n hC dX9_isFile_0 rfl rfl ?_
  obtain ⟨hr_1, hA, hB⟩ := h
  refine g_ilt hC 14 hr_1 dX9_isFile_1 (by decide) (fun hc_2 => ?_) (fun hc_2 => ?_)
  · replace h := hA hc_2
    clear hA hB
    refine g_iconst hC dX9_isFile_14 ?_
    exact g_zret hC hR (by decide) dX9_isFile_15 ⟨rfl, h⟩
  · replace h := hB hc_2
    clear hA hB
    refine g_iload_n hC dX9_isFile_4 rfl rfl ?_
    refine g_bipush hC dX9_isFile_5 (by decide) ?_
    obtain ⟨hr_3, hA, hB⟩ := h
    refine g_cge hC 14 hr_3 (by decide) dX9_isFile_7 (by decide) (fun hc_4 => ?_) (fun hc_4 => ?_)
    · replace h := hA hc_4
      clear hA hB
      refine g_iconst hC dX9_isFile_10 ?_
      refine g_goto hC 15 dX9_isFile_11 (by decide) ?_
      exact g_zret hC hR (by decide) dX9_isFile_15 ⟨rfl, h⟩
    · replace h := hB hc_4
      clear hA hB
      refine g_iconst hC dX9_isFile_14 ?_
      exact g_zret hC hR (by decide) dX9_isFile_15 ⟨rfl, h⟩
abbrev wX9_isIn : List Cond := Cond.code yX9_isIn cX9_isIn 3 (some .boolean) :: gTs
abbrev rmX9_isIn : Room := { frames := 0, cells := 0, slots := 0, locals := 0 }
theorem kwX9_isIn {c0 : Cond} {rm : Room} (h1 : rmX9_isIn.frames + 1 ≤ rm.frames) (h2 : 8 + (3 + 11) + rmX9_isIn.locals ≤ rm.locals) : gCw (c0 :: gTs) rm yX9_isIn cX9_isIn 3 (some .boolean) wX9_isIn rmX9_isIn 3 := gCw_of wd_822 wd_49 h1 h2 (by decide +kernel)
def fX9_isIn (x0 : Int) (x1 : Int) (x2 : Int) (M : gMem) (Q : Int → Prop) : Prop :=
  (rg x0 ∧ rg x1 ∧ (x0 < x1 →
  Q 0) ∧
  (¬ x0 < x1 →
  (rg x0 ∧ rg x2 ∧ (x2 < x0 →
    Q 0) ∧
    (¬ x2 < x0 →
    Q 1))))
set_option maxHeartbeats 4000000 in
set_option maxRecDepth 100000 in
theorem ctX9_isIn {l : Launch} {z : gZ} (hZ : gZm z) {x0 : Int} {x1 : Int} {x2 : Int}  {M : gMem} {Q : Int → Prop} (h : fX9_isIn x0 x1 x2 M Q) : gMI l z mL yX9_isIn wX9_isIn rmX9_isIn [(vi x0), (vi x1), (vi x2)] M (fun r M' => M = M' ∧ Q r) := by
  refine g_metI .boolean (by decide) rfl rfl (gCat_all (And.intro rfl (And.intro rfl (And.intro rfl trivial)))) (Nat.le_of_ble_eq_true rfl) ?_
  intro y hC hR
  replace h : (rg x0 ∧ rg x1 ∧ (x0 < x1 →
  Q 0) ∧
  (¬ x0 < x1 →
  (rg x0 ∧ rg x2 ∧ (x2 < x0 →
    Q 0) ∧
    (¬ x2 < x0 →
    Q 1)))) := h
  refine g_lc (lc' := [some (vi x0), some (vi x1), some (vi x2)]) rfl ?_
  refine g_iload_n hC dX9_isIn_0 rfl rfl ?_
  refine g_iload_n hC dX9_isIn_1 rfl rfl ?_
  obtain ⟨hr_1, hr_2, hA, hB⟩ := h
  refine g_clt hC 14 hr_1 hr_2 dX9_isIn_2 (by decide) (fun hc_3 => ?_) (fun hc_3 => ?_)
  · replace h := hA hc_3
    clear hA hB
    refine g_iconst hC dX9_isIn_14 ?_
    exact g_zret hC hR (by decide) dX9_isIn_15 ⟨rfl, h⟩
  · replace h := hB hc_3
    clear hA hB
    refine g_iload_n hC dX9_isIn_5 rfl rfl ?_
    refine g_iload_n hC dX9_isIn_6 rfl rfl ?_
    obtain ⟨hr_4, hr_5, hA, hB⟩ := h
    refine g_cgt hC 14 hr_4 hr_5 dX9_isIn_7 (by decide) (fun hc_6 => ?_) (fun hc_6 => ?_)
    · replace h := hA hc_6
      clear hA hB
      refine g_iconst hC dX9_isIn_14 ?_
      exact g_zret hC hR (by decide) dX9_isIn_15 ⟨rfl, h⟩
    · replace h := hB hc_6
      clear hA hB
      refine g_iconst hC dX9_isIn_10 ?_
      refine g_goto hC 15 dX9_isIn_11 (by decide) ?_
      exact g_zret hC hR (by decide) dX9_isIn_15 ⟨rfl, h⟩
abbrev wX9_edit : List Cond := Cond.code yX9_edit cX9_edit 8 (some .int) :: gTs
abbrev rmX9_edit : Room := { frames := 1, cells := 0, slots := 0, locals := 20 }
theorem kwX9_edit {c0 : Cond} {rm : Room} (h1 : rmX9_edit.frames + 1 ≤ rm.frames) (h2 : 8 + (8 + 11) + rmX9_edit.locals ≤ rm.locals) : gCw (c0 :: gTs) rm yX9_edit cX9_edit 8 (some .int) wX9_edit rmX9_edit 3 := gCw_of wd_812 wd_49 h1 h2 (by decide +kernel)
def fX9_edit_L95  (x2 : Int) (x3 : Int) (x5 : Int) (x6 : Int) : Nat → Int → gMem → (gMem → Prop) → (Int → gMem → Prop) → Prop
  | 0, _, _, _, _ => False
  | n95 + 1, x7, M, K132, Q =>
    (rg x7 ∧ rg (x2 + x3) ∧ (x7 < (x2 + x3) →
    K132 M) ∧
    (¬ x7 < (x2 + x3) →
    ((0 ≤ (x6 + x7) ∧ (x6 + x7) < 4800) ∧ ((0 ≤ ((x6 + x7) + x5) ∧ ((x6 + x7) + x5) < 4800) ∧ ∀ M_28, M_28 = gSt M 2 ((x6 + x7) + x5) (M 2 (x6 + x7)) → fX9_edit_L95 x2 x3 x5 x6 n95 (x7 + (-1)) M_28 K132 Q))))
set_option maxHeartbeats 4000000 in
set_option maxRecDepth 100000 in
theorem ctX9_edit_L95 {y : gY} {z : gZ} {l : Launch} {x1 : Int} {x2 : Int} {x3 : Int} {x4 : Int} {x5 : Int} {x6 : Int} {Q : Int → gMem → Prop} {K132 : gMem → Prop} (hC : gC y z l cX9_edit RX9 8 wX9_edit rmX9_edit) (hR : gRI y z mL .int Q) (hZ : gZm z)  (hK132 : ∀ (M : gMem), K132 M → gW y z mL 132 [some (vr z 0), some (vi x1), some (vi x2), none, some (vi x4), none, some (vi x6), none] [] M) :
    ∀ (n : Nat) (x7 : Int) (M : gMem), fX9_edit_L95 x2 x3 x5 x6 n x7 M K132 Q → gW y z mL 95 [some (vr z 0), some (vi x1), some (vi x2), some (vi x3), some (vi x4), some (vi x5), some (vi x6), some (vi x7)] [] M := by
  intro n
  induction n with
  | zero => intro x7 M h; exact False.elim h
  | succ n95 ih =>
    intro x7 M h
    replace h : (rg x7 ∧ rg (x2 + x3) ∧ (x7 < (x2 + x3) →
    K132 M) ∧
    (¬ x7 < (x2 + x3) →
    ((0 ≤ (x6 + x7) ∧ (x6 + x7) < 4800) ∧ ((0 ≤ ((x6 + x7) + x5) ∧ ((x6 + x7) + x5) < 4800) ∧ ∀ M_28, M_28 = gSt M 2 ((x6 + x7) + x5) (M 2 (x6 + x7)) → fX9_edit_L95 x2 x3 x5 x6 n95 (x7 + (-1)) M_28 K132 Q)))) := h
    refine g_iload hC dX9_edit_95 rfl ?_
    refine g_iload_n hC dX9_edit_97 rfl rfl ?_
    refine g_iload_n hC dX9_edit_98 rfl rfl ?_
    refine g_iadd hC dX9_edit_99 ?_
    obtain ⟨hr_23, hr_24, hA, hB⟩ := h
    refine g_clt hC 132 hr_23 hr_24 dX9_edit_100 (by decide) (fun hc_25 => ?_) (fun hc_25 => ?_)
    · replace h := hA hc_25
      clear hA hB
      exact g_subk (hK132 M h) (And.intro rfl (And.intro rfl (And.intro rfl (And.intro rfl (And.intro rfl trivial)))))
    · replace h := hB hc_25
      clear hA hB
      refine g_aload_n hC dX9_edit_103 rfl rfl ?_
      refine g_getr (r := 2) hC rfl (gm_k9 hZ) iwX9 1 (by decide) rfl rfl (wc wd_689) dX9_edit_104 ?_
      refine g_iload hC dX9_edit_107 rfl ?_
      refine g_iload hC dX9_edit_109 rfl ?_
      refine g_iadd hC dX9_edit_111 ?_
      refine g_iload hC dX9_edit_112 rfl ?_
      refine g_iadd hC dX9_edit_114 ?_
      refine g_aload_n hC dX9_edit_115 rfl rfl ?_
      refine g_getr (r := 2) hC rfl (gm_k9 hZ) iwX9 1 (by decide) rfl rfl (wc wd_689) dX9_edit_116 ?_
      refine g_iload hC dX9_edit_119 rfl ?_
      refine g_iload hC dX9_edit_121 rfl ?_
      refine g_iadd hC dX9_edit_123 ?_
      obtain ⟨hb_26, h⟩ := h
      refine g_iald hC 0 rfl (m_t0 hZ) (by decide) hb_26 dX9_edit_124 ?_
      obtain ⟨hb_27, h⟩ := h
      obtain ⟨M_28, hM_28⟩ : ∃ M9, M9 = gSt M 2 ((x6 + x7) + x5) (M 2 (x6 + x7)) := ⟨_, rfl⟩
      replace h := h M_28 hM_28
      refine g_iast hC 0 rfl (m_t0 hZ) (by decide) hb_27 dX9_edit_125 hM_28 ?_
      refine g_iinc2 (lc' := [some (vr z 0), some (vi x1), some (vi x2), some (vi x3), some (vi x4), some (vi x5), some (vi x6), some (vi (x7 + (-1)))]) hC dX9_edit_126 rfl rfl ?_
      refine g_goto hC 95 dX9_edit_129 (by decide) ?_
      exact g_subk (ih (x7 + (-1)) M_28 h) (And.intro rfl (And.intro rfl (And.intro rfl (And.intro rfl (And.intro rfl (And.intro rfl (And.intro rfl (And.intro rfl trivial))))))))
def fX9_edit_L183  (x2 : Int) (x6 : Int) : Nat → Int → gMem → (gMem → Prop) → (Int → gMem → Prop) → Prop
  | 0, _, _, _, _ => False
  | n183 + 1, x7, M, K217, Q =>
    (rg x7 ∧ rg (M 0 3) ∧ (x7 < (M 0 3) →
    ((0 ≤ x7 ∧ x7 < 400) ∧ ((0 ≤ ((x6 + x2) + x7) ∧ ((x6 + x2) + x7) < 4800) ∧ ∀ M_35, M_35 = gSt M 2 ((x6 + x2) + x7) (M 3 x7) → fX9_edit_L183 x2 x6 n183 (x7 + 1) M_35 K217 Q))) ∧
    (¬ x7 < (M 0 3) →
    K217 M))
set_option maxHeartbeats 4000000 in
set_option maxRecDepth 100000 in
theorem ctX9_edit_L183 {y : gY} {z : gZ} {l : Launch} {x1 : Int} {x2 : Int} {x4 : Int} {x6 : Int} {Q : Int → gMem → Prop} {K217 : gMem → Prop} (hC : gC y z l cX9_edit RX9 8 wX9_edit rmX9_edit) (hR : gRI y z mL .int Q) (hZ : gZm z)  (hK217 : ∀ (M : gMem), K217 M → gW y z mL 217 [some (vr z 0), some (vi x1), none, none, some (vi x4), none, none, none] [] M) :
    ∀ (n : Nat) (x7 : Int) (M : gMem), fX9_edit_L183 x2 x6 n x7 M K217 Q → gW y z mL 183 [some (vr z 0), some (vi x1), some (vi x2), none, some (vi x4), none, some (vi x6), some (vi x7)] [] M := by
  intro n
  induction n with
  | zero => intro x7 M h; exact False.elim h
  | succ n183 ih =>
    intro x7 M h
    replace h : (rg x7 ∧ rg (M 0 3) ∧ (x7 < (M 0 3) →
    ((0 ≤ x7 ∧ x7 < 400) ∧ ((0 ≤ ((x6 + x2) + x7) ∧ ((x6 + x2) + x7) < 4800) ∧ ∀ M_35, M_35 = gSt M 2 ((x6 + x2) + x7) (M 3 x7) → fX9_edit_L183 x2 x6 n183 (x7 + 1) M_35 K217 Q))) ∧
    (¬ x7 < (M 0 3) →
    K217 M)) := h
    refine g_iload hC dX9_edit_183 rfl ?_
    refine g_aload_n hC dX9_edit_185 rfl rfl ?_
    refine g_geti (ji := 3) hC rfl (gm_k9 hZ) iwX9 3 (by decide) rfl rfl (wc wd_691) dX9_edit_186 rfl ?_
    obtain ⟨hr_30, hr_31, hA, hB⟩ := h
    refine g_cge hC 217 hr_30 hr_31 dX9_edit_189 (by decide) (fun hc_32 => ?_) (fun hc_32 => ?_)
    · replace h := hA hc_32
      clear hA hB
      refine g_aload_n hC dX9_edit_192 rfl rfl ?_
      refine g_getr (r := 2) hC rfl (gm_k9 hZ) iwX9 1 (by decide) rfl rfl (wc wd_689) dX9_edit_193 ?_
      refine g_iload hC dX9_edit_196 rfl ?_
      refine g_iload_n hC dX9_edit_198 rfl rfl ?_
      refine g_iadd hC dX9_edit_199 ?_
      refine g_iload hC dX9_edit_200 rfl ?_
      refine g_iadd hC dX9_edit_202 ?_
      refine g_aload_n hC dX9_edit_203 rfl rfl ?_
      refine g_getr (r := 3) hC rfl (gm_k9 hZ) iwX9 2 (by decide) rfl rfl (wc wd_690) dX9_edit_204 ?_
      refine g_iload hC dX9_edit_207 rfl ?_
      obtain ⟨hb_33, h⟩ := h
      refine g_iald hC 0 rfl (m_t0 hZ) (by decide) hb_33 dX9_edit_209 ?_
      obtain ⟨hb_34, h⟩ := h
      obtain ⟨M_35, hM_35⟩ : ∃ M9, M9 = gSt M 2 ((x6 + x2) + x7) (M 3 x7) := ⟨_, rfl⟩
      replace h := h M_35 hM_35
      refine g_iast hC 0 rfl (m_t0 hZ) (by decide) hb_34 dX9_edit_210 hM_35 ?_
      refine g_iinc2 (lc' := [some (vr z 0), some (vi x1), some (vi x2), none, some (vi x4), none, some (vi x6), some (vi (x7 + 1))]) hC dX9_edit_211 rfl rfl ?_
      refine g_goto hC 183 dX9_edit_214 (by decide) ?_
      exact g_subk (ih (x7 + 1) M_35 h) (And.intro rfl (And.intro rfl (And.intro rfl (And.intro rfl (And.intro rfl (And.intro rfl trivial))))))
    · replace h := hB hc_32
      clear hA hB
      exact g_subk (hK217 M h) (And.intro rfl (And.intro rfl (And.intro rfl trivial)))
def fX9_edit_L140  (x1 : Int) (x5 : Int) (x6 : Int) : Nat → Int → gMem → (gMem → Prop) → (Int → gMem → Prop) → Prop
  | 0, _, _, _, _ => False
  | n140 + 1, x7, M, K180, Q =>
    ((0 ≤ x1 ∧ x1 < 8) ∧ (rg x7 ∧ rg (M 1 x1) ∧ (x7 < (M 1 x1) →
    ((0 ≤ (x6 + x7) ∧ (x6 + x7) < 4800) ∧ ((0 ≤ ((x6 + x7) + x5) ∧ ((x6 + x7) + x5) < 4800) ∧ ∀ M_48, M_48 = gSt M 2 ((x6 + x7) + x5) (M 2 (x6 + x7)) → fX9_edit_L140 x1 x5 x6 n140 (x7 + 1) M_48 K180 Q))) ∧
    (¬ x7 < (M 1 x1) →
    K180 M)))
set_option maxHeartbeats 4000000 in
set_option maxRecDepth 100000 in
theorem ctX9_edit_L140 {y : gY} {z : gZ} {l : Launch} {x1 : Int} {x2 : Int} {x4 : Int} {x5 : Int} {x6 : Int} {Q : Int → gMem → Prop} {K180 : gMem → Prop} (hC : gC y z l cX9_edit RX9 8 wX9_edit rmX9_edit) (hR : gRI y z mL .int Q) (hZ : gZm z)  (hK180 : ∀ (M : gMem), K180 M → gW y z mL 180 [some (vr z 0), some (vi x1), some (vi x2), none, some (vi x4), none, some (vi x6), none] [] M) :
    ∀ (n : Nat) (x7 : Int) (M : gMem), fX9_edit_L140 x1 x5 x6 n x7 M K180 Q → gW y z mL 140 [some (vr z 0), some (vi x1), some (vi x2), none, some (vi x4), some (vi x5), some (vi x6), some (vi x7)] [] M := by
  intro n
  induction n with
  | zero => intro x7 M h; exact False.elim h
  | succ n140 ih =>
    intro x7 M h
    replace h : ((0 ≤ x1 ∧ x1 < 8) ∧ (rg x7 ∧ rg (M 1 x1) ∧ (x7 < (M 1 x1) →
    ((0 ≤ (x6 + x7) ∧ (x6 + x7) < 4800) ∧ ((0 ≤ ((x6 + x7) + x5) ∧ ((x6 + x7) + x5) < 4800) ∧ ∀ M_48, M_48 = gSt M 2 ((x6 + x7) + x5) (M 2 (x6 + x7)) → fX9_edit_L140 x1 x5 x6 n140 (x7 + 1) M_48 K180 Q))) ∧
    (¬ x7 < (M 1 x1) →
    K180 M))) := h
    refine g_iload hC dX9_edit_140 rfl ?_
    refine g_aload_n hC dX9_edit_142 rfl rfl ?_
    refine g_getr (r := 1) hC rfl (gm_k9 hZ) iwX9 0 (by decide) rfl rfl (wc wd_688) dX9_edit_143 ?_
    refine g_iload_n hC dX9_edit_146 rfl rfl ?_
    obtain ⟨hb_42, h⟩ := h
    refine g_iald hC 0 rfl (m_t0 hZ) (by decide) hb_42 dX9_edit_147 ?_
    obtain ⟨hr_43, hr_44, hA, hB⟩ := h
    refine g_cge hC 180 hr_43 hr_44 dX9_edit_148 (by decide) (fun hc_45 => ?_) (fun hc_45 => ?_)
    · replace h := hA hc_45
      clear hA hB
      refine g_aload_n hC dX9_edit_151 rfl rfl ?_
      refine g_getr (r := 2) hC rfl (gm_k9 hZ) iwX9 1 (by decide) rfl rfl (wc wd_689) dX9_edit_152 ?_
      refine g_iload hC dX9_edit_155 rfl ?_
      refine g_iload hC dX9_edit_157 rfl ?_
      refine g_iadd hC dX9_edit_159 ?_
      refine g_iload hC dX9_edit_160 rfl ?_
      refine g_iadd hC dX9_edit_162 ?_
      refine g_aload_n hC dX9_edit_163 rfl rfl ?_
      refine g_getr (r := 2) hC rfl (gm_k9 hZ) iwX9 1 (by decide) rfl rfl (wc wd_689) dX9_edit_164 ?_
      refine g_iload hC dX9_edit_167 rfl ?_
      refine g_iload hC dX9_edit_169 rfl ?_
      refine g_iadd hC dX9_edit_171 ?_
      obtain ⟨hb_46, h⟩ := h
      refine g_iald hC 0 rfl (m_t0 hZ) (by decide) hb_46 dX9_edit_172 ?_
      obtain ⟨hb_47, h⟩ := h
      obtain ⟨M_48, hM_48⟩ : ∃ M9, M9 = gSt M 2 ((x6 + x7) + x5) (M 2 (x6 + x7)) := ⟨_, rfl⟩
      replace h := h M_48 hM_48
      refine g_iast hC 0 rfl (m_t0 hZ) (by decide) hb_47 dX9_edit_173 hM_48 ?_
      refine g_iinc2 (lc' := [some (vr z 0), some (vi x1), some (vi x2), none, some (vi x4), some (vi x5), some (vi x6), some (vi (x7 + 1))]) hC dX9_edit_174 rfl rfl ?_
      refine g_goto hC 140 dX9_edit_177 (by decide) ?_
      exact g_subk (ih (x7 + 1) M_48 h) (And.intro rfl (And.intro rfl (And.intro rfl (And.intro rfl (And.intro rfl (And.intro rfl (And.intro rfl trivial)))))))
    · replace h := hB hc_45
      clear hA hB
      exact g_subk (hK180 M h) (And.intro rfl (And.intro rfl (And.intro rfl (And.intro rfl (And.intro rfl trivial)))))
def fX9_edit (x1 : Int) (x2 : Int) (x3 : Int) (M : gMem) (Q : Int → gMem → Prop) : Prop :=
  (fX9_isFile x1 M (fun r_1 =>
  (rg r_1 ∧ (r_1 = 0 →
  Q (-1) M) ∧
  (¬ r_1 = 0 →
  (rg x2 ∧ (x2 < 0 →
    Q (-1) M) ∧
    (¬ x2 < 0 →
    ((0 ≤ x1 ∧ x1 < 8) ∧ (rg x2 ∧ rg (M 1 x1) ∧ ((M 1 x1) < x2 →
      Q (-1) M) ∧
      (¬ (M 1 x1) < x2 →
      (rg x3 ∧ (x3 < 0 →
        Q (-1) M) ∧
        (¬ x3 < 0 →
        ((0 ≤ x1 ∧ x1 < 8) ∧ (rg x3 ∧ rg ((M 1 x1) - x2) ∧ (((M 1 x1) - x2) < x3 →
          Q (-1) M) ∧
          (¬ ((M 1 x1) - x2) < x3 →
          ((0 ≤ x1 ∧ x1 < 8) ∧ (rg (((M 1 x1) - x3) + (M 0 3)) ∧ (600 < (((M 1 x1) - x3) + (M 0 3)) →
            Q (-2) M) ∧
            (¬ 600 < (((M 1 x1) - x3) + (M 0 3)) →
            (rg ((M 0 3) - x3) ∧ (0 < ((M 0 3) - x3) →
              ((0 ≤ x1 ∧ x1 < 8) ∧ ∃ n_41, fX9_edit_L95 x2 x3 ((M 0 3) - x3) (600 * x1) n_41 ((M 1 x1) - 1) M (fun M_29 =>
                ∃ n_40, fX9_edit_L183 x2 (600 * x1) n_40 0 M_29 (fun M_36 =>
                  ((0 ≤ x1 ∧ x1 < 8) ∧ ∀ M_38, M_38 = gSt M_36 1 x1 (((M 1 x1) - x3) + (M 0 3)) → (∀ M_39, M_39 = gSt M_38 0 3 0 → Q (((M 1 x1) - x3) + (M 0 3)) M_39))) Q) Q)) ∧
              (¬ 0 < ((M 0 3) - x3) →
              ∃ n_55, fX9_edit_L140 x1 ((M 0 3) - x3) (600 * x1) n_55 (x2 + x3) M (fun M_49 =>
                ∃ n_54, fX9_edit_L183 x2 (600 * x1) n_54 0 M_49 (fun M_50 =>
                  ((0 ≤ x1 ∧ x1 < 8) ∧ ∀ M_52, M_52 = gSt M_50 1 x1 (((M 1 x1) - x3) + (M 0 3)) → (∀ M_53, M_53 = gSt M_52 0 3 0 → Q (((M 1 x1) - x3) + (M 0 3)) M_53))) Q) Q)))))))))))))))))))
set_option maxHeartbeats 4000000 in
set_option maxRecDepth 100000 in
theorem ctX9_edit {l : Launch} {z : gZ} (hZ : gZm z) {x1 : Int} {x2 : Int} {x3 : Int}  {M : gMem} {Q : Int → gMem → Prop} (h : fX9_edit x1 x2 x3 M Q) : gMI l z mL yX9_edit wX9_edit rmX9_edit [(vr z 0), (vi x1), (vi x2), (vi x3)] M Q := by
  refine g_metI .int (by decide) rfl rfl (gCat_all (And.intro rfl (And.intro rfl (And.intro rfl (And.intro rfl trivial))))) (Nat.le_of_ble_eq_true rfl) ?_
  intro y hC hR
  replace h : (fX9_isFile x1 M (fun r_1 =>
  (rg r_1 ∧ (r_1 = 0 →
  Q (-1) M) ∧
  (¬ r_1 = 0 →
  (rg x2 ∧ (x2 < 0 →
    Q (-1) M) ∧
    (¬ x2 < 0 →
    ((0 ≤ x1 ∧ x1 < 8) ∧ (rg x2 ∧ rg (M 1 x1) ∧ ((M 1 x1) < x2 →
      Q (-1) M) ∧
      (¬ (M 1 x1) < x2 →
      (rg x3 ∧ (x3 < 0 →
        Q (-1) M) ∧
        (¬ x3 < 0 →
        ((0 ≤ x1 ∧ x1 < 8) ∧ (rg x3 ∧ rg ((M 1 x1) - x2) ∧ (((M 1 x1) - x2) < x3 →
          Q (-1) M) ∧
          (¬ ((M 1 x1) - x2) < x3 →
          ((0 ≤ x1 ∧ x1 < 8) ∧ (rg (((M 1 x1) - x3) + (M 0 3)) ∧ (600 < (((M 1 x1) - x3) + (M 0 3)) →
            Q (-2) M) ∧
            (¬ 600 < (((M 1 x1) - x3) + (M 0 3)) →
            (rg ((M 0 3) - x3) ∧ (0 < ((M 0 3) - x3) →
              ((0 ≤ x1 ∧ x1 < 8) ∧ ∃ n_41, fX9_edit_L95 x2 x3 ((M 0 3) - x3) (600 * x1) n_41 ((M 1 x1) - 1) M (fun M_29 =>
                ∃ n_40, fX9_edit_L183 x2 (600 * x1) n_40 0 M_29 (fun M_36 =>
                  ((0 ≤ x1 ∧ x1 < 8) ∧ ∀ M_38, M_38 = gSt M_36 1 x1 (((M 1 x1) - x3) + (M 0 3)) → (∀ M_39, M_39 = gSt M_38 0 3 0 → Q (((M 1 x1) - x3) + (M 0 3)) M_39))) Q) Q)) ∧
              (¬ 0 < ((M 0 3) - x3) →
              ∃ n_55, fX9_edit_L140 x1 ((M 0 3) - x3) (600 * x1) n_55 (x2 + x3) M (fun M_49 =>
                ∃ n_54, fX9_edit_L183 x2 (600 * x1) n_54 0 M_49 (fun M_50 =>
                  ((0 ≤ x1 ∧ x1 < 8) ∧ ∀ M_52, M_52 = gSt M_50 1 x1 (((M 1 x1) - x3) + (M 0 3)) → (∀ M_53, M_53 = gSt M_52 0 3 0 → Q (((M 1 x1) - x3) + (M 0 3)) M_53))) Q) Q))))))))))))))))))) := h
  refine g_lc (lc' := [some (vr z 0), some (vi x1), some (vi x2), some (vi x3), none, none, none, none]) rfl ?_
  refine g_iload_n hC dX9_edit_0 rfl rfl ?_
  refine g_calli (g_runS (As := [(vi x1)]) (rest := []) hC rfl (ctX9_isFile hZ  h) (kwX9_isFile (by decide) (by decide)) (wc wd_813) (wc wd_814) rfl (Nat.le_of_ble_eq_true rfl) rfl dX9_edit_1) (fun r_1 M_2 h => ?_)
  obtain ⟨rfl, h⟩ := h
  obtain ⟨hr_3, hA, hB⟩ := h
  refine g_ieq hC 37 hr_3 dX9_edit_4 (by decide) (fun hc_4 => ?_) (fun hc_4 => ?_)
  · replace h := hA hc_4
    clear hA hB
    refine g_iconst hC dX9_edit_37 ?_
    exact g_iret hC hR dX9_edit_38 h
  · replace h := hB hc_4
    clear hA hB
    refine g_iload_n hC dX9_edit_7 rfl rfl ?_
    obtain ⟨hr_5, hA, hB⟩ := h
    refine g_ilt hC 37 hr_5 dX9_edit_8 (by decide) (fun hc_6 => ?_) (fun hc_6 => ?_)
    · replace h := hA hc_6
      clear hA hB
      refine g_iconst hC dX9_edit_37 ?_
      exact g_iret hC hR dX9_edit_38 h
    · replace h := hB hc_6
      clear hA hB
      refine g_iload_n hC dX9_edit_11 rfl rfl ?_
      refine g_aload_n hC dX9_edit_12 rfl rfl ?_
      refine g_getr (r := 1) hC rfl (gm_k9 hZ) iwX9 0 (by decide) rfl rfl (wc wd_688) dX9_edit_13 ?_
      refine g_iload_n hC dX9_edit_16 rfl rfl ?_
      obtain ⟨hb_7, h⟩ := h
      refine g_iald hC 0 rfl (m_t0 hZ) (by decide) hb_7 dX9_edit_17 ?_
      obtain ⟨hr_8, hr_9, hA, hB⟩ := h
      refine g_cgt hC 37 hr_8 hr_9 dX9_edit_18 (by decide) (fun hc_10 => ?_) (fun hc_10 => ?_)
      · replace h := hA hc_10
        clear hA hB
        refine g_iconst hC dX9_edit_37 ?_
        exact g_iret hC hR dX9_edit_38 h
      · replace h := hB hc_10
        clear hA hB
        refine g_iload_n hC dX9_edit_21 rfl rfl ?_
        obtain ⟨hr_11, hA, hB⟩ := h
        refine g_ilt hC 37 hr_11 dX9_edit_22 (by decide) (fun hc_12 => ?_) (fun hc_12 => ?_)
        · replace h := hA hc_12
          clear hA hB
          refine g_iconst hC dX9_edit_37 ?_
          exact g_iret hC hR dX9_edit_38 h
        · replace h := hB hc_12
          clear hA hB
          refine g_iload_n hC dX9_edit_25 rfl rfl ?_
          refine g_aload_n hC dX9_edit_26 rfl rfl ?_
          refine g_getr (r := 1) hC rfl (gm_k9 hZ) iwX9 0 (by decide) rfl rfl (wc wd_688) dX9_edit_27 ?_
          refine g_iload_n hC dX9_edit_30 rfl rfl ?_
          obtain ⟨hb_13, h⟩ := h
          refine g_iald hC 0 rfl (m_t0 hZ) (by decide) hb_13 dX9_edit_31 ?_
          refine g_iload_n hC dX9_edit_32 rfl rfl ?_
          refine g_isub hC dX9_edit_33 ?_
          obtain ⟨hr_14, hr_15, hA, hB⟩ := h
          refine g_cle hC 39 hr_14 hr_15 dX9_edit_34 (by decide) (fun hc_16 => ?_) (fun hc_16 => ?_)
          · replace h := hA hc_16
            clear hA hB
            refine g_iconst hC dX9_edit_37 ?_
            exact g_iret hC hR dX9_edit_38 h
          · replace h := hB hc_16
            clear hA hB
            refine g_aload_n hC dX9_edit_39 rfl rfl ?_
            refine g_getr (r := 1) hC rfl (gm_k9 hZ) iwX9 0 (by decide) rfl rfl (wc wd_688) dX9_edit_40 ?_
            refine g_iload_n hC dX9_edit_43 rfl rfl ?_
            obtain ⟨hb_17, h⟩ := h
            refine g_iald hC 0 rfl (m_t0 hZ) (by decide) hb_17 dX9_edit_44 ?_
            refine g_iload_n hC dX9_edit_45 rfl rfl ?_
            refine g_isub hC dX9_edit_46 ?_
            refine g_aload_n hC dX9_edit_47 rfl rfl ?_
            refine g_geti (ji := 3) hC rfl (gm_k9 hZ) iwX9 3 (by decide) rfl rfl (wc wd_691) dX9_edit_48 rfl ?_
            refine g_iadd hC dX9_edit_51 ?_
            refine g_istore2 (lc' := [some (vr z 0), some (vi x1), some (vi x2), some (vi x3), some (vi (((M 1 x1) - x3) + (M 0 3))), none, none, none]) hC dX9_edit_52 (Nat.le_of_ble_eq_true rfl) rfl ?_
            refine g_iload hC dX9_edit_54 rfl ?_
            refine g_sipush hC dX9_edit_56 (by decide) ?_
            obtain ⟨hr_18, hA, hB⟩ := h
            refine g_cle hC 65 hr_18 (by decide) dX9_edit_59 (by decide) (fun hc_19 => ?_) (fun hc_19 => ?_)
            · replace h := hA hc_19
              clear hA hB
              refine g_bipush hC dX9_edit_62 (by decide) ?_
              exact g_iret hC hR dX9_edit_64 h
            · replace h := hB hc_19
              clear hA hB
              refine g_aload_n hC dX9_edit_65 rfl rfl ?_
              refine g_geti (ji := 3) hC rfl (gm_k9 hZ) iwX9 3 (by decide) rfl rfl (wc wd_691) dX9_edit_66 rfl ?_
              refine g_iload_n hC dX9_edit_69 rfl rfl ?_
              refine g_isub hC dX9_edit_70 ?_
              refine g_istore2 (lc' := [some (vr z 0), some (vi x1), some (vi x2), some (vi x3), some (vi (((M 1 x1) - x3) + (M 0 3))), some (vi ((M 0 3) - x3)), none, none]) hC dX9_edit_71 (Nat.le_of_ble_eq_true rfl) rfl ?_
              refine g_sipush hC dX9_edit_73 (by decide) ?_
              refine g_iload_n hC dX9_edit_76 rfl rfl ?_
              refine g_imul hC dX9_edit_77 ?_
              refine g_istore2 (lc' := [some (vr z 0), some (vi x1), some (vi x2), some (vi x3), some (vi (((M 1 x1) - x3) + (M 0 3))), some (vi ((M 0 3) - x3)), some (vi (600 * x1)), none]) hC dX9_edit_78 (Nat.le_of_ble_eq_true rfl) rfl ?_
              refine g_iload hC dX9_edit_80 rfl ?_
              obtain ⟨hr_20, hA, hB⟩ := h
              refine g_ile hC 135 hr_20 dX9_edit_82 (by decide) (fun hc_21 => ?_) (fun hc_21 => ?_)
              · replace h := hA hc_21
                clear hA hB
                refine g_aload_n hC dX9_edit_85 rfl rfl ?_
                refine g_getr (r := 1) hC rfl (gm_k9 hZ) iwX9 0 (by decide) rfl rfl (wc wd_688) dX9_edit_86 ?_
                refine g_iload_n hC dX9_edit_89 rfl rfl ?_
                obtain ⟨hb_22, h⟩ := h
                refine g_iald hC 0 rfl (m_t0 hZ) (by decide) hb_22 dX9_edit_90 ?_
                refine g_iconst hC dX9_edit_91 ?_
                refine g_isub hC dX9_edit_92 ?_
                refine g_istore2 (lc' := [some (vr z 0), some (vi x1), some (vi x2), some (vi x3), some (vi (((M 1 x1) - x3) + (M 0 3))), some (vi ((M 0 3) - x3)), some (vi (600 * x1)), some (vi ((M 1 x1) - 1))]) hC dX9_edit_93 (Nat.le_of_ble_eq_true rfl) rfl ?_
                obtain ⟨n_41, h⟩ := h
                refine g_subk (ctX9_edit_L95 hC hR hZ ?_ n_41 ((M 1 x1) - 1) M h) (And.intro rfl (And.intro rfl (And.intro rfl (And.intro rfl (And.intro rfl (And.intro rfl (And.intro rfl (And.intro rfl trivial))))))))
                intro M_29 h
                refine g_goto hC 180 dX9_edit_132 (by decide) ?_
                refine g_iconst hC dX9_edit_180 ?_
                refine g_istore2 (lc' := [some (vr z 0), some (vi x1), some (vi x2), none, some (vi (((M 1 x1) - x3) + (M 0 3))), none, some (vi (600 * x1)), some (vi 0)]) hC dX9_edit_181 (Nat.le_of_ble_eq_true rfl) rfl ?_
                obtain ⟨n_40, h⟩ := h
                refine g_subk (ctX9_edit_L183 hC hR hZ ?_ n_40 0 M_29 h) (And.intro rfl (And.intro rfl (And.intro rfl (And.intro rfl (And.intro rfl (And.intro rfl trivial))))))
                intro M_36 h
                refine g_aload_n hC dX9_edit_217 rfl rfl ?_
                refine g_getr (r := 1) hC rfl (gm_k9 hZ) iwX9 0 (by decide) rfl rfl (wc wd_688) dX9_edit_218 ?_
                refine g_iload_n hC dX9_edit_221 rfl rfl ?_
                refine g_iload hC dX9_edit_222 rfl ?_
                obtain ⟨hb_37, h⟩ := h
                obtain ⟨M_38, hM_38⟩ : ∃ M9, M9 = gSt M_36 1 x1 (((M 1 x1) - x3) + (M 0 3)) := ⟨_, rfl⟩
                replace h := h M_38 hM_38
                refine g_iast hC 0 rfl (m_t0 hZ) (by decide) hb_37 dX9_edit_224 hM_38 ?_
                refine g_aload_n hC dX9_edit_225 rfl rfl ?_
                refine g_iconst hC dX9_edit_226 ?_
                obtain ⟨M_39, hM_39⟩ : ∃ M9, M9 = gSt M_38 0 3 0 := ⟨_, rfl⟩
                replace h := h M_39 hM_39
                refine g_puti (ji := 3) hC rfl (gm_k9 hZ) iwX9 tyX9_ok nmX9 3 (by decide) rfl rfl (wc wd_691) rfl rfl dX9_edit_227 rfl hM_39 ?_
                refine g_iload hC dX9_edit_230 rfl ?_
                exact g_iret hC hR dX9_edit_232 h
              · replace h := hB hc_21
                clear hA hB
                refine g_iload_n hC dX9_edit_135 rfl rfl ?_
                refine g_iload_n hC dX9_edit_136 rfl rfl ?_
                refine g_iadd hC dX9_edit_137 ?_
                refine g_istore2 (lc' := [some (vr z 0), some (vi x1), some (vi x2), some (vi x3), some (vi (((M 1 x1) - x3) + (M 0 3))), some (vi ((M 0 3) - x3)), some (vi (600 * x1)), some (vi (x2 + x3))]) hC dX9_edit_138 (Nat.le_of_ble_eq_true rfl) rfl ?_
                obtain ⟨n_55, h⟩ := h
                refine g_subk (ctX9_edit_L140 hC hR hZ ?_ n_55 (x2 + x3) M h) (And.intro rfl (And.intro rfl (And.intro rfl (And.intro rfl (And.intro rfl (And.intro rfl (And.intro rfl trivial)))))))
                intro M_49 h
                refine g_iconst hC dX9_edit_180 ?_
                refine g_istore2 (lc' := [some (vr z 0), some (vi x1), some (vi x2), none, some (vi (((M 1 x1) - x3) + (M 0 3))), none, some (vi (600 * x1)), some (vi 0)]) hC dX9_edit_181 (Nat.le_of_ble_eq_true rfl) rfl ?_
                obtain ⟨n_54, h⟩ := h
                refine g_subk (ctX9_edit_L183 hC hR hZ ?_ n_54 0 M_49 h) (And.intro rfl (And.intro rfl (And.intro rfl (And.intro rfl (And.intro rfl (And.intro rfl trivial))))))
                intro M_50 h
                refine g_aload_n hC dX9_edit_217 rfl rfl ?_
                refine g_getr (r := 1) hC rfl (gm_k9 hZ) iwX9 0 (by decide) rfl rfl (wc wd_688) dX9_edit_218 ?_
                refine g_iload_n hC dX9_edit_221 rfl rfl ?_
                refine g_iload hC dX9_edit_222 rfl ?_
                obtain ⟨hb_51, h⟩ := h
                obtain ⟨M_52, hM_52⟩ : ∃ M9, M9 = gSt M_50 1 x1 (((M 1 x1) - x3) + (M 0 3)) := ⟨_, rfl⟩
                replace h := h M_52 hM_52
                refine g_iast hC 0 rfl (m_t0 hZ) (by decide) hb_51 dX9_edit_224 hM_52 ?_
                refine g_aload_n hC dX9_edit_225 rfl rfl ?_
                refine g_iconst hC dX9_edit_226 ?_
                obtain ⟨M_53, hM_53⟩ : ∃ M9, M9 = gSt M_52 0 3 0 := ⟨_, rfl⟩
                replace h := h M_53 hM_53
                refine g_puti (ji := 3) hC rfl (gm_k9 hZ) iwX9 tyX9_ok nmX9 3 (by decide) rfl rfl (wc wd_691) rfl rfl dX9_edit_227 rfl hM_53 ?_
                refine g_iload hC dX9_edit_230 rfl ?_
                exact g_iret hC hR dX9_edit_232 h
abbrev wX9_sow : List Cond := Cond.code yX9_sow cX9_sow 7 (some .int) :: gTs
abbrev rmX9_sow : Room := { frames := 1, cells := 0, slots := 0, locals := 22 }
theorem kwX9_sow {c0 : Cond} {rm : Room} (h1 : rmX9_sow.frames + 1 ≤ rm.frames) (h2 : 8 + (7 + 11) + rmX9_sow.locals ≤ rm.locals) : gCw (c0 :: gTs) rm yX9_sow cX9_sow 7 (some .int) wX9_sow rmX9_sow 4 := gCw_of wd_819 wd_49 h1 h2 (by decide +kernel)
def fX9_sow_L52  (x1 : Int) (x2 : Int) (x4 : Int) : Nat → Int → Int → gMem → (gMem → Prop) → (Int → gMem → Prop) → Prop
  | 0, _, _, _, _, _ => False
  | n52 + 1, x5, x6, M, K110, Q =>
    (rg x6 ∧ rg x2 ∧ (x6 < x2 →
    ((0 ≤ x1 ∧ x1 < 8) ∧ (rg (ushr ((1103515245 * x5) + 12345) 8) ∧ rg x4 ∧ x4 ≠ 0 ∧ ((0 ≤ ((600 * x1) + (M 1 x1)) ∧ ((600 * x1) + (M 1 x1)) < 4800) ∧ ∀ M_24, M_24 = gSt M 2 ((600 * x1) + (M 1 x1)) (Int.tmod (ushr ((1103515245 * x5) + 12345) 8) x4) → ((0 ≤ x1 ∧ x1 < 8) ∧ ((0 ≤ x1 ∧ x1 < 8) ∧ ∀ M_27, M_27 = gSt M_24 1 x1 ((M_24 1 x1) + 1) → fX9_sow_L52 x1 x2 x4 n52 ((1103515245 * x5) + 12345) (x6 + 1) M_27 K110 Q)))))) ∧
    (¬ x6 < x2 →
    K110 M))
set_option maxHeartbeats 4000000 in
set_option maxRecDepth 100000 in
theorem ctX9_sow_L52 {y : gY} {z : gZ} {l : Launch} {x1 : Int} {x2 : Int} {x4 : Int} {Q : Int → gMem → Prop} {K110 : gMem → Prop} (hC : gC y z l cX9_sow RX9 7 wX9_sow rmX9_sow) (hR : gRI y z mL .int Q) (hZ : gZm z)  (hK110 : ∀ (M : gMem), K110 M → gW y z mL 110 [some (vr z 0), some (vi x1), none, none, none, none, none] [] M) :
    ∀ (n : Nat) (x5 : Int) (x6 : Int) (M : gMem), fX9_sow_L52 x1 x2 x4 n x5 x6 M K110 Q → gW y z mL 52 [some (vr z 0), some (vi x1), some (vi x2), none, some (vi x4), some (vi x5), some (vi x6)] [] M := by
  intro n
  induction n with
  | zero => intro x5 x6 M h; exact False.elim h
  | succ n52 ih =>
    intro x5 x6 M h
    replace h : (rg x6 ∧ rg x2 ∧ (x6 < x2 →
    ((0 ≤ x1 ∧ x1 < 8) ∧ (rg (ushr ((1103515245 * x5) + 12345) 8) ∧ rg x4 ∧ x4 ≠ 0 ∧ ((0 ≤ ((600 * x1) + (M 1 x1)) ∧ ((600 * x1) + (M 1 x1)) < 4800) ∧ ∀ M_24, M_24 = gSt M 2 ((600 * x1) + (M 1 x1)) (Int.tmod (ushr ((1103515245 * x5) + 12345) 8) x4) → ((0 ≤ x1 ∧ x1 < 8) ∧ ((0 ≤ x1 ∧ x1 < 8) ∧ ∀ M_27, M_27 = gSt M_24 1 x1 ((M_24 1 x1) + 1) → fX9_sow_L52 x1 x2 x4 n52 ((1103515245 * x5) + 12345) (x6 + 1) M_27 K110 Q)))))) ∧
    (¬ x6 < x2 →
    K110 M)) := h
    refine g_iload hC dX9_sow_52 rfl ?_
    refine g_iload_n hC dX9_sow_54 rfl rfl ?_
    obtain ⟨hr_16, hr_17, hA, hB⟩ := h
    refine g_cge hC 110 hr_16 hr_17 dX9_sow_55 (by decide) (fun hc_18 => ?_) (fun hc_18 => ?_)
    · replace h := hA hc_18
      clear hA hB
      refine g_ldc hC (n := 1103515245) dX9_sow_58 (wc wd_823) (by decide) ?_
      refine g_iload hC dX9_sow_60 rfl ?_
      refine g_imul hC dX9_sow_62 ?_
      refine g_sipush hC dX9_sow_63 (by decide) ?_
      refine g_iadd hC dX9_sow_66 ?_
      refine g_istore2 (lc' := [some (vr z 0), some (vi x1), some (vi x2), none, some (vi x4), some (vi ((1103515245 * x5) + 12345)), some (vi x6)]) hC dX9_sow_67 (Nat.le_of_ble_eq_true rfl) rfl ?_
      refine g_aload_n hC dX9_sow_69 rfl rfl ?_
      refine g_getr (r := 2) hC rfl (gm_k9 hZ) iwX9 1 (by decide) rfl rfl (wc wd_689) dX9_sow_70 ?_
      refine g_sipush hC dX9_sow_73 (by decide) ?_
      refine g_iload_n hC dX9_sow_76 rfl rfl ?_
      refine g_imul hC dX9_sow_77 ?_
      refine g_aload_n hC dX9_sow_78 rfl rfl ?_
      refine g_getr (r := 1) hC rfl (gm_k9 hZ) iwX9 0 (by decide) rfl rfl (wc wd_688) dX9_sow_79 ?_
      refine g_iload_n hC dX9_sow_82 rfl rfl ?_
      obtain ⟨hb_19, h⟩ := h
      refine g_iald hC 0 rfl (m_t0 hZ) (by decide) hb_19 dX9_sow_83 ?_
      refine g_iadd hC dX9_sow_84 ?_
      refine g_iload hC dX9_sow_85 rfl ?_
      refine g_bipush hC dX9_sow_87 (by decide) ?_
      refine g_iushr hC (by decide) dX9_sow_89 ?_
      refine g_iload hC dX9_sow_90 rfl ?_
      obtain ⟨hr_20, hr_21, hr_22, h⟩ := h
      refine g_irem hC hr_20 hr_21 hr_22 dX9_sow_92 ?_
      obtain ⟨hb_23, h⟩ := h
      obtain ⟨M_24, hM_24⟩ : ∃ M9, M9 = gSt M 2 ((600 * x1) + (M 1 x1)) (Int.tmod (ushr ((1103515245 * x5) + 12345) 8) x4) := ⟨_, rfl⟩
      replace h := h M_24 hM_24
      refine g_iast hC 0 rfl (m_t0 hZ) (by decide) hb_23 dX9_sow_93 hM_24 ?_
      refine g_aload_n hC dX9_sow_94 rfl rfl ?_
      refine g_getr (r := 1) hC rfl (gm_k9 hZ) iwX9 0 (by decide) rfl rfl (wc wd_688) dX9_sow_95 ?_
      refine g_iload_n hC dX9_sow_98 rfl rfl ?_
      refine g_dup2 hC dX9_sow_99 rfl rfl ?_
      obtain ⟨hb_25, h⟩ := h
      refine g_iald hC 0 rfl (m_t0 hZ) (by decide) hb_25 dX9_sow_100 ?_
      refine g_iconst hC dX9_sow_101 ?_
      refine g_iadd hC dX9_sow_102 ?_
      obtain ⟨hb_26, h⟩ := h
      obtain ⟨M_27, hM_27⟩ : ∃ M9, M9 = gSt M_24 1 x1 ((M_24 1 x1) + 1) := ⟨_, rfl⟩
      replace h := h M_27 hM_27
      refine g_iast hC 0 rfl (m_t0 hZ) (by decide) hb_26 dX9_sow_103 hM_27 ?_
      refine g_iinc2 (lc' := [some (vr z 0), some (vi x1), some (vi x2), none, some (vi x4), some (vi ((1103515245 * x5) + 12345)), some (vi (x6 + 1))]) hC dX9_sow_104 rfl rfl ?_
      refine g_goto hC 52 dX9_sow_107 (by decide) ?_
      exact g_subk (ih ((1103515245 * x5) + 12345) (x6 + 1) M_27 h) (And.intro rfl (And.intro rfl (And.intro rfl (And.intro rfl (And.intro rfl (And.intro rfl trivial))))))
    · replace h := hB hc_18
      clear hA hB
      exact g_subk (hK110 M h) (And.intro rfl (And.intro rfl trivial))
def fX9_sow (x1 : Int) (x2 : Int) (x3 : Int) (x4 : Int) (M : gMem) (Q : Int → gMem → Prop) : Prop :=
  (fX9_isFile x1 M (fun r_1 =>
  (rg r_1 ∧ (r_1 = 0 →
  Q (-1) M) ∧
  (¬ r_1 = 0 →
  (fX9_isIn x2 1 200 M (fun r_5 =>
    (rg r_5 ∧ (r_5 = 0 →
    Q (-1) M) ∧
    (¬ r_5 = 0 →
    (fX9_isIn x4 1 256 M (fun r_9 =>
      (rg r_9 ∧ (r_9 = 0 →
      Q (-1) M) ∧
      (¬ r_9 = 0 →
      ((0 ≤ x1 ∧ x1 < 8) ∧ (rg ((M 1 x1) + x2) ∧ (600 < ((M 1 x1) + x2) →
        Q (-1) M) ∧
        (¬ 600 < ((M 1 x1) + x2) →
        ∃ n_30, fX9_sow_L52 x1 x2 x4 n_30 x3 0 M (fun M_28 =>
          ((0 ≤ x1 ∧ x1 < 8) ∧ Q (M_28 1 x1) M_28)) Q)))))))))))))))
set_option maxHeartbeats 4000000 in
set_option maxRecDepth 100000 in
theorem ctX9_sow {l : Launch} {z : gZ} (hZ : gZm z) {x1 : Int} {x2 : Int} {x3 : Int} {x4 : Int}  {M : gMem} {Q : Int → gMem → Prop} (h : fX9_sow x1 x2 x3 x4 M Q) : gMI l z mL yX9_sow wX9_sow rmX9_sow [(vr z 0), (vi x1), (vi x2), (vi x3), (vi x4)] M Q := by
  refine g_metI .int (by decide) rfl rfl (gCat_all (And.intro rfl (And.intro rfl (And.intro rfl (And.intro rfl (And.intro rfl trivial)))))) (Nat.le_of_ble_eq_true rfl) ?_
  intro y hC hR
  replace h : (fX9_isFile x1 M (fun r_1 =>
  (rg r_1 ∧ (r_1 = 0 →
  Q (-1) M) ∧
  (¬ r_1 = 0 →
  (fX9_isIn x2 1 200 M (fun r_5 =>
    (rg r_5 ∧ (r_5 = 0 →
    Q (-1) M) ∧
    (¬ r_5 = 0 →
    (fX9_isIn x4 1 256 M (fun r_9 =>
      (rg r_9 ∧ (r_9 = 0 →
      Q (-1) M) ∧
      (¬ r_9 = 0 →
      ((0 ≤ x1 ∧ x1 < 8) ∧ (rg ((M 1 x1) + x2) ∧ (600 < ((M 1 x1) + x2) →
        Q (-1) M) ∧
        (¬ 600 < ((M 1 x1) + x2) →
        ∃ n_30, fX9_sow_L52 x1 x2 x4 n_30 x3 0 M (fun M_28 =>
          ((0 ≤ x1 ∧ x1 < 8) ∧ Q (M_28 1 x1) M_28)) Q))))))))))))))) := h
  refine g_lc (lc' := [some (vr z 0), some (vi x1), some (vi x2), some (vi x3), some (vi x4), none, none]) rfl ?_
  refine g_iload_n hC dX9_sow_0 rfl rfl ?_
  refine g_calli (g_runS (As := [(vi x1)]) (rest := []) hC rfl (ctX9_isFile hZ  h) (kwX9_isFile (by decide) (by decide)) (wc wd_813) (wc wd_814) rfl (Nat.le_of_ble_eq_true rfl) rfl dX9_sow_1) (fun r_1 M_2 h => ?_)
  obtain ⟨rfl, h⟩ := h
  obtain ⟨hr_3, hA, hB⟩ := h
  refine g_ieq hC 44 hr_3 dX9_sow_4 (by decide) (fun hc_4 => ?_) (fun hc_4 => ?_)
  · replace h := hA hc_4
    clear hA hB
    refine g_iconst hC dX9_sow_44 ?_
    exact g_iret hC hR dX9_sow_45 h
  · replace h := hB hc_4
    clear hA hB
    refine g_iload_n hC dX9_sow_7 rfl rfl ?_
    refine g_iconst hC dX9_sow_8 ?_
    refine g_sipush hC dX9_sow_9 (by decide) ?_
    refine g_calli (g_runS (As := [(vi x2), (vi 1), (vi 200)]) (rest := []) hC rfl (ctX9_isIn hZ  h) (kwX9_isIn (by decide) (by decide)) (wc wd_820) (wc wd_821) rfl (Nat.le_of_ble_eq_true rfl) rfl dX9_sow_12) (fun r_5 M_6 h => ?_)
    obtain ⟨rfl, h⟩ := h
    obtain ⟨hr_7, hA, hB⟩ := h
    refine g_ieq hC 44 hr_7 dX9_sow_15 (by decide) (fun hc_8 => ?_) (fun hc_8 => ?_)
    · replace h := hA hc_8
      clear hA hB
      refine g_iconst hC dX9_sow_44 ?_
      exact g_iret hC hR dX9_sow_45 h
    · replace h := hB hc_8
      clear hA hB
      refine g_iload hC dX9_sow_18 rfl ?_
      refine g_iconst hC dX9_sow_20 ?_
      refine g_sipush hC dX9_sow_21 (by decide) ?_
      refine g_calli (g_runS (As := [(vi x4), (vi 1), (vi 256)]) (rest := []) hC rfl (ctX9_isIn hZ  h) (kwX9_isIn (by decide) (by decide)) (wc wd_820) (wc wd_821) rfl (Nat.le_of_ble_eq_true rfl) rfl dX9_sow_24) (fun r_9 M_10 h => ?_)
      obtain ⟨rfl, h⟩ := h
      obtain ⟨hr_11, hA, hB⟩ := h
      refine g_ieq hC 44 hr_11 dX9_sow_27 (by decide) (fun hc_12 => ?_) (fun hc_12 => ?_)
      · replace h := hA hc_12
        clear hA hB
        refine g_iconst hC dX9_sow_44 ?_
        exact g_iret hC hR dX9_sow_45 h
      · replace h := hB hc_12
        clear hA hB
        refine g_aload_n hC dX9_sow_30 rfl rfl ?_
        refine g_getr (r := 1) hC rfl (gm_k9 hZ) iwX9 0 (by decide) rfl rfl (wc wd_688) dX9_sow_31 ?_
        refine g_iload_n hC dX9_sow_34 rfl rfl ?_
        obtain ⟨hb_13, h⟩ := h
        refine g_iald hC 0 rfl (m_t0 hZ) (by decide) hb_13 dX9_sow_35 ?_
        refine g_iload_n hC dX9_sow_36 rfl rfl ?_
        refine g_iadd hC dX9_sow_37 ?_
        refine g_sipush hC dX9_sow_38 (by decide) ?_
        obtain ⟨hr_14, hA, hB⟩ := h
        refine g_cle hC 46 hr_14 (by decide) dX9_sow_41 (by decide) (fun hc_15 => ?_) (fun hc_15 => ?_)
        · replace h := hA hc_15
          clear hA hB
          refine g_iconst hC dX9_sow_44 ?_
          exact g_iret hC hR dX9_sow_45 h
        · replace h := hB hc_15
          clear hA hB
          refine g_iload_n hC dX9_sow_46 rfl rfl ?_
          refine g_istore2 (lc' := [some (vr z 0), some (vi x1), some (vi x2), some (vi x3), some (vi x4), some (vi x3), none]) hC dX9_sow_47 (Nat.le_of_ble_eq_true rfl) rfl ?_
          refine g_iconst hC dX9_sow_49 ?_
          refine g_istore2 (lc' := [some (vr z 0), some (vi x1), some (vi x2), some (vi x3), some (vi x4), some (vi x3), some (vi 0)]) hC dX9_sow_50 (Nat.le_of_ble_eq_true rfl) rfl ?_
          obtain ⟨n_30, h⟩ := h
          refine g_subk (ctX9_sow_L52 hC hR hZ ?_ n_30 x3 0 M h) (And.intro rfl (And.intro rfl (And.intro rfl (And.intro rfl (And.intro rfl (And.intro rfl trivial))))))
          intro M_28 h
          refine g_aload_n hC dX9_sow_110 rfl rfl ?_
          refine g_getr (r := 1) hC rfl (gm_k9 hZ) iwX9 0 (by decide) rfl rfl (wc wd_688) dX9_sow_111 ?_
          refine g_iload_n hC dX9_sow_114 rfl rfl ?_
          obtain ⟨hb_29, h⟩ := h
          refine g_iald hC 0 rfl (m_t0 hZ) (by decide) hb_29 dX9_sow_115 ?_
          exact g_iret hC hR dX9_sow_116 h
abbrev wX9_copy : List Cond := Cond.code yX9_copy cX9_copy 4 (some .int) :: gTs
abbrev rmX9_copy : Room := { frames := 1, cells := 0, slots := 0, locals := 20 }
theorem kwX9_copy {c0 : Cond} {rm : Room} (h1 : rmX9_copy.frames + 1 ≤ rm.frames) (h2 : 8 + (4 + 11) + rmX9_copy.locals ≤ rm.locals) : gCw (c0 :: gTs) rm yX9_copy cX9_copy 4 (some .int) wX9_copy rmX9_copy 2 := gCw_of wd_827 wd_49 h1 h2 (by decide +kernel)
def fX9_copy_L18  (x1 : Int) (x2 : Int) : Nat → Int → gMem → (gMem → Prop) → (Int → gMem → Prop) → Prop
  | 0, _, _, _, _ => False
  | n18 + 1, x3, M, K58, Q =>
    ((0 ≤ x1 ∧ x1 < 8) ∧ (rg x3 ∧ rg (M 1 x1) ∧ (x3 < (M 1 x1) →
    ((0 ≤ ((600 * x1) + x3) ∧ ((600 * x1) + x3) < 4800) ∧ ((0 ≤ ((600 * x2) + x3) ∧ ((600 * x2) + x3) < 4800) ∧ ∀ M_15, M_15 = gSt M 2 ((600 * x2) + x3) (M 2 ((600 * x1) + x3)) → fX9_copy_L18 x1 x2 n18 (x3 + 1) M_15 K58 Q))) ∧
    (¬ x3 < (M 1 x1) →
    K58 M)))
set_option maxHeartbeats 4000000 in
set_option maxRecDepth 100000 in
theorem ctX9_copy_L18 {y : gY} {z : gZ} {l : Launch} {x1 : Int} {x2 : Int} {Q : Int → gMem → Prop} {K58 : gMem → Prop} (hC : gC y z l cX9_copy RX9 4 wX9_copy rmX9_copy) (hR : gRI y z mL .int Q) (hZ : gZm z)  (hK58 : ∀ (M : gMem), K58 M → gW y z mL 58 [some (vr z 0), some (vi x1), some (vi x2), none] [] M) :
    ∀ (n : Nat) (x3 : Int) (M : gMem), fX9_copy_L18 x1 x2 n x3 M K58 Q → gW y z mL 18 [some (vr z 0), some (vi x1), some (vi x2), some (vi x3)] [] M := by
  intro n
  induction n with
  | zero => intro x3 M h; exact False.elim h
  | succ n18 ih =>
    intro x3 M h
    replace h : ((0 ≤ x1 ∧ x1 < 8) ∧ (rg x3 ∧ rg (M 1 x1) ∧ (x3 < (M 1 x1) →
    ((0 ≤ ((600 * x1) + x3) ∧ ((600 * x1) + x3) < 4800) ∧ ((0 ≤ ((600 * x2) + x3) ∧ ((600 * x2) + x3) < 4800) ∧ ∀ M_15, M_15 = gSt M 2 ((600 * x2) + x3) (M 2 ((600 * x1) + x3)) → fX9_copy_L18 x1 x2 n18 (x3 + 1) M_15 K58 Q))) ∧
    (¬ x3 < (M 1 x1) →
    K58 M))) := h
    refine g_iload_n hC dX9_copy_18 rfl rfl ?_
    refine g_aload_n hC dX9_copy_19 rfl rfl ?_
    refine g_getr (r := 1) hC rfl (gm_k9 hZ) iwX9 0 (by decide) rfl rfl (wc wd_688) dX9_copy_20 ?_
    refine g_iload_n hC dX9_copy_23 rfl rfl ?_
    obtain ⟨hb_9, h⟩ := h
    refine g_iald hC 0 rfl (m_t0 hZ) (by decide) hb_9 dX9_copy_24 ?_
    obtain ⟨hr_10, hr_11, hA, hB⟩ := h
    refine g_cge hC 58 hr_10 hr_11 dX9_copy_25 (by decide) (fun hc_12 => ?_) (fun hc_12 => ?_)
    · replace h := hA hc_12
      clear hA hB
      refine g_aload_n hC dX9_copy_28 rfl rfl ?_
      refine g_getr (r := 2) hC rfl (gm_k9 hZ) iwX9 1 (by decide) rfl rfl (wc wd_689) dX9_copy_29 ?_
      refine g_sipush hC dX9_copy_32 (by decide) ?_
      refine g_iload_n hC dX9_copy_35 rfl rfl ?_
      refine g_imul hC dX9_copy_36 ?_
      refine g_iload_n hC dX9_copy_37 rfl rfl ?_
      refine g_iadd hC dX9_copy_38 ?_
      refine g_aload_n hC dX9_copy_39 rfl rfl ?_
      refine g_getr (r := 2) hC rfl (gm_k9 hZ) iwX9 1 (by decide) rfl rfl (wc wd_689) dX9_copy_40 ?_
      refine g_sipush hC dX9_copy_43 (by decide) ?_
      refine g_iload_n hC dX9_copy_46 rfl rfl ?_
      refine g_imul hC dX9_copy_47 ?_
      refine g_iload_n hC dX9_copy_48 rfl rfl ?_
      refine g_iadd hC dX9_copy_49 ?_
      obtain ⟨hb_13, h⟩ := h
      refine g_iald hC 0 rfl (m_t0 hZ) (by decide) hb_13 dX9_copy_50 ?_
      obtain ⟨hb_14, h⟩ := h
      obtain ⟨M_15, hM_15⟩ : ∃ M9, M9 = gSt M 2 ((600 * x2) + x3) (M 2 ((600 * x1) + x3)) := ⟨_, rfl⟩
      replace h := h M_15 hM_15
      refine g_iast hC 0 rfl (m_t0 hZ) (by decide) hb_14 dX9_copy_51 hM_15 ?_
      refine g_iinc2 (lc' := [some (vr z 0), some (vi x1), some (vi x2), some (vi (x3 + 1))]) hC dX9_copy_52 rfl rfl ?_
      refine g_goto hC 18 dX9_copy_55 (by decide) ?_
      exact g_subk (ih (x3 + 1) M_15 h) (And.intro rfl (And.intro rfl (And.intro rfl (And.intro rfl trivial))))
    · replace h := hB hc_12
      clear hA hB
      exact g_subk (hK58 M h) (And.intro rfl (And.intro rfl (And.intro rfl trivial)))
def fX9_copy (x1 : Int) (x2 : Int) (M : gMem) (Q : Int → gMem → Prop) : Prop :=
  (fX9_isFile x1 M (fun r_1 =>
  (rg r_1 ∧ (r_1 = 0 →
  Q (-1) M) ∧
  (¬ r_1 = 0 →
  (fX9_isFile x2 M (fun r_5 =>
    (rg r_5 ∧ (r_5 = 0 →
    Q (-1) M) ∧
    (¬ r_5 = 0 →
    ∃ n_21, fX9_copy_L18 x1 x2 n_21 0 M (fun M_16 =>
      ((0 ≤ x1 ∧ x1 < 8) ∧ ((0 ≤ x2 ∧ x2 < 8) ∧ ∀ M_19, M_19 = gSt M_16 1 x2 (M_16 1 x1) → ((0 ≤ x2 ∧ x2 < 8) ∧ Q (M_19 1 x2) M_19)))) Q))))))))
set_option maxHeartbeats 4000000 in
set_option maxRecDepth 100000 in
theorem ctX9_copy {l : Launch} {z : gZ} (hZ : gZm z) {x1 : Int} {x2 : Int}  {M : gMem} {Q : Int → gMem → Prop} (h : fX9_copy x1 x2 M Q) : gMI l z mL yX9_copy wX9_copy rmX9_copy [(vr z 0), (vi x1), (vi x2)] M Q := by
  refine g_metI .int (by decide) rfl rfl (gCat_all (And.intro rfl (And.intro rfl (And.intro rfl trivial)))) (Nat.le_of_ble_eq_true rfl) ?_
  intro y hC hR
  replace h : (fX9_isFile x1 M (fun r_1 =>
  (rg r_1 ∧ (r_1 = 0 →
  Q (-1) M) ∧
  (¬ r_1 = 0 →
  (fX9_isFile x2 M (fun r_5 =>
    (rg r_5 ∧ (r_5 = 0 →
    Q (-1) M) ∧
    (¬ r_5 = 0 →
    ∃ n_21, fX9_copy_L18 x1 x2 n_21 0 M (fun M_16 =>
      ((0 ≤ x1 ∧ x1 < 8) ∧ ((0 ≤ x2 ∧ x2 < 8) ∧ ∀ M_19, M_19 = gSt M_16 1 x2 (M_16 1 x1) → ((0 ≤ x2 ∧ x2 < 8) ∧ Q (M_19 1 x2) M_19)))) Q)))))))) := h
  refine g_lc (lc' := [some (vr z 0), some (vi x1), some (vi x2), none]) rfl ?_
  refine g_iload_n hC dX9_copy_0 rfl rfl ?_
  refine g_calli (g_runS (As := [(vi x1)]) (rest := []) hC rfl (ctX9_isFile hZ  h) (kwX9_isFile (by decide) (by decide)) (wc wd_813) (wc wd_814) rfl (Nat.le_of_ble_eq_true rfl) rfl dX9_copy_1) (fun r_1 M_2 h => ?_)
  obtain ⟨rfl, h⟩ := h
  obtain ⟨hr_3, hA, hB⟩ := h
  refine g_ieq hC 14 hr_3 dX9_copy_4 (by decide) (fun hc_4 => ?_) (fun hc_4 => ?_)
  · replace h := hA hc_4
    clear hA hB
    refine g_iconst hC dX9_copy_14 ?_
    exact g_iret hC hR dX9_copy_15 h
  · replace h := hB hc_4
    clear hA hB
    refine g_iload_n hC dX9_copy_7 rfl rfl ?_
    refine g_calli (g_runS (As := [(vi x2)]) (rest := []) hC rfl (ctX9_isFile hZ  h) (kwX9_isFile (by decide) (by decide)) (wc wd_813) (wc wd_814) rfl (Nat.le_of_ble_eq_true rfl) rfl dX9_copy_8) (fun r_5 M_6 h => ?_)
    obtain ⟨rfl, h⟩ := h
    obtain ⟨hr_7, hA, hB⟩ := h
    refine g_ine hC 16 hr_7 dX9_copy_11 (by decide) (fun hc_8 => ?_) (fun hc_8 => ?_)
    · replace h := hA hc_8
      clear hA hB
      refine g_iconst hC dX9_copy_14 ?_
      exact g_iret hC hR dX9_copy_15 h
    · replace h := hB hc_8
      clear hA hB
      refine g_iconst hC dX9_copy_16 ?_
      refine g_istore_n2 (lc' := [some (vr z 0), some (vi x1), some (vi x2), some (vi 0)]) hC dX9_copy_17 rfl (Nat.le_of_ble_eq_true rfl) rfl ?_
      obtain ⟨n_21, h⟩ := h
      refine g_subk (ctX9_copy_L18 hC hR hZ ?_ n_21 0 M h) (And.intro rfl (And.intro rfl (And.intro rfl (And.intro rfl trivial))))
      intro M_16 h
      refine g_aload_n hC dX9_copy_58 rfl rfl ?_
      refine g_getr (r := 1) hC rfl (gm_k9 hZ) iwX9 0 (by decide) rfl rfl (wc wd_688) dX9_copy_59 ?_
      refine g_iload_n hC dX9_copy_62 rfl rfl ?_
      refine g_aload_n hC dX9_copy_63 rfl rfl ?_
      refine g_getr (r := 1) hC rfl (gm_k9 hZ) iwX9 0 (by decide) rfl rfl (wc wd_688) dX9_copy_64 ?_
      refine g_iload_n hC dX9_copy_67 rfl rfl ?_
      obtain ⟨hb_17, h⟩ := h
      refine g_iald hC 0 rfl (m_t0 hZ) (by decide) hb_17 dX9_copy_68 ?_
      obtain ⟨hb_18, h⟩ := h
      obtain ⟨M_19, hM_19⟩ : ∃ M9, M9 = gSt M_16 1 x2 (M_16 1 x1) := ⟨_, rfl⟩
      replace h := h M_19 hM_19
      refine g_iast hC 0 rfl (m_t0 hZ) (by decide) hb_18 dX9_copy_69 hM_19 ?_
      refine g_aload_n hC dX9_copy_70 rfl rfl ?_
      refine g_getr (r := 1) hC rfl (gm_k9 hZ) iwX9 0 (by decide) rfl rfl (wc wd_688) dX9_copy_71 ?_
      refine g_iload_n hC dX9_copy_74 rfl rfl ?_
      obtain ⟨hb_20, h⟩ := h
      refine g_iald hC 0 rfl (m_t0 hZ) (by decide) hb_20 dX9_copy_75 ?_
      exact g_iret hC hR dX9_copy_76 h
