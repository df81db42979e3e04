abbrev wX9_comes : List Cond := Cond.code yX9_comes cX9_comes 8 (some .int) :: gTs
abbrev rmX9_comes : Room := { frames := 1, cells := 0, slots := 0, locals := 25 }
theorem kwX9_comes {c0 : Cond} {rm : Room} (h1 : rmX9_comes.frames + 1 ≤ rm.frames) (h2 : 8 + (8 + 11) + rmX9_comes.locals ≤ rm.locals) : gCw (c0 :: gTs) rm yX9_comes cX9_comes 8 (some .int) wX9_comes rmX9_comes 3 := gCw_of wd_937 wd_49 h1 h2 (by decide +kernel)
def fX9_comes_L18  (x1 : Int) (x2 : Int) (x3 : Int) (x4 : Int) : Nat → Int → Int → Int → gMem → (Int → Int → gMem → Prop) → (Int → gMem → Prop) → Prop
  | 0, _, _, _, _, _, _ => False
  | n18 + 1, x5, x6, x7, M, K117, Q =>
    (rg x7 ∧ (300 < x7 →
    K117 x5 x6 M) ∧
    (¬ 300 < x7 →
    (rg x5 ∧ (x5 = (-1) →
      (fX9_isPiece x7 M (fun r_7 =>
        (rg r_7 ∧ (r_7 = 0 →
        (rg x6 ∧ (x6 = (-1) →
          fX9_comes_L18 x1 x2 x3 x4 n18 x5 x7 (x7 + 1) M K117 Q) ∧
          (¬ x6 = (-1) →
          fX9_comes_L18 x1 x2 x3 x4 n18 x5 x6 (x7 + 1) M K117 Q))) ∧
        (¬ r_7 = 0 →
        ((0 ≤ x7 ∧ x7 < 301) ∧ (rg (M 18 x7) ∧ rg x4 ∧ ((M 18 x7) = x4 →
          ((0 ≤ x7 ∧ x7 < 301) ∧ (rg (M 16 x7) ∧ rg (x3 - x2) ∧ ((M 16 x7) = (x3 - x2) →
            (fX9_isThat x7 x1 x2 x3 M (fun r_21 =>
              (rg r_21 ∧ (r_21 = 0 →
              (∀ M_25, M_25 = gSt M 0 27 ((M 0 27) + 1) → fX9_comes_L18 x1 x2 x3 x4 n18 x5 x6 (x7 + 1) M_25 K117 Q)) ∧
              (¬ r_21 = 0 →
              fX9_comes_L18 x1 x2 x3 x4 n18 x7 x6 (x7 + 1) M K117 Q))))) ∧
            (¬ (M 16 x7) = (x3 - x2) →
            fX9_comes_L18 x1 x2 x3 x4 n18 x5 x6 (x7 + 1) M K117 Q)))) ∧
          (¬ (M 18 x7) = x4 →
          fX9_comes_L18 x1 x2 x3 x4 n18 x5 x6 (x7 + 1) M K117 Q)))))))) ∧
      (¬ x5 = (-1) →
      K117 x5 x6 M))))
set_option maxHeartbeats 4000000 in
set_option maxRecDepth 100000 in
theorem ctX9_comes_L18 {y : gY} {z : gZ} {l : Launch} {x1 : Int} {x2 : Int} {x3 : Int} {x4 : Int} {Q : Int → gMem → Prop} {K117 : Int → Int → gMem → Prop} (hC : gC y z l cX9_comes RX9 8 wX9_comes rmX9_comes) (hR : gRI y z mL .int Q) (hZ : gZm z)  (hK117 : ∀ (x5 : Int) (x6 : Int) (M : gMem), K117 x5 x6 M → gW y z mL 117 [some (vr z 0), some (vi x1), some (vi x2), some (vi x3), some (vi x4), some (vi x5), some (vi x6), none] [] M) :
    ∀ (n : Nat) (x5 : Int) (x6 : Int) (x7 : Int) (M : gMem), fX9_comes_L18 x1 x2 x3 x4 n x5 x6 x7 M K117 Q → gW y z mL 18 [some (vr z 0), some (vi x1), some (vi x2), some (vi x3), some (vi x4), some (vi x5), some (vi x6), some (vi x7)] [] M := by
  intro n
  induction n with
  | zero => intro x5 x6 x7 M h; exact False.elim h
  | succ n18 ih =>
    intro x5 x6 x7 M h
    replace h : (rg x7 ∧ (300 < x7 →
    K117 x5 x6 M) ∧
    (¬ 300 < x7 →
    (rg x5 ∧ (x5 = (-1) →
      (fX9_isPiece x7 M (fun r_7 =>
        (rg r_7 ∧ (r_7 = 0 →
        (rg x6 ∧ (x6 = (-1) →
          fX9_comes_L18 x1 x2 x3 x4 n18 x5 x7 (x7 + 1) M K117 Q) ∧
          (¬ x6 = (-1) →
          fX9_comes_L18 x1 x2 x3 x4 n18 x5 x6 (x7 + 1) M K117 Q))) ∧
        (¬ r_7 = 0 →
        ((0 ≤ x7 ∧ x7 < 301) ∧ (rg (M 18 x7) ∧ rg x4 ∧ ((M 18 x7) = x4 →
          ((0 ≤ x7 ∧ x7 < 301) ∧ (rg (M 16 x7) ∧ rg (x3 - x2) ∧ ((M 16 x7) = (x3 - x2) →
            (fX9_isThat x7 x1 x2 x3 M (fun r_21 =>
              (rg r_21 ∧ (r_21 = 0 →
              (∀ M_25, M_25 = gSt M 0 27 ((M 0 27) + 1) → fX9_comes_L18 x1 x2 x3 x4 n18 x5 x6 (x7 + 1) M_25 K117 Q)) ∧
              (¬ r_21 = 0 →
              fX9_comes_L18 x1 x2 x3 x4 n18 x7 x6 (x7 + 1) M K117 Q))))) ∧
            (¬ (M 16 x7) = (x3 - x2) →
            fX9_comes_L18 x1 x2 x3 x4 n18 x5 x6 (x7 + 1) M K117 Q)))) ∧
          (¬ (M 18 x7) = x4 →
          fX9_comes_L18 x1 x2 x3 x4 n18 x5 x6 (x7 + 1) M K117 Q)))))))) ∧
      (¬ x5 = (-1) →
      K117 x5 x6 M)))) := h
    refine g_iload hC dX9_comes_18 rfl ?_
    refine g_sipush hC dX9_comes_20 (by decide) ?_
    obtain ⟨hr_3, hA, hB⟩ := h
    refine g_cgt hC 117 hr_3 (by decide) dX9_comes_23 (by decide) (fun hc_4 => ?_) (fun hc_4 => ?_)
    · replace h := hA hc_4
      clear hA hB
      exact g_subk (hK117 x5 x6 M h) (And.intro rfl (And.intro rfl (And.intro rfl (And.intro rfl (And.intro rfl (And.intro rfl (And.intro rfl trivial)))))))
    · replace h := hB hc_4
      clear hA hB
      refine g_iload hC dX9_comes_26 rfl ?_
      refine g_iconst hC dX9_comes_28 ?_
      obtain ⟨hr_5, hA, hB⟩ := h
      refine g_cne hC 117 hr_5 (by decide) dX9_comes_29 (by decide) (fun hc_6 => ?_) (fun hc_6 => ?_)
      · replace h := hA hc_6
        clear hA hB
        refine g_aload_n hC dX9_comes_32 rfl rfl ?_
        refine g_iload hC dX9_comes_33 rfl ?_
        refine g_calli (g_runV (As := [(vi x7)]) (rest := []) hC rfl (ctX9_isPiece hZ  h) rfl (gm_k9 hZ) (kwX9_isPiece (by decide) (by decide)) rfl (wc wd_922) (wc wd_924) (wc wd_31) rfl (Nat.le_of_ble_eq_true rfl) rfl dX9_comes_35) (fun r_7 M_8 h => ?_)
        obtain ⟨rfl, h⟩ := h
        obtain ⟨hr_9, hA, hB⟩ := h
        refine g_ine hC 54 hr_9 dX9_comes_38 (by decide) (fun hc_10 => ?_) (fun hc_10 => ?_)
        · replace h := hA hc_10
          clear hA hB
          refine g_iload hC dX9_comes_41 rfl ?_
          refine g_iconst hC dX9_comes_43 ?_
          obtain ⟨hr_11, hA, hB⟩ := h
          refine g_cne hC 111 hr_11 (by decide) dX9_comes_44 (by decide) (fun hc_12 => ?_) (fun hc_12 => ?_)
          · replace h := hA hc_12
            clear hA hB
            refine g_iload hC dX9_comes_47 rfl ?_
            refine g_istore2 (lc' := [some (vr z 0), some (vi x1), some (vi x2), some (vi x3), some (vi x4), some (vi x5), some (vi x7), some (vi x7)]) hC dX9_comes_49 (Nat.le_of_ble_eq_true rfl) rfl ?_
            refine g_goto hC 111 dX9_comes_51 (by decide) ?_
            refine g_iinc2 (lc' := [some (vr z 0), some (vi x1), some (vi x2), some (vi x3), some (vi x4), some (vi x5), some (vi x7), some (vi (x7 + 1))]) hC dX9_comes_111 rfl rfl ?_
            refine g_goto hC 18 dX9_comes_114 (by decide) ?_
            exact g_subk (ih x5 x7 (x7 + 1) M h) (And.intro rfl (And.intro rfl (And.intro rfl (And.intro rfl (And.intro rfl (And.intro rfl (And.intro rfl (And.intro rfl trivial))))))))
          · replace h := hB hc_12
            clear hA hB
            refine g_iinc2 (lc' := [some (vr z 0), some (vi x1), some (vi x2), some (vi x3), some (vi x4), some (vi x5), some (vi x6), some (vi (x7 + 1))]) hC dX9_comes_111 rfl rfl ?_
            refine g_goto hC 18 dX9_comes_114 (by decide) ?_
            exact g_subk (ih x5 x6 (x7 + 1) M h) (And.intro rfl (And.intro rfl (And.intro rfl (And.intro rfl (And.intro rfl (And.intro rfl (And.intro rfl (And.intro rfl trivial))))))))
        · replace h := hB hc_10
          clear hA hB
          refine g_aload_n hC dX9_comes_54 rfl rfl ?_
          refine g_getr (r := 18) hC rfl (gm_k9 hZ) iwX9 22 (by decide) rfl rfl (wc wd_710) dX9_comes_55 ?_
          refine g_iload hC dX9_comes_58 rfl ?_
          obtain ⟨hb_13, h⟩ := h
          refine g_iald hC 0 rfl (m_t0 hZ) (by decide) hb_13 dX9_comes_60 ?_
          refine g_iload hC dX9_comes_61 rfl ?_
          obtain ⟨hr_14, hr_15, hA, hB⟩ := h
          refine g_cne hC 111 hr_14 hr_15 dX9_comes_63 (by decide) (fun hc_16 => ?_) (fun hc_16 => ?_)
          · replace h := hA hc_16
            clear hA hB
            refine g_aload_n hC dX9_comes_66 rfl rfl ?_
            refine g_getr (r := 16) hC rfl (gm_k9 hZ) iwX9 20 (by decide) rfl rfl (wc wd_708) dX9_comes_67 ?_
            refine g_iload hC dX9_comes_70 rfl ?_
            obtain ⟨hb_17, h⟩ := h
            refine g_iald hC 0 rfl (m_t0 hZ) (by decide) hb_17 dX9_comes_72 ?_
            refine g_iload_n hC dX9_comes_73 rfl rfl ?_
            refine g_iload_n hC dX9_comes_74 rfl rfl ?_
            refine g_isub hC dX9_comes_75 ?_
            obtain ⟨hr_18, hr_19, hA, hB⟩ := h
            refine g_ceq hC 82 hr_18 hr_19 dX9_comes_76 (by decide) (fun hc_20 => ?_) (fun hc_20 => ?_)
            · replace h := hA hc_20
              clear hA hB
              refine g_aload_n hC dX9_comes_82 rfl rfl ?_
              refine g_iload hC dX9_comes_83 rfl ?_
              refine g_iload_n hC dX9_comes_85 rfl rfl ?_
              refine g_iload_n hC dX9_comes_86 rfl rfl ?_
              refine g_iload_n hC dX9_comes_87 rfl rfl ?_
              refine g_calli (g_runV (As := [(vi x7), (vi x1), (vi x2), (vi x3)]) (rest := []) hC rfl (ctX9_isThat hZ  h) rfl (gm_k9 hZ) (kwX9_isThat (by decide) (by decide)) rfl (wc wd_926) (wc wd_928) (wc wd_32) rfl (Nat.le_of_ble_eq_true rfl) rfl dX9_comes_88) (fun r_21 M_22 h => ?_)
              obtain ⟨rfl, h⟩ := h
              obtain ⟨hr_23, hA, hB⟩ := h
              refine g_ieq hC 101 hr_23 dX9_comes_91 (by decide) (fun hc_24 => ?_) (fun hc_24 => ?_)
              · replace h := hA hc_24
                clear hA hB
                refine g_aload_n hC dX9_comes_101 rfl rfl ?_
                refine g_dup hC dX9_comes_102 rfl ?_
                refine g_geti (ji := 27) hC rfl (gm_k9 hZ) iwX9 27 (by decide) rfl rfl (wc wd_715) dX9_comes_103 rfl ?_
                refine g_iconst hC dX9_comes_106 ?_
                refine g_iadd hC dX9_comes_107 ?_
                obtain ⟨M_25, hM_25⟩ : ∃ M9, M9 = gSt M 0 27 ((M 0 27) + 1) := ⟨_, rfl⟩
                replace h := h M_25 hM_25
                refine g_puti (ji := 27) hC rfl (gm_k9 hZ) iwX9 tyX9_ok nmX9 27 (by decide) rfl rfl (wc wd_715) rfl rfl dX9_comes_108 rfl hM_25 ?_
                refine g_iinc2 (lc' := [some (vr z 0), some (vi x1), some (vi x2), some (vi x3), some (vi x4), some (vi x5), some (vi x6), some (vi (x7 + 1))]) hC dX9_comes_111 rfl rfl ?_
                refine g_goto hC 18 dX9_comes_114 (by decide) ?_
                exact g_subk (ih x5 x6 (x7 + 1) M_25 h) (And.intro rfl (And.intro rfl (And.intro rfl (And.intro rfl (And.intro rfl (And.intro rfl (And.intro rfl (And.intro rfl trivial))))))))
              · replace h := hB hc_24
                clear hA hB
                refine g_iload hC dX9_comes_94 rfl ?_
                refine g_istore2 (lc' := [some (vr z 0), some (vi x1), some (vi x2), some (vi x3), some (vi x4), some (vi x7), some (vi x6), some (vi x7)]) hC dX9_comes_96 (Nat.le_of_ble_eq_true rfl) rfl ?_
                refine g_goto hC 111 dX9_comes_98 (by decide) ?_
                refine g_iinc2 (lc' := [some (vr z 0), some (vi x1), some (vi x2), some (vi x3), some (vi x4), some (vi x7), some (vi x6), some (vi (x7 + 1))]) hC dX9_comes_111 rfl rfl ?_
                refine g_goto hC 18 dX9_comes_114 (by decide) ?_
                exact g_subk (ih x7 x6 (x7 + 1) M h) (And.intro rfl (And.intro rfl (And.intro rfl (And.intro rfl (And.intro rfl (And.intro rfl (And.intro rfl (And.intro rfl trivial))))))))
            · replace h := hB hc_20
              clear hA hB
              refine g_goto hC 111 dX9_comes_79 (by decide) ?_
              refine g_iinc2 (lc' := [some (vr z 0), some (vi x1), some (vi x2), some (vi x3), some (vi x4), some (vi x5), some (vi x6), some (vi (x7 + 1))]) hC dX9_comes_111 rfl rfl ?_
              refine g_goto hC 18 dX9_comes_114 (by decide) ?_
              exact g_subk (ih x5 x6 (x7 + 1) M h) (And.intro rfl (And.intro rfl (And.intro rfl (And.intro rfl (And.intro rfl (And.intro rfl (And.intro rfl (And.intro rfl trivial))))))))
          · replace h := hB hc_16
            clear hA hB
            refine g_iinc2 (lc' := [some (vr z 0), some (vi x1), some (vi x2), some (vi x3), some (vi x4), some (vi x5), some (vi x6), some (vi (x7 + 1))]) hC dX9_comes_111 rfl rfl ?_
            refine g_goto hC 18 dX9_comes_114 (by decide) ?_
            exact g_subk (ih x5 x6 (x7 + 1) M h) (And.intro rfl (And.intro rfl (And.intro rfl (And.intro rfl (And.intro rfl (And.intro rfl (And.intro rfl (And.intro rfl trivial))))))))
      · replace h := hB hc_6
        clear hA hB
        exact g_subk (hK117 x5 x6 M h) (And.intro rfl (And.intro rfl (And.intro rfl (And.intro rfl (And.intro rfl (And.intro rfl (And.intro rfl trivial)))))))
def fX9_comes_L156  (x1 : Int) (x2 : Int) (x3 : Int) (x6 : Int) : Nat → Int → gMem → (Int → gMem → Prop) → Prop
  | 0, _, _, _ => False
  | n156 + 1, x7, M, Q =>
    (rg x7 ∧ rg x3 ∧ (x7 < x3 →
    ((0 ≤ ((600 * x1) + x7) ∧ ((600 * x1) + x7) < 4800) ∧ ((0 ≤ (((200 * x6) + x7) - x2) ∧ (((200 * x6) + x7) - x2) < 60200) ∧ ∀ M_42, M_42 = gSt M 17 (((200 * x6) + x7) - x2) (M 2 ((600 * x1) + x7)) → fX9_comes_L156 x1 x2 x3 x6 n156 (x7 + 1) M_42 Q))) ∧
    (¬ x7 < x3 →
    Q x6 M))
set_option maxHeartbeats 4000000 in
set_option maxRecDepth 100000 in
theorem ctX9_comes_L156 {y : gY} {z : gZ} {l : Launch} {x1 : Int} {x2 : Int} {x3 : Int} {x6 : Int} {Q : Int → gMem → Prop}  (hC : gC y z l cX9_comes RX9 8 wX9_comes rmX9_comes) (hR : gRI y z mL .int Q) (hZ : gZm z)  :
    ∀ (n : Nat) (x7 : Int) (M : gMem), fX9_comes_L156 x1 x2 x3 x6 n x7 M Q → gW y z mL 156 [some (vr z 0), some (vi x1), some (vi x2), some (vi x3), none, none, some (vi x6), some (vi x7)] [] M := by
  intro n
  induction n with
  | zero => intro x7 M h; exact False.elim h
  | succ n156 ih =>
    intro x7 M h
    replace h : (rg x7 ∧ rg x3 ∧ (x7 < x3 →
    ((0 ≤ ((600 * x1) + x7) ∧ ((600 * x1) + x7) < 4800) ∧ ((0 ≤ (((200 * x6) + x7) - x2) ∧ (((200 * x6) + x7) - x2) < 60200) ∧ ∀ M_42, M_42 = gSt M 17 (((200 * x6) + x7) - x2) (M 2 ((600 * x1) + x7)) → fX9_comes_L156 x1 x2 x3 x6 n156 (x7 + 1) M_42 Q))) ∧
    (¬ x7 < x3 →
    Q x6 M)) := h
    refine g_iload hC dX9_comes_156 rfl ?_
    refine g_iload_n hC dX9_comes_158 rfl rfl ?_
    obtain ⟨hr_37, hr_38, hA, hB⟩ := h
    refine g_cge hC 197 hr_37 hr_38 dX9_comes_159 (by decide) (fun hc_39 => ?_) (fun hc_39 => ?_)
    · replace h := hA hc_39
      clear hA hB
      refine g_aload_n hC dX9_comes_162 rfl rfl ?_
      refine g_getr (r := 17) hC rfl (gm_k9 hZ) iwX9 21 (by decide) rfl rfl (wc wd_709) dX9_comes_163 ?_
      refine g_sipush hC dX9_comes_166 (by decide) ?_
      refine g_iload hC dX9_comes_169 rfl ?_
      refine g_imul hC dX9_comes_171 ?_
      refine g_iload hC dX9_comes_172 rfl ?_
      refine g_iadd hC dX9_comes_174 ?_
      refine g_iload_n hC dX9_comes_175 rfl rfl ?_
      refine g_isub hC dX9_comes_176 ?_
      refine g_aload_n hC dX9_comes_177 rfl rfl ?_
      refine g_getr (r := 2) hC rfl (gm_k9 hZ) iwX9 1 (by decide) rfl rfl (wc wd_689) dX9_comes_178 ?_
      refine g_sipush hC dX9_comes_181 (by decide) ?_
      refine g_iload_n hC dX9_comes_184 rfl rfl ?_
      refine g_imul hC dX9_comes_185 ?_
      refine g_iload hC dX9_comes_186 rfl ?_
      refine g_iadd hC dX9_comes_188 ?_
      obtain ⟨hb_40, h⟩ := h
      refine g_iald hC 0 rfl (m_t0 hZ) (by decide) hb_40 dX9_comes_189 ?_
      obtain ⟨hb_41, h⟩ := h
      obtain ⟨M_42, hM_42⟩ : ∃ M9, M9 = gSt M 17 (((200 * x6) + x7) - x2) (M 2 ((600 * x1) + x7)) := ⟨_, rfl⟩
      replace h := h M_42 hM_42
      refine g_iast hC 0 rfl (m_t0 hZ) (by decide) hb_41 dX9_comes_190 hM_42 ?_
      refine g_iinc2 (lc' := [some (vr z 0), some (vi x1), some (vi x2), some (vi x3), none, none, some (vi x6), some (vi (x7 + 1))]) hC dX9_comes_191 rfl rfl ?_
      refine g_goto hC 156 dX9_comes_194 (by decide) ?_
      exact g_subk (ih (x7 + 1) M_42 h) (And.intro rfl (And.intro rfl (And.intro rfl (And.intro rfl (And.intro rfl (And.intro rfl trivial))))))
    · replace h := hB hc_39
      clear hA hB
      refine g_iload hC dX9_comes_197 rfl ?_
      exact g_iret hC hR dX9_comes_199 h
def fX9_comes_J117  (x1 : Int) (x2 : Int) (x3 : Int) (x4 : Int) (x5 : Int) (x6 : Int) (M : gMem) (Q : Int → gMem → Prop) : Prop :=
  (rg x5 ∧ (x5 = (-1) →
  ((0 ≤ x6 ∧ x6 < 301) ∧ ∀ M_32, M_32 = gSt M 16 x6 (x3 - x2) → ((0 ≤ x6 ∧ x6 < 301) ∧ ∀ M_34, M_34 = gSt M_32 18 x6 x4 → ((0 ≤ x6 ∧ x6 < 301) ∧ ∀ M_36, M_36 = gSt M_34 19 x6 0 → ∃ n_43, fX9_comes_L156 x1 x2 x3 x6 n_43 x2 M_36 Q)))) ∧
  (¬ x5 = (-1) →
  Q x5 M))
set_option maxHeartbeats 4000000 in
set_option maxRecDepth 100000 in
theorem ctX9_comes_J117 {y : gY} {z : gZ} {l : Launch}  {x1 : Int} {x2 : Int} {x3 : Int} {Q : Int → gMem → Prop}  (hC : gC y z l cX9_comes RX9 8 wX9_comes rmX9_comes) (hR : gRI y z mL .int Q) (hZ : gZm z)  :
    ∀ (x4 : Int) (x5 : Int) (x6 : Int) (M : gMem), fX9_comes_J117 x1 x2 x3 x4 x5 x6 M Q → gW y z mL 117 [some (vr z 0), some (vi x1), some (vi x2), some (vi x3), some (vi x4), some (vi x5), some (vi x6), none] [] M := by
  intro x4 x5 x6 M h
  replace h : (rg x5 ∧ (x5 = (-1) →
  ((0 ≤ x6 ∧ x6 < 301) ∧ ∀ M_32, M_32 = gSt M 16 x6 (x3 - x2) → ((0 ≤ x6 ∧ x6 < 301) ∧ ∀ M_34, M_34 = gSt M_32 18 x6 x4 → ((0 ≤ x6 ∧ x6 < 301) ∧ ∀ M_36, M_36 = gSt M_34 19 x6 0 → ∃ n_43, fX9_comes_L156 x1 x2 x3 x6 n_43 x2 M_36 Q)))) ∧
  (¬ x5 = (-1) →
  Q x5 M)) := h
  refine g_iload hC dX9_comes_117 rfl ?_
  refine g_iconst hC dX9_comes_119 ?_
  obtain ⟨hr_29, hA, hB⟩ := h
  refine g_ceq hC 126 hr_29 (by decide) dX9_comes_120 (by decide) (fun hc_30 => ?_) (fun hc_30 => ?_)
  · replace h := hA hc_30
    clear hA hB
    refine g_aload_n hC dX9_comes_126 rfl rfl ?_
    refine g_getr (r := 16) hC rfl (gm_k9 hZ) iwX9 20 (by decide) rfl rfl (wc wd_708) dX9_comes_127 ?_
    refine g_iload hC dX9_comes_130 rfl ?_
    refine g_iload_n hC dX9_comes_132 rfl rfl ?_
    refine g_iload_n hC dX9_comes_133 rfl rfl ?_
    refine g_isub hC dX9_comes_134 ?_
    obtain ⟨hb_31, h⟩ := h
    obtain ⟨M_32, hM_32⟩ : ∃ M9, M9 = gSt M 16 x6 (x3 - x2) := ⟨_, rfl⟩
    replace h := h M_32 hM_32
    refine g_iast hC 0 rfl (m_t0 hZ) (by decide) hb_31 dX9_comes_135 hM_32 ?_
    refine g_aload_n hC dX9_comes_136 rfl rfl ?_
    refine g_getr (r := 18) hC rfl (gm_k9 hZ) iwX9 22 (by decide) rfl rfl (wc wd_710) dX9_comes_137 ?_
    refine g_iload hC dX9_comes_140 rfl ?_
    refine g_iload hC dX9_comes_142 rfl ?_
    obtain ⟨hb_33, h⟩ := h
    obtain ⟨M_34, hM_34⟩ : ∃ M9, M9 = gSt M_32 18 x6 x4 := ⟨_, rfl⟩
    replace h := h M_34 hM_34
    refine g_iast hC 0 rfl (m_t0 hZ) (by decide) hb_33 dX9_comes_144 hM_34 ?_
    refine g_aload_n hC dX9_comes_145 rfl rfl ?_
    refine g_getr (r := 19) hC rfl (gm_k9 hZ) iwX9 23 (by decide) rfl rfl (wc wd_711) dX9_comes_146 ?_
    refine g_iload hC dX9_comes_149 rfl ?_
    refine g_iconst hC dX9_comes_151 ?_
    obtain ⟨hb_35, h⟩ := h
    obtain ⟨M_36, hM_36⟩ : ∃ M9, M9 = gSt M_34 19 x6 0 := ⟨_, rfl⟩
    replace h := h M_36 hM_36
    refine g_iast hC 0 rfl (m_t0 hZ) (by decide) hb_35 dX9_comes_152 hM_36 ?_
    refine g_iload_n hC dX9_comes_153 rfl rfl ?_
    refine g_istore2 (lc' := [some (vr z 0), some (vi x1), some (vi x2), some (vi x3), some (vi x4), some (vi x5), some (vi x6), some (vi x2)]) hC dX9_comes_154 (Nat.le_of_ble_eq_true rfl) rfl ?_
    obtain ⟨n_43, h⟩ := h
    refine g_subk (ctX9_comes_L156 hC hR hZ  n_43 x2 M_36 h) (And.intro rfl (And.intro rfl (And.intro rfl (And.intro rfl (And.intro rfl (And.intro rfl trivial))))))
  · replace h := hB hc_30
    clear hA hB
    refine g_iload hC dX9_comes_123 rfl ?_
    exact g_iret hC hR dX9_comes_125 h
def fX9_comes (x1 : Int) (x2 : Int) (x3 : Int) (M : gMem) (Q : Int → gMem → Prop) : Prop :=
  (fX9_printOf x1 x2 x3 M (fun r_1 =>
  ∃ n_44, fX9_comes_L18 x1 x2 x3 r_1 n_44 (-1) (-1) 1 M (fun x5_26 x6_27 M_28 =>
  fX9_comes_J117 x1 x2 x3 r_1 x5_26 x6_27 M_28 Q) Q))
set_option maxHeartbeats 4000000 in
set_option maxRecDepth 100000 in
theorem ctX9_comes {l : Launch} {z : gZ} (hZ : gZm z) {x1 : Int} {x2 : Int} {x3 : Int}  {M : gMem} {Q : Int → gMem → Prop} (h : fX9_comes x1 x2 x3 M Q) : gMI l z mL yX9_comes wX9_comes rmX9_comes [(vr z 0), (vi x1), (vi x2), (vi x3)] M Q := by
  refine g_metI .int (by decide) rfl rfl (gCat_all (And.intro rfl (And.intro rfl (And.intro rfl (And.intro rfl trivial))))) (Nat.le_of_ble_eq_true rfl) ?_
  intro y hC hR
  replace h : (fX9_printOf x1 x2 x3 M (fun r_1 =>
  ∃ n_44, fX9_comes_L18 x1 x2 x3 r_1 n_44 (-1) (-1) 1 M (fun x5_26 x6_27 M_28 =>
  fX9_comes_J117 x1 x2 x3 r_1 x5_26 x6_27 M_28 Q) Q)) := h
  refine g_lc (lc' := [some (vr z 0), some (vi x1), some (vi x2), some (vi x3), none, none, none, none]) rfl ?_
  refine g_aload_n hC dX9_comes_0 rfl rfl ?_
  refine g_iload_n hC dX9_comes_1 rfl rfl ?_
  refine g_iload_n hC dX9_comes_2 rfl rfl ?_
  refine g_iload_n hC dX9_comes_3 rfl rfl ?_
  refine g_calli (g_runV (As := [(vi x1), (vi x2), (vi x3)]) (rest := []) hC rfl (ctX9_printOf hZ  h) rfl (gm_k9 hZ) (kwX9_printOf (by decide) (by decide)) rfl (wc wd_905) (wc wd_907) (wc wd_29) rfl (Nat.le_of_ble_eq_true rfl) rfl dX9_comes_4) (fun r_1 M_2 h => ?_)
  obtain ⟨rfl, h⟩ := h
  refine g_istore2 (lc' := [some (vr z 0), some (vi x1), some (vi x2), some (vi x3), some (vi r_1), none, none, none]) hC dX9_comes_7 (Nat.le_of_ble_eq_true rfl) rfl ?_
  refine g_iconst hC dX9_comes_9 ?_
  refine g_istore2 (lc' := [some (vr z 0), some (vi x1), some (vi x2), some (vi x3), some (vi r_1), some (vi (-1)), none, none]) hC dX9_comes_10 (Nat.le_of_ble_eq_true rfl) rfl ?_
  refine g_iconst hC dX9_comes_12 ?_
  refine g_istore2 (lc' := [some (vr z 0), some (vi x1), some (vi x2), some (vi x3), some (vi r_1), some (vi (-1)), some (vi (-1)), none]) hC dX9_comes_13 (Nat.le_of_ble_eq_true rfl) rfl ?_
  refine g_iconst hC dX9_comes_15 ?_
  refine g_istore2 (lc' := [some (vr z 0), some (vi x1), some (vi x2), some (vi x3), some (vi r_1), some (vi (-1)), some (vi (-1)), some (vi 1)]) hC dX9_comes_16 (Nat.le_of_ble_eq_true rfl) rfl ?_
  obtain ⟨n_44, h⟩ := h
  refine g_subk (ctX9_comes_L18 hC hR hZ ?_ n_44 (-1) (-1) 1 M h) (And.intro rfl (And.intro rfl (And.intro rfl (And.intro rfl (And.intro rfl (And.intro rfl (And.intro rfl (And.intro rfl trivial))))))))
  intro x5_26 x6_27 M_28 h
  refine g_subk (ctX9_comes_J117 hC hR hZ  r_1 x5_26 x6_27 M_28 h) (And.intro rfl (And.intro rfl (And.intro rfl (And.intro rfl (And.intro rfl (And.intro rfl (And.intro rfl trivial)))))))
abbrev wX9_goes : List Cond := Cond.code yX9_goes cX9_goes 7 (some .int) :: gTs
abbrev rmX9_goes : Room := { frames := 0, cells := 0, slots := 0, locals := 0 }
theorem kwX9_goes {c0 : Cond} {rm : Room} (h1 : rmX9_goes.frames + 1 ≤ rm.frames) (h2 : 8 + (7 + 11) + rmX9_goes.locals ≤ rm.locals) : gCw (c0 :: gTs) rm yX9_goes cX9_goes 7 (some .int) wX9_goes rmX9_goes 3 := gCw_of wd_941 wd_49 h1 h2 (by decide +kernel)
def fX9_goes_L6 (k1 n1 : Nat) (x2 : Int) (x3 : Int) : Nat → Int → Int → gMem → (Int → gMem → Prop) → Prop
  | 0, _, _, _, _ => False
  | n6 + 1, x4, x5, M, Q =>
    (rg x5 ∧ rg x3 ∧ (x5 < x3 →
    ((0 ≤ (x2 + x5) ∧ (x2 + x5) < n1) ∧ ((0 ≤ (M k1 (x2 + x5)) ∧ (M k1 (x2 + x5)) < 301) ∧ ((0 ≤ (M k1 (x2 + x5)) ∧ (M k1 (x2 + x5)) < 301) ∧ ∀ M_7, M_7 = gSt M 19 (M k1 (x2 + x5)) ((M 19 (M k1 (x2 + x5))) - 1) → ((0 ≤ (M k1 (x2 + x5)) ∧ (M k1 (x2 + x5)) < 301) ∧ (rg (M_7 19 (M k1 (x2 + x5))) ∧ (0 < (M_7 19 (M k1 (x2 + x5))) →
      fX9_goes_L6 k1 n1 x2 x3 n6 x4 (x5 + 1) M_7 Q) ∧
      (¬ 0 < (M_7 19 (M k1 (x2 + x5))) →
      ((0 ≤ (M k1 (x2 + x5)) ∧ (M k1 (x2 + x5)) < 301) ∧ ∀ M_12, M_12 = gSt M_7 16 (M k1 (x2 + x5)) 0 → fX9_goes_L6 k1 n1 x2 x3 n6 (x4 + 1) (x5 + 1) M_12 Q)))))))) ∧
    (¬ x5 < x3 →
    Q x4 M))
set_option maxHeartbeats 4000000 in
set_option maxRecDepth 100000 in
theorem ctX9_goes_L6 {y : gY} {z : gZ} {l : Launch} {k1 n1 : Nat} {x2 : Int} {x3 : Int} {Q : Int → gMem → Prop}  (hC : gC y z l cX9_goes RX9 7 wX9_goes rmX9_goes) (hR : gRI y z mL .int Q) (hZ : gZm z) (h1 : mL[k1]? = some (.inl (0, n1))) (hn1 : n1 < 2147483648) :
    ∀ (n : Nat) (x4 : Int) (x5 : Int) (M : gMem), fX9_goes_L6 k1 n1 x2 x3 n x4 x5 M Q → gW y z mL 6 [some (vr z 0), some (vr z k1), some (vi x2), some (vi x3), some (vi x4), some (vi x5), none] [] M := by
  intro n
  induction n with
  | zero => intro x4 x5 M h; exact False.elim h
  | succ n6 ih =>
    intro x4 x5 M h
    replace h : (rg x5 ∧ rg x3 ∧ (x5 < x3 →
    ((0 ≤ (x2 + x5) ∧ (x2 + x5) < n1) ∧ ((0 ≤ (M k1 (x2 + x5)) ∧ (M k1 (x2 + x5)) < 301) ∧ ((0 ≤ (M k1 (x2 + x5)) ∧ (M k1 (x2 + x5)) < 301) ∧ ∀ M_7, M_7 = gSt M 19 (M k1 (x2 + x5)) ((M 19 (M k1 (x2 + x5))) - 1) → ((0 ≤ (M k1 (x2 + x5)) ∧ (M k1 (x2 + x5)) < 301) ∧ (rg (M_7 19 (M k1 (x2 + x5))) ∧ (0 < (M_7 19 (M k1 (x2 + x5))) →
      fX9_goes_L6 k1 n1 x2 x3 n6 x4 (x5 + 1) M_7 Q) ∧
      (¬ 0 < (M_7 19 (M k1 (x2 + x5))) →
      ((0 ≤ (M k1 (x2 + x5)) ∧ (M k1 (x2 + x5)) < 301) ∧ ∀ M_12, M_12 = gSt M_7 16 (M k1 (x2 + x5)) 0 → fX9_goes_L6 k1 n1 x2 x3 n6 (x4 + 1) (x5 + 1) M_12 Q)))))))) ∧
    (¬ x5 < x3 →
    Q x4 M)) := h
    refine g_iload hC dX9_goes_6 rfl ?_
    refine g_iload_n hC dX9_goes_8 rfl rfl ?_
    obtain ⟨hr_1, hr_2, hA, hB⟩ := h
    refine g_cge hC 61 hr_1 hr_2 dX9_goes_9 (by decide) (fun hc_3 => ?_) (fun hc_3 => ?_)
    · replace h := hA hc_3
      clear hA hB
      refine g_aload_n hC dX9_goes_12 rfl rfl ?_
      refine g_iload_n hC dX9_goes_13 rfl rfl ?_
      refine g_iload hC dX9_goes_14 rfl ?_
      refine g_iadd hC dX9_goes_16 ?_
      obtain ⟨hb_4, h⟩ := h
      refine g_iald hC 0 h1 (m_t0 hZ) hn1 hb_4 dX9_goes_17 ?_
      refine g_istore2 (lc' := [some (vr z 0), some (vr z k1), some (vi x2), some (vi x3), some (vi x4), some (vi x5), some (vi (M k1 (x2 + x5)))]) hC dX9_goes_18 (Nat.le_of_ble_eq_true rfl) rfl ?_
      refine g_aload_n hC dX9_goes_20 rfl rfl ?_
      refine g_getr (r := 19) hC rfl (gm_k9 hZ) iwX9 23 (by decide) rfl rfl (wc wd_711) dX9_goes_21 ?_
      refine g_iload hC dX9_goes_24 rfl ?_
      refine g_dup2 hC dX9_goes_26 rfl rfl ?_
      obtain ⟨hb_5, h⟩ := h
      refine g_iald hC 0 rfl (m_t0 hZ) (by decide) hb_5 dX9_goes_27 ?_
      refine g_iconst hC dX9_goes_28 ?_
      refine g_isub hC dX9_goes_29 ?_
      obtain ⟨hb_6, h⟩ := h
      obtain ⟨M_7, hM_7⟩ : ∃ M9, M9 = gSt M 19 (M k1 (x2 + x5)) ((M 19 (M k1 (x2 + x5))) - 1) := ⟨_, rfl⟩
      replace h := h M_7 hM_7
      refine g_iast hC 0 rfl (m_t0 hZ) (by decide) hb_6 dX9_goes_30 hM_7 ?_
      refine g_aload_n hC dX9_goes_31 rfl rfl ?_
      refine g_getr (r := 19) hC rfl (gm_k9 hZ) iwX9 23 (by decide) rfl rfl (wc wd_711) dX9_goes_32 ?_
      refine g_iload hC dX9_goes_35 rfl ?_
      obtain ⟨hb_8, h⟩ := h
      refine g_iald hC 0 rfl (m_t0 hZ) (by decide) hb_8 dX9_goes_37 ?_
      obtain ⟨hr_9, hA, hB⟩ := h
      refine g_ile hC 44 hr_9 dX9_goes_38 (by decide) (fun hc_10 => ?_) (fun hc_10 => ?_)
      · replace h := hA hc_10
        clear hA hB
        refine g_goto hC 55 dX9_goes_41 (by decide) ?_
        refine g_iinc2 (lc' := [some (vr z 0), some (vr z k1), some (vi x2), some (vi x3), some (vi x4), some (vi (x5 + 1)), some (vi (M k1 (x2 + x5)))]) hC dX9_goes_55 rfl rfl ?_
        refine g_goto hC 6 dX9_goes_58 (by decide) ?_
        exact g_subk (ih x4 (x5 + 1) M_7 h) (And.intro rfl (And.intro rfl (And.intro rfl (And.intro rfl (And.intro rfl (And.intro rfl trivial))))))
      · replace h := hB hc_10
        clear hA hB
        refine g_aload_n hC dX9_goes_44 rfl rfl ?_
        refine g_getr (r := 16) hC rfl (gm_k9 hZ) iwX9 20 (by decide) rfl rfl (wc wd_708) dX9_goes_45 ?_
        refine g_iload hC dX9_goes_48 rfl ?_
        refine g_iconst hC dX9_goes_50 ?_
        obtain ⟨hb_11, h⟩ := h
        obtain ⟨M_12, hM_12⟩ : ∃ M9, M9 = gSt M_7 16 (M k1 (x2 + x5)) 0 := ⟨_, rfl⟩
        replace h := h M_12 hM_12
        refine g_iast hC 0 rfl (m_t0 hZ) (by decide) hb_11 dX9_goes_51 hM_12 ?_
        refine g_iinc2 (lc' := [some (vr z 0), some (vr z k1), some (vi x2), some (vi x3), some (vi (x4 + 1)), some (vi x5), some (vi (M k1 (x2 + x5)))]) hC dX9_goes_52 rfl rfl ?_
        refine g_iinc2 (lc' := [some (vr z 0), some (vr z k1), some (vi x2), some (vi x3), some (vi (x4 + 1)), some (vi (x5 + 1)), some (vi (M k1 (x2 + x5)))]) hC dX9_goes_55 rfl rfl ?_
        refine g_goto hC 6 dX9_goes_58 (by decide) ?_
        exact g_subk (ih (x4 + 1) (x5 + 1) M_12 h) (And.intro rfl (And.intro rfl (And.intro rfl (And.intro rfl (And.intro rfl (And.intro rfl trivial))))))
    · replace h := hB hc_3
      clear hA hB
      refine g_iload hC dX9_goes_61 rfl ?_
      exact g_iret hC hR dX9_goes_63 h
def fX9_goes (k1 n1 : Nat) (x2 : Int) (x3 : Int) (M : gMem) (Q : Int → gMem → Prop) : Prop :=
  ∃ n_13, fX9_goes_L6 k1 n1 x2 x3 n_13 0 0 M Q
set_option maxHeartbeats 4000000 in
set_option maxRecDepth 100000 in
theorem ctX9_goes {l : Launch} {z : gZ} (hZ : gZm z) {k1 n1 : Nat} {x2 : Int} {x3 : Int} (h1 : mL[k1]? = some (.inl (0, n1))) (hn1 : n1 < 2147483648) {M : gMem} {Q : Int → gMem → Prop} (h : fX9_goes k1 n1 x2 x3 M Q) : gMI l z mL yX9_goes wX9_goes rmX9_goes [(vr z 0), (vr z k1), (vi x2), (vi x3)] M Q := by
  refine g_metI .int (by decide) rfl rfl (gCat_all (And.intro rfl (And.intro rfl (And.intro rfl (And.intro rfl trivial))))) (Nat.le_of_ble_eq_true rfl) ?_
  intro y hC hR
  replace h : ∃ n_13, fX9_goes_L6 k1 n1 x2 x3 n_13 0 0 M Q := h
  refine g_lc (lc' := [some (vr z 0), some (vr z k1), some (vi x2), some (vi x3), none, none, none]) rfl ?_
  refine g_iconst hC dX9_goes_0 ?_
  refine g_istore2 (lc' := [some (vr z 0), some (vr z k1), some (vi x2), some (vi x3), some (vi 0), none, none]) hC dX9_goes_1 (Nat.le_of_ble_eq_true rfl) rfl ?_
  refine g_iconst hC dX9_goes_3 ?_
  refine g_istore2 (lc' := [some (vr z 0), some (vr z k1), some (vi x2), some (vi x3), some (vi 0), some (vi 0), none]) hC dX9_goes_4 (Nat.le_of_ble_eq_true rfl) rfl ?_
  obtain ⟨n_13, h⟩ := h
  refine g_subk (ctX9_goes_L6 hC hR hZ h1 hn1 n_13 0 0 M h) (And.intro rfl (And.intro rfl (And.intro rfl (And.intro rfl (And.intro rfl (And.intro rfl trivial))))))
abbrev wX9_keep : List Cond := Cond.code yX9_keep cX9_keep 7 (some .int) :: gTs
abbrev rmX9_keep : Room := { frames := 3, cells := 0, slots := 0, locals := 75 }
theorem kwX9_keep {c0 : Cond} {rm : Room} (h1 : rmX9_keep.frames + 1 ≤ rm.frames) (h2 : 8 + (7 + 11) + rmX9_keep.locals ≤ rm.locals) : gCw (c0 :: gTs) rm yX9_keep cX9_keep 7 (some .int) wX9_keep rmX9_keep 2 := gCw_of wd_917 wd_49 h1 h2 (by decide +kernel)
def fX9_keep_L68  (x2 : Int) (x4 : Int) : Nat → Int → gMem → (gMem → Prop) → (Int → gMem → Prop) → Prop
  | 0, _, _, _, _ => False
  | n68 + 1, x5, M, K101, Q =>
    (rg x5 ∧ rg x4 ∧ (x5 < x4 →
    ((0 ≤ ((600 * x2) + x5) ∧ ((600 * x2) + x5) < 4800) ∧ ((0 ≤ x5 ∧ x5 < 600) ∧ ∀ M_24, M_24 = gSt M 23 x5 (M 22 ((600 * x2) + x5)) → fX9_keep_L68 x2 x4 n68 (x5 + 1) M_24 K101 Q))) ∧
    (¬ x5 < x4 →
    K101 M))
set_option maxHeartbeats 4000000 in
set_option maxRecDepth 100000 in
theorem ctX9_keep_L68 {y : gY} {z : gZ} {l : Launch} {x2 : Int} {x3 : Int} {x4 : Int} {Q : Int → gMem → Prop} {K101 : gMem → Prop} (hC : gC y z l cX9_keep RX9 7 wX9_keep rmX9_keep) (hR : gRI y z mL .int Q) (hZ : gZm z)  (hK101 : ∀ (M : gMem), K101 M → gW y z mL 101 [some (vr z 0), none, some (vi x2), some (vi x3), some (vi x4), none, none] [] M) :
    ∀ (n : Nat) (x5 : Int) (M : gMem), fX9_keep_L68 x2 x4 n x5 M K101 Q → gW y z mL 68 [some (vr z 0), none, some (vi x2), some (vi x3), some (vi x4), some (vi x5), none] [] M := by
  intro n
  induction n with
  | zero => intro x5 M h; exact False.elim h
  | succ n68 ih =>
    intro x5 M h
    replace h : (rg x5 ∧ rg x4 ∧ (x5 < x4 →
    ((0 ≤ ((600 * x2) + x5) ∧ ((600 * x2) + x5) < 4800) ∧ ((0 ≤ x5 ∧ x5 < 600) ∧ ∀ M_24, M_24 = gSt M 23 x5 (M 22 ((600 * x2) + x5)) → fX9_keep_L68 x2 x4 n68 (x5 + 1) M_24 K101 Q))) ∧
    (¬ x5 < x4 →
    K101 M)) := h
    refine g_iload hC dX9_keep_68 rfl ?_
    refine g_iload hC dX9_keep_70 rfl ?_
    obtain ⟨hr_19, hr_20, hA, hB⟩ := h
    refine g_cge hC 101 hr_19 hr_20 dX9_keep_72 (by decide) (fun hc_21 => ?_) (fun hc_21 => ?_)
    · replace h := hA hc_21
      clear hA hB
      refine g_aload_n hC dX9_keep_75 rfl rfl ?_
      refine g_getr (r := 23) hC rfl (gm_k9 hZ) iwX9 28 (by decide) rfl rfl (wc wd_716) dX9_keep_76 ?_
      refine g_iload hC dX9_keep_79 rfl ?_
      refine g_aload_n hC dX9_keep_81 rfl rfl ?_
      refine g_getr (r := 22) hC rfl (gm_k9 hZ) iwX9 26 (by decide) rfl rfl (wc wd_714) dX9_keep_82 ?_
      refine g_sipush hC dX9_keep_85 (by decide) ?_
      refine g_iload_n hC dX9_keep_88 rfl rfl ?_
      refine g_imul hC dX9_keep_89 ?_
      refine g_iload hC dX9_keep_90 rfl ?_
      refine g_iadd hC dX9_keep_92 ?_
      obtain ⟨hb_22, h⟩ := h
      refine g_iald hC 0 rfl (m_t0 hZ) (by decide) hb_22 dX9_keep_93 ?_
      obtain ⟨hb_23, h⟩ := h
      obtain ⟨M_24, hM_24⟩ : ∃ M9, M9 = gSt M 23 x5 (M 22 ((600 * x2) + x5)) := ⟨_, rfl⟩
      replace h := h M_24 hM_24
      refine g_iast hC 0 rfl (m_t0 hZ) (by decide) hb_23 dX9_keep_94 hM_24 ?_
      refine g_iinc2 (lc' := [some (vr z 0), none, some (vi x2), some (vi x3), some (vi x4), some (vi (x5 + 1)), none]) hC dX9_keep_95 rfl rfl ?_
      refine g_goto hC 68 dX9_keep_98 (by decide) ?_
      exact g_subk (ih (x5 + 1) M_24 h) (And.intro rfl (And.intro rfl (And.intro rfl (And.intro rfl (And.intro rfl trivial)))))
    · replace h := hB hc_21
      clear hA hB
      exact g_subk (hK101 M h) (And.intro rfl (And.intro rfl (And.intro rfl (And.intro rfl trivial))))
def fX9_keep_L104  (x2 : Int) : Nat → Int → gMem → (gMem → Prop) → (Int → gMem → Prop) → Prop
  | 0, _, _, _, _ => False
  | n104 + 1, x5, M, K168, Q =>
    (rg x5 ∧ rg (M 0 10) ∧ (x5 < (M 0 10) →
    ((0 ≤ x5 ∧ x5 < 601) ∧ ((0 ≤ (x5 + 1) ∧ (x5 + 1) < 601) ∧ (fX9_comes x2 (M 10 x5) (M 10 (x5 + 1)) M (fun r_31 M_32 =>
      ((0 ≤ ((600 * x2) + x5) ∧ ((600 * x2) + x5) < 4800) ∧ ∀ M_34, M_34 = gSt M_32 22 ((600 * x2) + x5) r_31 → ((0 ≤ r_31 ∧ r_31 < 301) ∧ ((0 ≤ r_31 ∧ r_31 < 301) ∧ ∀ M_37, M_37 = gSt M_34 19 r_31 ((M_34 19 r_31) + 1) → fX9_keep_L104 x2 n104 (x5 + 1) M_37 K168 Q)))))))) ∧
    (¬ x5 < (M 0 10) →
    K168 M))
set_option maxHeartbeats 4000000 in
set_option maxRecDepth 100000 in
theorem ctX9_keep_L104 {y : gY} {z : gZ} {l : Launch} {x2 : Int} {x3 : Int} {x4 : Int} {Q : Int → gMem → Prop} {K168 : gMem → Prop} (hC : gC y z l cX9_keep RX9 7 wX9_keep rmX9_keep) (hR : gRI y z mL .int Q) (hZ : gZm z)  (hK168 : ∀ (M : gMem), K168 M → gW y z mL 168 [some (vr z 0), none, some (vi x2), some (vi x3), some (vi x4), none, none] [] M) :
    ∀ (n : Nat) (x5 : Int) (M : gMem), fX9_keep_L104 x2 n x5 M K168 Q → gW y z mL 104 [some (vr z 0), none, some (vi x2), some (vi x3), some (vi x4), some (vi x5), none] [] M := by
  intro n
  induction n with
  | zero => intro x5 M h; exact False.elim h
  | succ n104 ih =>
    intro x5 M h
    replace h : (rg x5 ∧ rg (M 0 10) ∧ (x5 < (M 0 10) →
    ((0 ≤ x5 ∧ x5 < 601) ∧ ((0 ≤ (x5 + 1) ∧ (x5 + 1) < 601) ∧ (fX9_comes x2 (M 10 x5) (M 10 (x5 + 1)) M (fun r_31 M_32 =>
      ((0 ≤ ((600 * x2) + x5) ∧ ((600 * x2) + x5) < 4800) ∧ ∀ M_34, M_34 = gSt M_32 22 ((600 * x2) + x5) r_31 → ((0 ≤ r_31 ∧ r_31 < 301) ∧ ((0 ≤ r_31 ∧ r_31 < 301) ∧ ∀ M_37, M_37 = gSt M_34 19 r_31 ((M_34 19 r_31) + 1) → fX9_keep_L104 x2 n104 (x5 + 1) M_37 K168 Q)))))))) ∧
    (¬ x5 < (M 0 10) →
    K168 M)) := h
    refine g_iload hC dX9_keep_104 rfl ?_
    refine g_aload_n hC dX9_keep_106 rfl rfl ?_
    refine g_geti (ji := 10) hC rfl (gm_k9 hZ) iwX9 10 (by decide) rfl rfl (wc wd_698) dX9_keep_107 rfl ?_
    obtain ⟨hr_26, hr_27, hA, hB⟩ := h
    refine g_cge hC 168 hr_26 hr_27 dX9_keep_110 (by decide) (fun hc_28 => ?_) (fun hc_28 => ?_)
    · replace h := hA hc_28
      clear hA hB
      refine g_aload_n hC dX9_keep_113 rfl rfl ?_
      refine g_iload_n hC dX9_keep_114 rfl rfl ?_
      refine g_aload_n hC dX9_keep_115 rfl rfl ?_
      refine g_getr (r := 10) hC rfl (gm_k9 hZ) iwX9 11 (by decide) rfl rfl (wc wd_699) dX9_keep_116 ?_
      refine g_iload hC dX9_keep_119 rfl ?_
      obtain ⟨hb_29, h⟩ := h
      refine g_iald hC 0 rfl (m_t0 hZ) (by decide) hb_29 dX9_keep_121 ?_
      refine g_aload_n hC dX9_keep_122 rfl rfl ?_
      refine g_getr (r := 10) hC rfl (gm_k9 hZ) iwX9 11 (by decide) rfl rfl (wc wd_699) dX9_keep_123 ?_
      refine g_iload hC dX9_keep_126 rfl ?_
      refine g_iconst hC dX9_keep_128 ?_
      refine g_iadd hC dX9_keep_129 ?_
      obtain ⟨hb_30, h⟩ := h
      refine g_iald hC 0 rfl (m_t0 hZ) (by decide) hb_30 dX9_keep_130 ?_
      refine g_calli (g_runV (As := [(vi x2), (vi (M 10 x5)), (vi (M 10 (x5 + 1)))]) (rest := []) hC rfl (ctX9_comes hZ  h) rfl (gm_k9 hZ) (kwX9_comes (by decide) (by decide)) rfl (wc wd_934) (wc wd_936) (wc wd_34) rfl (Nat.le_of_ble_eq_true rfl) rfl dX9_keep_131) (fun r_31 M_32 h => ?_)
      refine g_istore2 (lc' := [some (vr z 0), none, some (vi x2), some (vi x3), some (vi x4), some (vi x5), some (vi r_31)]) hC dX9_keep_134 (Nat.le_of_ble_eq_true rfl) rfl ?_
      refine g_aload_n hC dX9_keep_136 rfl rfl ?_
      refine g_getr (r := 22) hC rfl (gm_k9 hZ) iwX9 26 (by decide) rfl rfl (wc wd_714) dX9_keep_137 ?_
      refine g_sipush hC dX9_keep_140 (by decide) ?_
      refine g_iload_n hC dX9_keep_143 rfl rfl ?_
      refine g_imul hC dX9_keep_144 ?_
      refine g_iload hC dX9_keep_145 rfl ?_
      refine g_iadd hC dX9_keep_147 ?_
      refine g_iload hC dX9_keep_148 rfl ?_
      obtain ⟨hb_33, h⟩ := h
      obtain ⟨M_34, hM_34⟩ : ∃ M9, M9 = gSt M_32 22 ((600 * x2) + x5) r_31 := ⟨_, rfl⟩
      replace h := h M_34 hM_34
      refine g_iast hC 0 rfl (m_t0 hZ) (by decide) hb_33 dX9_keep_150 hM_34 ?_
      refine g_aload_n hC dX9_keep_151 rfl rfl ?_
      refine g_getr (r := 19) hC rfl (gm_k9 hZ) iwX9 23 (by decide) rfl rfl (wc wd_711) dX9_keep_152 ?_
      refine g_iload hC dX9_keep_155 rfl ?_
      refine g_dup2 hC dX9_keep_157 rfl rfl ?_
      obtain ⟨hb_35, h⟩ := h
      refine g_iald hC 0 rfl (m_t0 hZ) (by decide) hb_35 dX9_keep_158 ?_
      refine g_iconst hC dX9_keep_159 ?_
      refine g_iadd hC dX9_keep_160 ?_
      obtain ⟨hb_36, h⟩ := h
      obtain ⟨M_37, hM_37⟩ : ∃ M9, M9 = gSt M_34 19 r_31 ((M_34 19 r_31) + 1) := ⟨_, rfl⟩
      replace h := h M_37 hM_37
      refine g_iast hC 0 rfl (m_t0 hZ) (by decide) hb_36 dX9_keep_161 hM_37 ?_
      refine g_iinc2 (lc' := [some (vr z 0), none, some (vi x2), some (vi x3), some (vi x4), some (vi (x5 + 1)), some (vi r_31)]) hC dX9_keep_162 rfl rfl ?_
      refine g_goto hC 104 dX9_keep_165 (by decide) ?_
      exact g_subk (ih (x5 + 1) M_37 h) (And.intro rfl (And.intro rfl (And.intro rfl (And.intro rfl (And.intro rfl trivial)))))
    · replace h := hB hc_28
      clear hA hB
      exact g_subk (hK168 M h) (And.intro rfl (And.intro rfl (And.intro rfl (And.intro rfl trivial))))
def fX9_keep (x1 : Int) (x2 : Int) (M : gMem) (Q : Int → gMem → Prop) : Prop :=
  (fX9_isRule x1 M (fun r_1 =>
  (rg r_1 ∧ (r_1 = 0 →
  Q (-1) M) ∧
  (¬ r_1 = 0 →
  (fX9_isFile x2 M (fun r_5 =>
    (rg r_5 ∧ (r_5 = 0 →
    Q (-1) M) ∧
    (¬ r_5 = 0 →
    (fX9_cutsOf x1 x2 M (fun M_9 =>
      (fX9_lacks x2 M_9 (fun r_10 =>
      (fX9_there M_9 (fun r_12 =>
      (rg (r_12 + r_10) ∧ (300 < (r_12 + r_10) →
      Q (-2) M_9) ∧
      (¬ 300 < (r_12 + r_10) →
      ((0 ≤ x2 ∧ x2 < 8) ∧ (rg ((M_9 20 x2) % 2) ∧ (((M_9 20 x2) % 2) = 0 →
        ∃ n_46, fX9_keep_L68 x2 0 n_46 0 M_9 (fun M_25 =>
          ∃ n_45, fX9_keep_L104 x2 n_45 0 M_25 (fun M_38 =>
            ((0 ≤ x2 ∧ x2 < 8) ∧ ∀ M_40, M_40 = gSt M_38 20 x2 1 → ((0 ≤ x2 ∧ x2 < 8) ∧ ∀ M_42, M_42 = gSt M_40 21 x2 (M_40 0 10) → (fX9_goes 23 600 0 0 M_42 (fun r_43 M_44 =>
              Q r_10 M_44))))) Q) Q) ∧
        (¬ ((M_9 20 x2) % 2) = 0 →
        ((0 ≤ x2 ∧ x2 < 8) ∧ ∃ n_57, fX9_keep_L68 x2 (M_9 21 x2) n_57 0 M_9 (fun M_48 =>
          ∃ n_56, fX9_keep_L104 x2 n_56 0 M_48 (fun M_49 =>
            ((0 ≤ x2 ∧ x2 < 8) ∧ ∀ M_51, M_51 = gSt M_49 20 x2 1 → ((0 ≤ x2 ∧ x2 < 8) ∧ ∀ M_53, M_53 = gSt M_51 21 x2 (M_51 0 10) → (fX9_goes 23 600 0 (M_9 21 x2) M_53 (fun r_54 M_55 =>
              Q r_10 M_55))))) Q) Q))))))))))))))))))))
set_option maxHeartbeats 4000000 in
set_option maxRecDepth 100000 in
theorem ctX9_keep {l : Launch} {z : gZ} (hZ : gZm z) {x1 : Int} {x2 : Int}  {M : gMem} {Q : Int → gMem → Prop} (h : fX9_keep x1 x2 M Q) : gMI l z mL yX9_keep wX9_keep rmX9_keep [(vr z 0), (vi x1), (vi x2)] M Q := by
  refine g_metI .int (by decide) rfl rfl (gCat_all (And.intro rfl (And.intro rfl (And.intro rfl trivial)))) (Nat.le_of_ble_eq_true rfl) ?_
  intro y hC hR
  replace h : (fX9_isRule x1 M (fun r_1 =>
  (rg r_1 ∧ (r_1 = 0 →
  Q (-1) M) ∧
  (¬ r_1 = 0 →
  (fX9_isFile x2 M (fun r_5 =>
    (rg r_5 ∧ (r_5 = 0 →
    Q (-1) M) ∧
    (¬ r_5 = 0 →
    (fX9_cutsOf x1 x2 M (fun M_9 =>
      (fX9_lacks x2 M_9 (fun r_10 =>
      (fX9_there M_9 (fun r_12 =>
      (rg (r_12 + r_10) ∧ (300 < (r_12 + r_10) →
      Q (-2) M_9) ∧
      (¬ 300 < (r_12 + r_10) →
      ((0 ≤ x2 ∧ x2 < 8) ∧ (rg ((M_9 20 x2) % 2) ∧ (((M_9 20 x2) % 2) = 0 →
        ∃ n_46, fX9_keep_L68 x2 0 n_46 0 M_9 (fun M_25 =>
          ∃ n_45, fX9_keep_L104 x2 n_45 0 M_25 (fun M_38 =>
            ((0 ≤ x2 ∧ x2 < 8) ∧ ∀ M_40, M_40 = gSt M_38 20 x2 1 → ((0 ≤ x2 ∧ x2 < 8) ∧ ∀ M_42, M_42 = gSt M_40 21 x2 (M_40 0 10) → (fX9_goes 23 600 0 0 M_42 (fun r_43 M_44 =>
              Q r_10 M_44))))) Q) Q) ∧
        (¬ ((M_9 20 x2) % 2) = 0 →
        ((0 ≤ x2 ∧ x2 < 8) ∧ ∃ n_57, fX9_keep_L68 x2 (M_9 21 x2) n_57 0 M_9 (fun M_48 =>
          ∃ n_56, fX9_keep_L104 x2 n_56 0 M_48 (fun M_49 =>
            ((0 ≤ x2 ∧ x2 < 8) ∧ ∀ M_51, M_51 = gSt M_49 20 x2 1 → ((0 ≤ x2 ∧ x2 < 8) ∧ ∀ M_53, M_53 = gSt M_51 21 x2 (M_51 0 10) → (fX9_goes 23 600 0 (M_9 21 x2) M_53 (fun r_54 M_55 =>
              Q r_10 M_55))))) Q) Q)))))))))))))))))))) := h
  refine g_lc (lc' := [some (vr z 0), some (vi x1), some (vi x2), none, none, none, none]) rfl ?_
  refine g_aload_n hC dX9_keep_0 rfl rfl ?_
  refine g_iload_n hC dX9_keep_1 rfl rfl ?_
  refine g_calli (g_runV (As := [(vi x1)]) (rest := []) hC rfl (ctX9_isRule hZ  h) rfl (gm_k9 hZ) (kwX9_isRule (by decide) (by decide)) rfl (wc wd_852) (wc wd_854) (wc wd_21) rfl (Nat.le_of_ble_eq_true rfl) rfl dX9_keep_2) (fun r_1 M_2 h => ?_)
  obtain ⟨rfl, h⟩ := h
  obtain ⟨hr_3, hA, hB⟩ := h
  refine g_ieq hC 15 hr_3 dX9_keep_5 (by decide) (fun hc_4 => ?_) (fun hc_4 => ?_)
  · replace h := hA hc_4
    clear hA hB
    refine g_iconst hC dX9_keep_15 ?_
    exact g_iret hC hR dX9_keep_16 h
  · replace h := hB hc_4
    clear hA hB
    refine g_iload_n hC dX9_keep_8 rfl rfl ?_
    refine g_calli (g_runS (As := [(vi x2)]) (rest := []) hC rfl (ctX9_isFile hZ  h) (kwX9_isFile (by decide) (by decide)) (wc wd_813) (wc wd_814) rfl (Nat.le_of_ble_eq_true rfl) rfl dX9_keep_9) (fun r_5 M_6 h => ?_)
    obtain ⟨rfl, h⟩ := h
    obtain ⟨hr_7, hA, hB⟩ := h
    refine g_ine hC 17 hr_7 dX9_keep_12 (by decide) (fun hc_8 => ?_) (fun hc_8 => ?_)
    · replace h := hA hc_8
      clear hA hB
      refine g_iconst hC dX9_keep_15 ?_
      exact g_iret hC hR dX9_keep_16 h
    · replace h := hB hc_8
      clear hA hB
      refine g_aload_n hC dX9_keep_17 rfl rfl ?_
      refine g_iload_n hC dX9_keep_18 rfl rfl ?_
      refine g_iload_n hC dX9_keep_19 rfl rfl ?_
      refine g_callv (g_runV (As := [(vi x1), (vi x2)]) (rest := []) hC rfl (ctX9_cutsOf hZ  h) rfl (gm_k9 hZ) (kwX9_cutsOf (by decide) (by decide)) rfl (wc wd_869) (wc wd_871) (wc wd_24) rfl (Nat.le_of_ble_eq_true rfl) rfl dX9_keep_20) (fun M_9 h => ?_)
      refine g_aload_n hC dX9_keep_23 rfl rfl ?_
      refine g_iload_n hC dX9_keep_24 rfl rfl ?_
      refine g_calli (g_runV (As := [(vi x2)]) (rest := []) hC rfl (ctX9_lacks hZ  h) rfl (gm_k9 hZ) (kwX9_lacks (by decide) (by decide)) rfl (wc wd_918) (wc wd_920) (wc wd_30) rfl (Nat.le_of_ble_eq_true rfl) rfl dX9_keep_25) (fun r_10 M_11 h => ?_)
      obtain ⟨rfl, h⟩ := h
      refine g_istore_n2 (lc' := [some (vr z 0), some (vi x1), some (vi x2), some (vi r_10), none, none, none]) hC dX9_keep_28 rfl (Nat.le_of_ble_eq_true rfl) rfl ?_
      refine g_aload_n hC dX9_keep_29 rfl rfl ?_
      refine g_calli (g_runV (As := []) (rest := []) hC rfl (ctX9_there hZ  h) rfl (gm_k9 hZ) (kwX9_there (by decide) (by decide)) rfl (wc wd_930) (wc wd_932) (wc wd_33) rfl (Nat.le_of_ble_eq_true rfl) rfl dX9_keep_30) (fun r_12 M_13 h => ?_)
      obtain ⟨rfl, h⟩ := h
      refine g_iload_n hC dX9_keep_33 rfl rfl ?_
      refine g_iadd hC dX9_keep_34 ?_
      refine g_sipush hC dX9_keep_35 (by decide) ?_
      obtain ⟨hr_14, hA, hB⟩ := h
      refine g_cle hC 44 hr_14 (by decide) dX9_keep_38 (by decide) (fun hc_15 => ?_) (fun hc_15 => ?_)
      · replace h := hA hc_15
        clear hA hB
        refine g_bipush hC dX9_keep_41 (by decide) ?_
        exact g_iret hC hR dX9_keep_43 h
      · replace h := hB hc_15
        clear hA hB
        refine g_aload_n hC dX9_keep_44 rfl rfl ?_
        refine g_getr (r := 20) hC rfl (gm_k9 hZ) iwX9 24 (by decide) rfl rfl (wc wd_712) dX9_keep_45 ?_
        refine g_iload_n hC dX9_keep_48 rfl rfl ?_
        obtain ⟨hb_16, h⟩ := h
        refine g_zald hC 1 rfl (m_t2 hZ) (by decide) hb_16 dX9_keep_49 ?_
        obtain ⟨hr_17, hA, hB⟩ := h
        refine g_ieq hC 62 hr_17 dX9_keep_50 (by decide) (fun hc_18 => ?_) (fun hc_18 => ?_)
        · replace h := hA hc_18
          clear hA hB
          refine g_iconst hC dX9_keep_62 ?_
          refine g_istore2 (lc' := [some (vr z 0), some (vi x1), some (vi x2), some (vi r_10), some (vi 0), none, none]) hC dX9_keep_63 (Nat.le_of_ble_eq_true rfl) rfl ?_
          refine g_iconst hC dX9_keep_65 ?_
          refine g_istore2 (lc' := [some (vr z 0), some (vi x1), some (vi x2), some (vi r_10), some (vi 0), some (vi 0), none]) hC dX9_keep_66 (Nat.le_of_ble_eq_true rfl) rfl ?_
          obtain ⟨n_46, h⟩ := h
          refine g_subk (ctX9_keep_L68 hC hR hZ ?_ n_46 0 M_9 h) (And.intro rfl (And.intro rfl (And.intro rfl (And.intro rfl (And.intro rfl trivial)))))
          intro M_25 h
          refine g_iconst hC dX9_keep_101 ?_
          refine g_istore2 (lc' := [some (vr z 0), none, some (vi x2), some (vi r_10), some (vi 0), some (vi 0), none]) hC dX9_keep_102 (Nat.le_of_ble_eq_true rfl) rfl ?_
          obtain ⟨n_45, h⟩ := h
          refine g_subk (ctX9_keep_L104 hC hR hZ ?_ n_45 0 M_25 h) (And.intro rfl (And.intro rfl (And.intro rfl (And.intro rfl (And.intro rfl trivial)))))
          intro M_38 h
          refine g_aload_n hC dX9_keep_168 rfl rfl ?_
          refine g_getr (r := 20) hC rfl (gm_k9 hZ) iwX9 24 (by decide) rfl rfl (wc wd_712) dX9_keep_169 ?_
          refine g_iload_n hC dX9_keep_172 rfl rfl ?_
          refine g_iconst hC dX9_keep_173 ?_
          obtain ⟨hb_39, h⟩ := h
          obtain ⟨M_40, hM_40⟩ : ∃ M9, M9 = gSt M_38 20 x2 1 := ⟨_, rfl⟩
          replace h := h M_40 hM_40
          refine g_zast hC 1 rfl (m_t2 hZ) (by decide) (by decide) hb_39 dX9_keep_174 hM_40 ?_
          refine g_aload_n hC dX9_keep_175 rfl rfl ?_
          refine g_getr (r := 21) hC rfl (gm_k9 hZ) iwX9 25 (by decide) rfl rfl (wc wd_713) dX9_keep_176 ?_
          refine g_iload_n hC dX9_keep_179 rfl rfl ?_
          refine g_aload_n hC dX9_keep_180 rfl rfl ?_
          refine g_geti (ji := 10) hC rfl (gm_k9 hZ) iwX9 10 (by decide) rfl rfl (wc wd_698) dX9_keep_181 rfl ?_
          obtain ⟨hb_41, h⟩ := h
          obtain ⟨M_42, hM_42⟩ : ∃ M9, M9 = gSt M_40 21 x2 (M_40 0 10) := ⟨_, rfl⟩
          replace h := h M_42 hM_42
          refine g_iast hC 0 rfl (m_t0 hZ) (by decide) hb_41 dX9_keep_184 hM_42 ?_
          refine g_aload_n hC dX9_keep_185 rfl rfl ?_
          refine g_aload_n hC dX9_keep_186 rfl rfl ?_
          refine g_getr (r := 23) hC rfl (gm_k9 hZ) iwX9 28 (by decide) rfl rfl (wc wd_716) dX9_keep_187 ?_
          refine g_iconst hC dX9_keep_190 ?_
          refine g_iload hC dX9_keep_191 rfl ?_
          refine g_calli (g_runV (As := [(vr z 23), (vi 0), (vi 0)]) (rest := []) hC rfl (ctX9_goes hZ rfl (by decide) h) rfl (gm_k9 hZ) (kwX9_goes (by decide) (by decide)) rfl (wc wd_938) (wc wd_940) (wc wd_35) rfl (Nat.le_of_ble_eq_true rfl) rfl dX9_keep_193) (fun r_43 M_44 h => ?_)
          refine g_pop hC dX9_keep_196 rfl ?_
          refine g_iload_n hC dX9_keep_197 rfl rfl ?_
          exact g_iret hC hR dX9_keep_198 h
        · replace h := hB hc_18
          clear hA hB
          refine g_aload_n hC dX9_keep_53 rfl rfl ?_
          refine g_getr (r := 21) hC rfl (gm_k9 hZ) iwX9 25 (by decide) rfl rfl (wc wd_713) dX9_keep_54 ?_
          refine g_iload_n hC dX9_keep_57 rfl rfl ?_
          obtain ⟨hb_47, h⟩ := h
          refine g_iald hC 0 rfl (m_t0 hZ) (by decide) hb_47 dX9_keep_58 ?_
          refine g_goto hC 63 dX9_keep_59 (by decide) ?_
          refine g_istore2 (lc' := [some (vr z 0), some (vi x1), some (vi x2), some (vi r_10), some (vi (M_9 21 x2)), none, none]) hC dX9_keep_63 (Nat.le_of_ble_eq_true rfl) rfl ?_
          refine g_iconst hC dX9_keep_65 ?_
          refine g_istore2 (lc' := [some (vr z 0), some (vi x1), some (vi x2), some (vi r_10), some (vi (M_9 21 x2)), some (vi 0), none]) hC dX9_keep_66 (Nat.le_of_ble_eq_true rfl) rfl ?_
          obtain ⟨n_57, h⟩ := h
          refine g_subk (ctX9_keep_L68 hC hR hZ ?_ n_57 0 M_9 h) (And.intro rfl (And.intro rfl (And.intro rfl (And.intro rfl (And.intro rfl trivial)))))
          intro M_48 h
          refine g_iconst hC dX9_keep_101 ?_
          refine g_istore2 (lc' := [some (vr z 0), none, some (vi x2), some (vi r_10), some (vi (M_9 21 x2)), some (vi 0), none]) hC dX9_keep_102 (Nat.le_of_ble_eq_true rfl) rfl ?_
          obtain ⟨n_56, h⟩ := h
          refine g_subk (ctX9_keep_L104 hC hR hZ ?_ n_56 0 M_48 h) (And.intro rfl (And.intro rfl (And.intro rfl (And.intro rfl (And.intro rfl trivial)))))
          intro M_49 h
          refine g_aload_n hC dX9_keep_168 rfl rfl ?_
          refine g_getr (r := 20) hC rfl (gm_k9 hZ) iwX9 24 (by decide) rfl rfl (wc wd_712) dX9_keep_169 ?_
          refine g_iload_n hC dX9_keep_172 rfl rfl ?_
          refine g_iconst hC dX9_keep_173 ?_
          obtain ⟨hb_50, h⟩ := h
          obtain ⟨M_51, hM_51⟩ : ∃ M9, M9 = gSt M_49 20 x2 1 := ⟨_, rfl⟩
          replace h := h M_51 hM_51
          refine g_zast hC 1 rfl (m_t2 hZ) (by decide) (by decide) hb_50 dX9_keep_174 hM_51 ?_
          refine g_aload_n hC dX9_keep_175 rfl rfl ?_
          refine g_getr (r := 21) hC rfl (gm_k9 hZ) iwX9 25 (by decide) rfl rfl (wc wd_713) dX9_keep_176 ?_
          refine g_iload_n hC dX9_keep_179 rfl rfl ?_
          refine g_aload_n hC dX9_keep_180 rfl rfl ?_
          refine g_geti (ji := 10) hC rfl (gm_k9 hZ) iwX9 10 (by decide) rfl rfl (wc wd_698) dX9_keep_181 rfl ?_
          obtain ⟨hb_52, h⟩ := h
          obtain ⟨M_53, hM_53⟩ : ∃ M9, M9 = gSt M_51 21 x2 (M_51 0 10) := ⟨_, rfl⟩
          replace h := h M_53 hM_53
          refine g_iast hC 0 rfl (m_t0 hZ) (by decide) hb_52 dX9_keep_184 hM_53 ?_
          refine g_aload_n hC dX9_keep_185 rfl rfl ?_
          refine g_aload_n hC dX9_keep_186 rfl rfl ?_
          refine g_getr (r := 23) hC rfl (gm_k9 hZ) iwX9 28 (by decide) rfl rfl (wc wd_716) dX9_keep_187 ?_
          refine g_iconst hC dX9_keep_190 ?_
          refine g_iload hC dX9_keep_191 rfl ?_
          refine g_calli (g_runV (As := [(vr z 23), (vi 0), (vi (M_9 21 x2))]) (rest := []) hC rfl (ctX9_goes hZ rfl (by decide) h) rfl (gm_k9 hZ) (kwX9_goes (by decide) (by decide)) rfl (wc wd_938) (wc wd_940) (wc wd_35) rfl (Nat.le_of_ble_eq_true rfl) rfl dX9_keep_193) (fun r_54 M_55 h => ?_)
          refine g_pop hC dX9_keep_196 rfl ?_
          refine g_iload_n hC dX9_keep_197 rfl rfl ?_
          exact g_iret hC hR dX9_keep_198 h
abbrev wX9_drop : List Cond := Cond.code yX9_drop cX9_drop 2 (some .int) :: gTs
abbrev rmX9_drop : Room := { frames := 1, cells := 0, slots := 0, locals := 26 }
theorem kwX9_drop {c0 : Cond} {rm : Room} (h1 : rmX9_drop.frames + 1 ≤ rm.frames) (h2 : 8 + (2 + 11) + rmX9_drop.locals ≤ rm.locals) : gCw (c0 :: gTs) rm yX9_drop cX9_drop 2 (some .int) wX9_drop rmX9_drop 1 := gCw_of wd_945 wd_49 h1 h2 (by decide +kernel)
def fX9_drop (x1 : Int) (M : gMem) (Q : Int → gMem → Prop) : Prop :=
  (fX9_isFile x1 M (fun r_1 =>
  (rg r_1 ∧ (r_1 = 0 →
  Q (-1) M) ∧
  (¬ r_1 = 0 →
  ((0 ≤ x1 ∧ x1 < 8) ∧ (rg ((M 20 x1) % 2) ∧ (((M 20 x1) % 2) = 0 →
    Q (-1) M) ∧
    (¬ ((M 20 x1) % 2) = 0 →
    ((0 ≤ x1 ∧ x1 < 8) ∧ ∀ M_9, M_9 = gSt M 20 x1 0 → ((0 ≤ x1 ∧ x1 < 8) ∧ (fX9_goes 22 4800 (600 * x1) (M_9 21 x1) M_9 (fun r_11 M_12 =>
      Q r_11 M_12)))))))))))
set_option maxHeartbeats 4000000 in
set_option maxRecDepth 100000 in
theorem ctX9_drop {l : Launch} {z : gZ} (hZ : gZm z) {x1 : Int}  {M : gMem} {Q : Int → gMem → Prop} (h : fX9_drop x1 M Q) : gMI l z mL yX9_drop wX9_drop rmX9_drop [(vr z 0), (vi x1)] M Q := by
  refine g_metI .int (by decide) rfl rfl (gCat_all (And.intro rfl (And.intro rfl trivial))) (Nat.le_of_ble_eq_true rfl) ?_
  intro y hC hR
  replace h : (fX9_isFile x1 M (fun r_1 =>
  (rg r_1 ∧ (r_1 = 0 →
  Q (-1) M) ∧
  (¬ r_1 = 0 →
  ((0 ≤ x1 ∧ x1 < 8) ∧ (rg ((M 20 x1) % 2) ∧ (((M 20 x1) % 2) = 0 →
    Q (-1) M) ∧
    (¬ ((M 20 x1) % 2) = 0 →
    ((0 ≤ x1 ∧ x1 < 8) ∧ ∀ M_9, M_9 = gSt M 20 x1 0 → ((0 ≤ x1 ∧ x1 < 8) ∧ (fX9_goes 22 4800 (600 * x1) (M_9 21 x1) M_9 (fun r_11 M_12 =>
      Q r_11 M_12))))))))))) := h
  refine g_lc (lc' := [some (vr z 0), some (vi x1)]) rfl ?_
  refine g_iload_n hC dX9_drop_0 rfl rfl ?_
  refine g_calli (g_runS (As := [(vi x1)]) (rest := []) hC rfl (ctX9_isFile hZ  h) (kwX9_isFile (by decide) (by decide)) (wc wd_813) (wc wd_814) rfl (Nat.le_of_ble_eq_true rfl) rfl dX9_drop_1) (fun r_1 M_2 h => ?_)
  obtain ⟨rfl, h⟩ := h
  obtain ⟨hr_3, hA, hB⟩ := h
  refine g_ieq hC 16 hr_3 dX9_drop_4 (by decide) (fun hc_4 => ?_) (fun hc_4 => ?_)
  · replace h := hA hc_4
    clear hA hB
    refine g_iconst hC dX9_drop_16 ?_
    exact g_iret hC hR dX9_drop_17 h
  · replace h := hB hc_4
    clear hA hB
    refine g_aload_n hC dX9_drop_7 rfl rfl ?_
    refine g_getr (r := 20) hC rfl (gm_k9 hZ) iwX9 24 (by decide) rfl rfl (wc wd_712) dX9_drop_8 ?_
    refine g_iload_n hC dX9_drop_11 rfl rfl ?_
    obtain ⟨hb_5, h⟩ := h
    refine g_zald hC 1 rfl (m_t2 hZ) (by decide) hb_5 dX9_drop_12 ?_
    obtain ⟨hr_6, hA, hB⟩ := h
    refine g_ine hC 18 hr_6 dX9_drop_13 (by decide) (fun hc_7 => ?_) (fun hc_7 => ?_)
    · replace h := hA hc_7
      clear hA hB
      refine g_iconst hC dX9_drop_16 ?_
      exact g_iret hC hR dX9_drop_17 h
    · replace h := hB hc_7
      clear hA hB
      refine g_aload_n hC dX9_drop_18 rfl rfl ?_
      refine g_getr (r := 20) hC rfl (gm_k9 hZ) iwX9 24 (by decide) rfl rfl (wc wd_712) dX9_drop_19 ?_
      refine g_iload_n hC dX9_drop_22 rfl rfl ?_
      refine g_iconst hC dX9_drop_23 ?_
      obtain ⟨hb_8, h⟩ := h
      obtain ⟨M_9, hM_9⟩ : ∃ M9, M9 = gSt M 20 x1 0 := ⟨_, rfl⟩
      replace h := h M_9 hM_9
      refine g_zast hC 1 rfl (m_t2 hZ) (by decide) (by decide) hb_8 dX9_drop_24 hM_9 ?_
      refine g_aload_n hC dX9_drop_25 rfl rfl ?_
      refine g_aload_n hC dX9_drop_26 rfl rfl ?_
      refine g_getr (r := 22) hC rfl (gm_k9 hZ) iwX9 26 (by decide) rfl rfl (wc wd_714) dX9_drop_27 ?_
      refine g_sipush hC dX9_drop_30 (by decide) ?_
      refine g_iload_n hC dX9_drop_33 rfl rfl ?_
      refine g_imul hC dX9_drop_34 ?_
      refine g_aload_n hC dX9_drop_35 rfl rfl ?_
      refine g_getr (r := 21) hC rfl (gm_k9 hZ) iwX9 25 (by decide) rfl rfl (wc wd_713) dX9_drop_36 ?_
      refine g_iload_n hC dX9_drop_39 rfl rfl ?_
      obtain ⟨hb_10, h⟩ := h
      refine g_iald hC 0 rfl (m_t0 hZ) (by decide) hb_10 dX9_drop_40 ?_
      refine g_calli (g_runV (As := [(vr z 22), (vi (600 * x1)), (vi (M_9 21 x1))]) (rest := []) hC rfl (ctX9_goes hZ rfl (by decide) h) rfl (gm_k9 hZ) (kwX9_goes (by decide) (by decide)) rfl (wc wd_938) (wc wd_940) (wc wd_35) rfl (Nat.le_of_ble_eq_true rfl) rfl dX9_drop_41) (fun r_11 M_12 h => ?_)
      exact g_iret hC hR dX9_drop_44 h
abbrev wX9_bring : List Cond := Cond.code yX9_bring cX9_bring 5 (some .int) :: gTs
abbrev rmX9_bring : Room := { frames := 1, cells := 0, slots := 0, locals := 20 }
theorem kwX9_bring {c0 : Cond} {rm : Room} (h1 : rmX9_bring.frames + 1 ≤ rm.frames) (h2 : 8 + (5 + 11) + rmX9_bring.locals ≤ rm.locals) : gCw (c0 :: gTs) rm yX9_bring cX9_bring 5 (some .int) wX9_bring rmX9_bring 1 := gCw_of wd_949 wd_49 h1 h2 (by decide +kernel)
def fX9_bring_L53  (x1 : Int) (x3 : Int) : Nat → Int → gMem → (gMem → Prop) → (Int → gMem → Prop) → Prop
  | 0, _, _, _, _ => False
  | n53 + 1, x4, M, K110, Q =>
    ((0 ≤ x3 ∧ x3 < 301) ∧ (rg x4 ∧ rg (M 16 x3) ∧ (x4 < (M 16 x3) →
    ((0 ≤ x1 ∧ x1 < 8) ∧ ((0 ≤ ((200 * x3) + x4) ∧ ((200 * x3) + x4) < 60200) ∧ ((0 ≤ ((600 * x1) + (M 1 x1)) ∧ ((600 * x1) + (M 1 x1)) < 4800) ∧ ∀ M_22, M_22 = gSt M 2 ((600 * x1) + (M 1 x1)) (M 17 ((200 * x3) + x4)) → ((0 ≤ x1 ∧ x1 < 8) ∧ ((0 ≤ x1 ∧ x1 < 8) ∧ ∀ M_25, M_25 = gSt M_22 1 x1 ((M_22 1 x1) + 1) → fX9_bring_L53 x1 x3 n53 (x4 + 1) M_25 K110 Q)))))) ∧
    (¬ x4 < (M 16 x3) →
    K110 M)))
set_option maxHeartbeats 4000000 in
set_option maxRecDepth 100000 in
theorem ctX9_bring_L53 {y : gY} {z : gZ} {l : Launch} {x1 : Int} {x2 : Int} {x3 : Int} {Q : Int → gMem → Prop} {K110 : gMem → Prop} (hC : gC y z l cX9_bring RX9 5 wX9_bring rmX9_bring) (hR : gRI y z mL .int Q) (hZ : gZm z)  (hK110 : ∀ (M : gMem), K110 M → gW y z mL 110 [some (vr z 0), some (vi x1), some (vi x2), none, none] [] M) :
    ∀ (n : Nat) (x4 : Int) (M : gMem), fX9_bring_L53 x1 x3 n x4 M K110 Q → gW y z mL 53 [some (vr z 0), some (vi x1), some (vi x2), some (vi x3), some (vi x4)] [] M := by
  intro n
  induction n with
  | zero => intro x4 M h; exact False.elim h
  | succ n53 ih =>
    intro x4 M h
    replace h : ((0 ≤ x3 ∧ x3 < 301) ∧ (rg x4 ∧ rg (M 16 x3) ∧ (x4 < (M 16 x3) →
    ((0 ≤ x1 ∧ x1 < 8) ∧ ((0 ≤ ((200 * x3) + x4) ∧ ((200 * x3) + x4) < 60200) ∧ ((0 ≤ ((600 * x1) + (M 1 x1)) ∧ ((600 * x1) + (M 1 x1)) < 4800) ∧ ∀ M_22, M_22 = gSt M 2 ((600 * x1) + (M 1 x1)) (M 17 ((200 * x3) + x4)) → ((0 ≤ x1 ∧ x1 < 8) ∧ ((0 ≤ x1 ∧ x1 < 8) ∧ ∀ M_25, M_25 = gSt M_22 1 x1 ((M_22 1 x1) + 1) → fX9_bring_L53 x1 x3 n53 (x4 + 1) M_25 K110 Q)))))) ∧
    (¬ x4 < (M 16 x3) →
    K110 M))) := h
    refine g_iload hC dX9_bring_53 rfl ?_
    refine g_aload_n hC dX9_bring_55 rfl rfl ?_
    refine g_getr (r := 16) hC rfl (gm_k9 hZ) iwX9 20 (by decide) rfl rfl (wc wd_708) dX9_bring_56 ?_
    refine g_iload_n hC dX9_bring_59 rfl rfl ?_
    obtain ⟨hb_15, h⟩ := h
    refine g_iald hC 0 rfl (m_t0 hZ) (by decide) hb_15 dX9_bring_60 ?_
    obtain ⟨hr_16, hr_17, hA, hB⟩ := h
    refine g_cge hC 110 hr_16 hr_17 dX9_bring_61 (by decide) (fun hc_18 => ?_) (fun hc_18 => ?_)
    · replace h := hA hc_18
      clear hA hB
      refine g_aload_n hC dX9_bring_64 rfl rfl ?_
      refine g_getr (r := 2) hC rfl (gm_k9 hZ) iwX9 1 (by decide) rfl rfl (wc wd_689) dX9_bring_65 ?_
      refine g_sipush hC dX9_bring_68 (by decide) ?_
      refine g_iload_n hC dX9_bring_71 rfl rfl ?_
      refine g_imul hC dX9_bring_72 ?_
      refine g_aload_n hC dX9_bring_73 rfl rfl ?_
      refine g_getr (r := 1) hC rfl (gm_k9 hZ) iwX9 0 (by decide) rfl rfl (wc wd_688) dX9_bring_74 ?_
      refine g_iload_n hC dX9_bring_77 rfl rfl ?_
      obtain ⟨hb_19, h⟩ := h
      refine g_iald hC 0 rfl (m_t0 hZ) (by decide) hb_19 dX9_bring_78 ?_
      refine g_iadd hC dX9_bring_79 ?_
      refine g_aload_n hC dX9_bring_80 rfl rfl ?_
      refine g_getr (r := 17) hC rfl (gm_k9 hZ) iwX9 21 (by decide) rfl rfl (wc wd_709) dX9_bring_81 ?_
      refine g_sipush hC dX9_bring_84 (by decide) ?_
      refine g_iload_n hC dX9_bring_87 rfl rfl ?_
      refine g_imul hC dX9_bring_88 ?_
      refine g_iload hC dX9_bring_89 rfl ?_
      refine g_iadd hC dX9_bring_91 ?_
      obtain ⟨hb_20, h⟩ := h
      refine g_iald hC 0 rfl (m_t0 hZ) (by decide) hb_20 dX9_bring_92 ?_
      obtain ⟨hb_21, h⟩ := h
      obtain ⟨M_22, hM_22⟩ : ∃ M9, M9 = gSt M 2 ((600 * x1) + (M 1 x1)) (M 17 ((200 * x3) + x4)) := ⟨_, rfl⟩
      replace h := h M_22 hM_22
      refine g_iast hC 0 rfl (m_t0 hZ) (by decide) hb_21 dX9_bring_93 hM_22 ?_
      refine g_aload_n hC dX9_bring_94 rfl rfl ?_
      refine g_getr (r := 1) hC rfl (gm_k9 hZ) iwX9 0 (by decide) rfl rfl (wc wd_688) dX9_bring_95 ?_
      refine g_iload_n hC dX9_bring_98 rfl rfl ?_
      refine g_dup2 hC dX9_bring_99 rfl rfl ?_
      obtain ⟨hb_23, h⟩ := h
      refine g_iald hC 0 rfl (m_t0 hZ) (by decide) hb_23 dX9_bring_100 ?_
      refine g_iconst hC dX9_bring_101 ?_
      refine g_iadd hC dX9_bring_102 ?_
      obtain ⟨hb_24, h⟩ := h
      obtain ⟨M_25, hM_25⟩ : ∃ M9, M9 = gSt M_22 1 x1 ((M_22 1 x1) + 1) := ⟨_, rfl⟩
      replace h := h M_25 hM_25
      refine g_iast hC 0 rfl (m_t0 hZ) (by decide) hb_24 dX9_bring_103 hM_25 ?_
      refine g_iinc2 (lc' := [some (vr z 0), some (vi x1), some (vi x2), some (vi x3), some (vi (x4 + 1))]) hC dX9_bring_104 rfl rfl ?_
      refine g_goto hC 53 dX9_bring_107 (by decide) ?_
      exact g_subk (ih (x4 + 1) M_25 h) (And.intro rfl (And.intro rfl (And.intro rfl (And.intro rfl (And.intro rfl trivial)))))
    · replace h := hB hc_18
      clear hA hB
      exact g_subk (hK110 M h) (And.intro rfl (And.intro rfl (And.intro rfl trivial)))
def fX9_bring_L27  (x1 : Int) : Nat → Int → gMem → (gMem → Prop) → (Int → gMem → Prop) → Prop
  | 0, _, _, _, _ => False
  | n27 + 1, x2, M, K116, Q =>
    ((0 ≤ x1 ∧ x1 < 8) ∧ (rg x2 ∧ rg (M 21 x1) ∧ (x2 < (M 21 x1) →
    ((0 ≤ ((600 * x1) + x2) ∧ ((600 * x1) + x2) < 4800) ∧ ∃ n_27, fX9_bring_L53 x1 (M 22 ((600 * x1) + x2)) n_27 0 M (fun M_26 =>
      fX9_bring_L27 x1 n27 (x2 + 1) M_26 K116 Q) Q)) ∧
    (¬ x2 < (M 21 x1) →
    K116 M)))
set_option maxHeartbeats 4000000 in
set_option maxRecDepth 100000 in
theorem ctX9_bring_L27 {y : gY} {z : gZ} {l : Launch} {x1 : Int} {Q : Int → gMem → Prop} {K116 : gMem → Prop} (hC : gC y z l cX9_bring RX9 5 wX9_bring rmX9_bring) (hR : gRI y z mL .int Q) (hZ : gZm z)  (hK116 : ∀ (M : gMem), K116 M → gW y z mL 116 [some (vr z 0), some (vi x1), none, none, none] [] M) :
    ∀ (n : Nat) (x2 : Int) (M : gMem), fX9_bring_L27 x1 n x2 M K116 Q → gW y z mL 27 [some (vr z 0), some (vi x1), some (vi x2), none, none] [] M := by
  intro n
  induction n with
  | zero => intro x2 M h; exact False.elim h
  | succ n27 ih =>
    intro x2 M h
    replace h : ((0 ≤ x1 ∧ x1 < 8) ∧ (rg x2 ∧ rg (M 21 x1) ∧ (x2 < (M 21 x1) →
    ((0 ≤ ((600 * x1) + x2) ∧ ((600 * x1) + x2) < 4800) ∧ ∃ n_27, fX9_bring_L53 x1 (M 22 ((600 * x1) + x2)) n_27 0 M (fun M_26 =>
      fX9_bring_L27 x1 n27 (x2 + 1) M_26 K116 Q) Q)) ∧
    (¬ x2 < (M 21 x1) →
    K116 M))) := h
    refine g_iload_n hC dX9_bring_27 rfl rfl ?_
    refine g_aload_n hC dX9_bring_28 rfl rfl ?_
    refine g_getr (r := 21) hC rfl (gm_k9 hZ) iwX9 25 (by decide) rfl rfl (wc wd_713) dX9_bring_29 ?_
    refine g_iload_n hC dX9_bring_32 rfl rfl ?_
    obtain ⟨hb_10, h⟩ := h
    refine g_iald hC 0 rfl (m_t0 hZ) (by decide) hb_10 dX9_bring_33 ?_
    obtain ⟨hr_11, hr_12, hA, hB⟩ := h
    refine g_cge hC 116 hr_11 hr_12 dX9_bring_34 (by decide) (fun hc_13 => ?_) (fun hc_13 => ?_)
    · replace h := hA hc_13
      clear hA hB
      refine g_aload_n hC dX9_bring_37 rfl rfl ?_
      refine g_getr (r := 22) hC rfl (gm_k9 hZ) iwX9 26 (by decide) rfl rfl (wc wd_714) dX9_bring_38 ?_
      refine g_sipush hC dX9_bring_41 (by decide) ?_
      refine g_iload_n hC dX9_bring_44 rfl rfl ?_
      refine g_imul hC dX9_bring_45 ?_
      refine g_iload_n hC dX9_bring_46 rfl rfl ?_
      refine g_iadd hC dX9_bring_47 ?_
      obtain ⟨hb_14, h⟩ := h
      refine g_iald hC 0 rfl (m_t0 hZ) (by decide) hb_14 dX9_bring_48 ?_
      refine g_istore_n2 (lc' := [some (vr z 0), some (vi x1), some (vi x2), some (vi (M 22 ((600 * x1) + x2))), none]) hC dX9_bring_49 rfl (Nat.le_of_ble_eq_true rfl) rfl ?_
      refine g_iconst hC dX9_bring_50 ?_
      refine g_istore2 (lc' := [some (vr z 0), some (vi x1), some (vi x2), some (vi (M 22 ((600 * x1) + x2))), some (vi 0)]) hC dX9_bring_51 (Nat.le_of_ble_eq_true rfl) rfl ?_
      obtain ⟨n_27, h⟩ := h
      refine g_subk (ctX9_bring_L53 hC hR hZ ?_ n_27 0 M h) (And.intro rfl (And.intro rfl (And.intro rfl (And.intro rfl (And.intro rfl trivial)))))
      intro M_26 h
      refine g_iinc2 (lc' := [some (vr z 0), some (vi x1), some (vi (x2 + 1)), none, none]) hC dX9_bring_110 rfl rfl ?_
      refine g_goto hC 27 dX9_bring_113 (by decide) ?_
      exact g_subk (ih (x2 + 1) M_26 h) (And.intro rfl (And.intro rfl (And.intro rfl trivial)))
    · replace h := hB hc_13
      clear hA hB
      exact g_subk (hK116 M h) (And.intro rfl (And.intro rfl trivial))
def fX9_bring (x1 : Int) (M : gMem) (Q : Int → gMem → Prop) : Prop :=
  (fX9_isFile x1 M (fun r_1 =>
  (rg r_1 ∧ (r_1 = 0 →
  Q (-1) M) ∧
  (¬ r_1 = 0 →
  ((0 ≤ x1 ∧ x1 < 8) ∧ (rg ((M 20 x1) % 2) ∧ (((M 20 x1) % 2) = 0 →
    Q (-1) M) ∧
    (¬ ((M 20 x1) % 2) = 0 →
    ((0 ≤ x1 ∧ x1 < 8) ∧ ∀ M_9, M_9 = gSt M 1 x1 0 → ∃ n_30, fX9_bring_L27 x1 n_30 0 M_9 (fun M_28 =>
      ((0 ≤ x1 ∧ x1 < 8) ∧ Q (M_28 1 x1) M_28)) Q))))))))
set_option maxHeartbeats 4000000 in
set_option maxRecDepth 100000 in
theorem ctX9_bring {l : Launch} {z : gZ} (hZ : gZm z) {x1 : Int}  {M : gMem} {Q : Int → gMem → Prop} (h : fX9_bring x1 M Q) : gMI l z mL yX9_bring wX9_bring rmX9_bring [(vr z 0), (vi x1)] M Q := by
  refine g_metI .int (by decide) rfl rfl (gCat_all (And.intro rfl (And.intro rfl trivial))) (Nat.le_of_ble_eq_true rfl) ?_
  intro y hC hR
  replace h : (fX9_isFile x1 M (fun r_1 =>
  (rg r_1 ∧ (r_1 = 0 →
  Q (-1) M) ∧
  (¬ r_1 = 0 →
  ((0 ≤ x1 ∧ x1 < 8) ∧ (rg ((M 20 x1) % 2) ∧ (((M 20 x1) % 2) = 0 →
    Q (-1) M) ∧
    (¬ ((M 20 x1) % 2) = 0 →
    ((0 ≤ x1 ∧ x1 < 8) ∧ ∀ M_9, M_9 = gSt M 1 x1 0 → ∃ n_30, fX9_bring_L27 x1 n_30 0 M_9 (fun M_28 =>
      ((0 ≤ x1 ∧ x1 < 8) ∧ Q (M_28 1 x1) M_28)) Q)))))))) := h
  refine g_lc (lc' := [some (vr z 0), some (vi x1), none, none, none]) rfl ?_
  refine g_iload_n hC dX9_bring_0 rfl rfl ?_
  refine g_calli (g_runS (As := [(vi x1)]) (rest := []) hC rfl (ctX9_isFile hZ  h) (kwX9_isFile (by decide) (by decide)) (wc wd_813) (wc wd_814) rfl (Nat.le_of_ble_eq_true rfl) rfl dX9_bring_1) (fun r_1 M_2 h => ?_)
  obtain ⟨rfl, h⟩ := h
  obtain ⟨hr_3, hA, hB⟩ := h
  refine g_ieq hC 16 hr_3 dX9_bring_4 (by decide) (fun hc_4 => ?_) (fun hc_4 => ?_)
  · replace h := hA hc_4
    clear hA hB
    refine g_iconst hC dX9_bring_16 ?_
    exact g_iret hC hR dX9_bring_17 h
  · replace h := hB hc_4
    clear hA hB
    refine g_aload_n hC dX9_bring_7 rfl rfl ?_
    refine g_getr (r := 20) hC rfl (gm_k9 hZ) iwX9 24 (by decide) rfl rfl (wc wd_712) dX9_bring_8 ?_
    refine g_iload_n hC dX9_bring_11 rfl rfl ?_
    obtain ⟨hb_5, h⟩ := h
    refine g_zald hC 1 rfl (m_t2 hZ) (by decide) hb_5 dX9_bring_12 ?_
    obtain ⟨hr_6, hA, hB⟩ := h
    refine g_ine hC 18 hr_6 dX9_bring_13 (by decide) (fun hc_7 => ?_) (fun hc_7 => ?_)
    · replace h := hA hc_7
      clear hA hB
      refine g_iconst hC dX9_bring_16 ?_
      exact g_iret hC hR dX9_bring_17 h
    · replace h := hB hc_7
      clear hA hB
      refine g_aload_n hC dX9_bring_18 rfl rfl ?_
      refine g_getr (r := 1) hC rfl (gm_k9 hZ) iwX9 0 (by decide) rfl rfl (wc wd_688) dX9_bring_19 ?_
      refine g_iload_n hC dX9_bring_22 rfl rfl ?_
      refine g_iconst hC dX9_bring_23 ?_
      obtain ⟨hb_8, h⟩ := h
      obtain ⟨M_9, hM_9⟩ : ∃ M9, M9 = gSt M 1 x1 0 := ⟨_, rfl⟩
      replace h := h M_9 hM_9
      refine g_iast hC 0 rfl (m_t0 hZ) (by decide) hb_8 dX9_bring_24 hM_9 ?_
      refine g_iconst hC dX9_bring_25 ?_
      refine g_istore_n2 (lc' := [some (vr z 0), some (vi x1), some (vi 0), none, none]) hC dX9_bring_26 rfl (Nat.le_of_ble_eq_true rfl) rfl ?_
      obtain ⟨n_30, h⟩ := h
      refine g_subk (ctX9_bring_L27 hC hR hZ ?_ n_30 0 M_9 h) (And.intro rfl (And.intro rfl (And.intro rfl trivial)))
      intro M_28 h
      refine g_aload_n hC dX9_bring_116 rfl rfl ?_
      refine g_getr (r := 1) hC rfl (gm_k9 hZ) iwX9 0 (by decide) rfl rfl (wc wd_688) dX9_bring_117 ?_
      refine g_iload_n hC dX9_bring_120 rfl rfl ?_
      obtain ⟨hb_29, h⟩ := h
      refine g_iald hC 0 rfl (m_t0 hZ) (by decide) hb_29 dX9_bring_121 ?_
      exact g_iret hC hR dX9_bring_122 h
