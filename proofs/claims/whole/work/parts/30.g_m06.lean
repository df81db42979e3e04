abbrev wX9_gives : List Cond := Cond.code yX9_gives cX9_gives 10 (some .int) :: gTs
abbrev rmX9_gives : Room := { frames := 1, cells := 0, slots := 0, locals := 21 }
theorem kwX9_gives {c0 : Cond} {rm : Room} (h1 : rmX9_gives.frames + 1 ≤ rm.frames) (h2 : 8 + (10 + 11) + rmX9_gives.locals ≤ rm.locals) : gCw (c0 :: gTs) rm yX9_gives cX9_gives 10 (some .int) wX9_gives rmX9_gives 2 := gCw_of wd_987 wd_49 h1 h2 (by decide +kernel)
def fX9_gives_J99  (x1 : Int) (x2 : Int) (x6 : Int) (x7 : Int) (x3 : Int) (x4 : Int) (x8 : Int) (x9 : Int) (s0 : Int) (s1 : Int) (M : gMem) (K31 : Int → Int → Int → gMem → Prop) (Q : Int → gMem → Prop) : Prop :=
  ((0 ≤ s1 ∧ s1 < 4800) ∧ ∀ M_21, M_21 = gSt M 24 s1 s0 → (rg x9 ∧ (x9 = 0 →
  (rg x9 ∧ (x9 = 0 →
    K31 x3 (x4 + 1) (x8 + 1) M_21) ∧
    (¬ x9 = 0 →
    K31 (x3 + 1) (x4 + 1) (x8 + 1) M_21))) ∧
  (¬ x9 = 0 →
  (rg x9 ∧ (x9 = 0 →
    K31 x3 (x4 + 1) (x8 + 2) M_21) ∧
    (¬ x9 = 0 →
    K31 (x3 + 1) (x4 + 1) (x8 + 2) M_21)))))
set_option maxHeartbeats 4000000 in
set_option maxRecDepth 100000 in
theorem ctX9_gives_J99 {y : gY} {z : gZ} {l : Launch}  {x1 : Int} {x2 : Int} {x6 : Int} {x7 : Int} {Q : Int → gMem → Prop} {K31 : Int → Int → Int → gMem → Prop} (hC : gC y z l cX9_gives RX9 10 wX9_gives rmX9_gives) (hR : gRI y z mL .int Q) (hZ : gZm z)  (hK31 : ∀ (x3 : Int) (x4 : Int) (x8 : Int) (M : gMem), K31 x3 x4 x8 M → gW y z mL 31 [some (vr z 0), some (vi x1), some (vi x2), some (vi x3), some (vi x4), none, some (vi x6), some (vi x7), some (vi x8), none] [] M) :
    ∀ (x3 : Int) (x4 : Int) (x8 : Int) (x9 : Int) (s0 : Int) (s1 : Int) (M : gMem), fX9_gives_J99 x1 x2 x6 x7 x3 x4 x8 x9 s0 s1 M K31 Q → gW y z mL 99 [some (vr z 0), some (vi x1), some (vi x2), some (vi x3), some (vi x4), none, some (vi x6), some (vi x7), some (vi x8), some (vi x9)] [(vi s0), (vi s1), (vr z 24)] M := by
  intro x3 x4 x8 x9 s0 s1 M h
  replace h : ((0 ≤ s1 ∧ s1 < 4800) ∧ ∀ M_21, M_21 = gSt M 24 s1 s0 → (rg x9 ∧ (x9 = 0 →
  (rg x9 ∧ (x9 = 0 →
    K31 x3 (x4 + 1) (x8 + 1) M_21) ∧
    (¬ x9 = 0 →
    K31 (x3 + 1) (x4 + 1) (x8 + 1) M_21))) ∧
  (¬ x9 = 0 →
  (rg x9 ∧ (x9 = 0 →
    K31 x3 (x4 + 1) (x8 + 2) M_21) ∧
    (¬ x9 = 0 →
    K31 (x3 + 1) (x4 + 1) (x8 + 2) M_21))))) := h
  obtain ⟨hb_20, h⟩ := h
  obtain ⟨M_21, hM_21⟩ : ∃ M9, M9 = gSt M 24 s1 s0 := ⟨_, rfl⟩
  replace h := h M_21 hM_21
  refine g_iast hC 0 rfl (m_t0 hZ) (by decide) hb_20 dX9_gives_99 hM_21 ?_
  refine g_iinc2 (lc' := [some (vr z 0), some (vi x1), some (vi x2), some (vi x3), some (vi (x4 + 1)), none, some (vi x6), some (vi x7), some (vi x8), some (vi x9)]) hC dX9_gives_100 rfl rfl ?_
  refine g_iload hC dX9_gives_103 rfl ?_
  refine g_iload hC dX9_gives_105 rfl ?_
  obtain ⟨hr_22, hA, hB⟩ := h
  refine g_ieq hC 114 hr_22 dX9_gives_107 (by decide) (fun hc_23 => ?_) (fun hc_23 => ?_)
  · replace h := hA hc_23
    clear hA hB
    refine g_iconst hC dX9_gives_114 ?_
    refine g_iadd hC dX9_gives_115 ?_
    refine g_istore2 (lc' := [some (vr z 0), some (vi x1), some (vi x2), some (vi x3), some (vi (x4 + 1)), none, some (vi x6), some (vi x7), some (vi (x8 + 1)), some (vi x9)]) hC dX9_gives_116 (Nat.le_of_ble_eq_true rfl) rfl ?_
    refine g_iload hC dX9_gives_118 rfl ?_
    obtain ⟨hr_24, hA, hB⟩ := h
    refine g_ieq hC 126 hr_24 dX9_gives_120 (by decide) (fun hc_25 => ?_) (fun hc_25 => ?_)
    · replace h := hA hc_25
      clear hA hB
      refine g_goto hC 31 dX9_gives_126 (by decide) ?_
      exact g_subk (hK31 x3 (x4 + 1) (x8 + 1) M_21 h) (And.intro rfl (And.intro rfl (And.intro rfl (And.intro rfl (And.intro rfl (And.intro rfl (And.intro rfl (And.intro rfl trivial))))))))
    · replace h := hB hc_25
      clear hA hB
      refine g_iinc2 (lc' := [some (vr z 0), some (vi x1), some (vi x2), some (vi (x3 + 1)), some (vi (x4 + 1)), none, some (vi x6), some (vi x7), some (vi (x8 + 1)), some (vi x9)]) hC dX9_gives_123 rfl rfl ?_
      refine g_goto hC 31 dX9_gives_126 (by decide) ?_
      exact g_subk (hK31 (x3 + 1) (x4 + 1) (x8 + 1) M_21 h) (And.intro rfl (And.intro rfl (And.intro rfl (And.intro rfl (And.intro rfl (And.intro rfl (And.intro rfl (And.intro rfl trivial))))))))
  · replace h := hB hc_23
    clear hA hB
    refine g_iconst hC dX9_gives_110 ?_
    refine g_goto hC 115 dX9_gives_111 (by decide) ?_
    refine g_iadd hC dX9_gives_115 ?_
    refine g_istore2 (lc' := [some (vr z 0), some (vi x1), some (vi x2), some (vi x3), some (vi (x4 + 1)), none, some (vi x6), some (vi x7), some (vi (x8 + 2)), some (vi x9)]) hC dX9_gives_116 (Nat.le_of_ble_eq_true rfl) rfl ?_
    refine g_iload hC dX9_gives_118 rfl ?_
    obtain ⟨hr_26, hA, hB⟩ := h
    refine g_ieq hC 126 hr_26 dX9_gives_120 (by decide) (fun hc_27 => ?_) (fun hc_27 => ?_)
    · replace h := hA hc_27
      clear hA hB
      refine g_goto hC 31 dX9_gives_126 (by decide) ?_
      exact g_subk (hK31 x3 (x4 + 1) (x8 + 2) M_21 h) (And.intro rfl (And.intro rfl (And.intro rfl (And.intro rfl (And.intro rfl (And.intro rfl (And.intro rfl (And.intro rfl trivial))))))))
    · replace h := hB hc_27
      clear hA hB
      refine g_iinc2 (lc' := [some (vr z 0), some (vi x1), some (vi x2), some (vi (x3 + 1)), some (vi (x4 + 1)), none, some (vi x6), some (vi x7), some (vi (x8 + 2)), some (vi x9)]) hC dX9_gives_123 rfl rfl ?_
      refine g_goto hC 31 dX9_gives_126 (by decide) ?_
      exact g_subk (hK31 (x3 + 1) (x4 + 1) (x8 + 2) M_21 h) (And.intro rfl (And.intro rfl (And.intro rfl (And.intro rfl (And.intro rfl (And.intro rfl (And.intro rfl (And.intro rfl trivial))))))))
def fX9_gives_J75  (x1 : Int) (x2 : Int) (x6 : Int) (x7 : Int) (x3 : Int) (x4 : Int) (x8 : Int) (s0 : Int) (M : gMem) (K31 : Int → Int → Int → gMem → Prop) (Q : Int → gMem → Prop) : Prop :=
  (rg s0 ∧ (s0 = 0 →
  ((0 ≤ x8 ∧ x8 < 4800) ∧ fX9_gives_J99 x1 x2 x6 x7 x3 x4 x8 s0 (M 24 x8) x4 M (fun x3_28 x4_29 x8_30 M_31 => K31 x3_28 x4_29 x8_30 M_31) Q)) ∧
  (¬ s0 = 0 →
  fX9_gives_J99 x1 x2 x6 x7 x3 x4 x8 s0 x2 x4 M (fun x3_32 x4_33 x8_34 M_35 => K31 x3_32 x4_33 x8_34 M_35) Q))
set_option maxHeartbeats 4000000 in
set_option maxRecDepth 100000 in
theorem ctX9_gives_J75 {y : gY} {z : gZ} {l : Launch}  {x1 : Int} {x2 : Int} {x6 : Int} {x7 : Int} {Q : Int → gMem → Prop} {K31 : Int → Int → Int → gMem → Prop} (hC : gC y z l cX9_gives RX9 10 wX9_gives rmX9_gives) (hR : gRI y z mL .int Q) (hZ : gZm z)  (hK31 : ∀ (x3 : Int) (x4 : Int) (x8 : Int) (M : gMem), K31 x3 x4 x8 M → gW y z mL 31 [some (vr z 0), some (vi x1), some (vi x2), some (vi x3), some (vi x4), none, some (vi x6), some (vi x7), some (vi x8), none] [] M) :
    ∀ (x3 : Int) (x4 : Int) (x8 : Int) (s0 : Int) (M : gMem), fX9_gives_J75 x1 x2 x6 x7 x3 x4 x8 s0 M K31 Q → gW y z mL 75 [some (vr z 0), some (vi x1), some (vi x2), some (vi x3), some (vi x4), none, some (vi x6), some (vi x7), some (vi x8), none] [(vi s0)] M := by
  intro x3 x4 x8 s0 M h
  replace h : (rg s0 ∧ (s0 = 0 →
  ((0 ≤ x8 ∧ x8 < 4800) ∧ fX9_gives_J99 x1 x2 x6 x7 x3 x4 x8 s0 (M 24 x8) x4 M (fun x3_28 x4_29 x8_30 M_31 => K31 x3_28 x4_29 x8_30 M_31) Q)) ∧
  (¬ s0 = 0 →
  fX9_gives_J99 x1 x2 x6 x7 x3 x4 x8 s0 x2 x4 M (fun x3_32 x4_33 x8_34 M_35 => K31 x3_32 x4_33 x8_34 M_35) Q)) := h
  refine g_istore2 (lc' := [some (vr z 0), some (vi x1), some (vi x2), some (vi x3), some (vi x4), none, some (vi x6), some (vi x7), some (vi x8), some (vi s0)]) hC dX9_gives_75 (Nat.le_of_ble_eq_true rfl) rfl ?_
  refine g_aload_n hC dX9_gives_77 rfl rfl ?_
  refine g_getr (r := 24) hC rfl (gm_k9 hZ) iwX9 29 (by decide) rfl rfl (wc wd_717) dX9_gives_78 ?_
  refine g_iload hC dX9_gives_81 rfl ?_
  refine g_iload hC dX9_gives_83 rfl ?_
  obtain ⟨hr_17, hA, hB⟩ := h
  refine g_ieq hC 92 hr_17 dX9_gives_85 (by decide) (fun hc_18 => ?_) (fun hc_18 => ?_)
  · replace h := hA hc_18
    clear hA hB
    refine g_aload_n hC dX9_gives_92 rfl rfl ?_
    refine g_getr (r := 24) hC rfl (gm_k9 hZ) iwX9 29 (by decide) rfl rfl (wc wd_717) dX9_gives_93 ?_
    refine g_iload hC dX9_gives_96 rfl ?_
    obtain ⟨hb_19, h⟩ := h
    refine g_iald hC 0 rfl (m_t0 hZ) (by decide) hb_19 dX9_gives_98 ?_
    refine g_subk (ctX9_gives_J99 hC hR hZ ?_ x3 x4 x8 s0 (M 24 x8) x4 M h) (And.intro rfl (And.intro rfl (And.intro rfl (And.intro rfl (And.intro rfl (And.intro rfl (And.intro rfl (And.intro rfl (And.intro rfl trivial)))))))))
    · intro x3_28 x4_29 x8_30 M_31 h
      exact g_subk (hK31 x3_28 x4_29 x8_30 M_31 h) (And.intro rfl (And.intro rfl (And.intro rfl (And.intro rfl (And.intro rfl (And.intro rfl (And.intro rfl (And.intro rfl trivial))))))))
  · replace h := hB hc_18
    clear hA hB
    refine g_iload_n hC dX9_gives_88 rfl rfl ?_
    refine g_goto hC 99 dX9_gives_89 (by decide) ?_
    refine g_subk (ctX9_gives_J99 hC hR hZ ?_ x3 x4 x8 s0 x2 x4 M h) (And.intro rfl (And.intro rfl (And.intro rfl (And.intro rfl (And.intro rfl (And.intro rfl (And.intro rfl (And.intro rfl (And.intro rfl trivial)))))))))
    · intro x3_32 x4_33 x8_34 M_35 h
      exact g_subk (hK31 x3_32 x4_33 x8_34 M_35 h) (And.intro rfl (And.intro rfl (And.intro rfl (And.intro rfl (And.intro rfl (And.intro rfl (And.intro rfl (And.intro rfl trivial))))))))
def fX9_gives_J74  (x1 : Int) (x2 : Int) (x6 : Int) (x7 : Int) (x3 : Int) (x4 : Int) (x8 : Int) (M : gMem) (K31 : Int → Int → Int → gMem → Prop) (Q : Int → gMem → Prop) : Prop :=
  fX9_gives_J75 x1 x2 x6 x7 x3 x4 x8 0 M (fun x3_40 x4_41 x8_42 M_43 => K31 x3_40 x4_41 x8_42 M_43) Q
set_option maxHeartbeats 4000000 in
set_option maxRecDepth 100000 in
theorem ctX9_gives_J74 {y : gY} {z : gZ} {l : Launch}  {x1 : Int} {x2 : Int} {x6 : Int} {x7 : Int} {Q : Int → gMem → Prop} {K31 : Int → Int → Int → gMem → Prop} (hC : gC y z l cX9_gives RX9 10 wX9_gives rmX9_gives) (hR : gRI y z mL .int Q) (hZ : gZm z)  (hK31 : ∀ (x3 : Int) (x4 : Int) (x8 : Int) (M : gMem), K31 x3 x4 x8 M → gW y z mL 31 [some (vr z 0), some (vi x1), some (vi x2), some (vi x3), some (vi x4), none, some (vi x6), some (vi x7), some (vi x8), none] [] M) :
    ∀ (x3 : Int) (x4 : Int) (x8 : Int) (M : gMem), fX9_gives_J74 x1 x2 x6 x7 x3 x4 x8 M K31 Q → gW y z mL 74 [some (vr z 0), some (vi x1), some (vi x2), some (vi x3), some (vi x4), none, some (vi x6), some (vi x7), some (vi x8), none] [] M := by
  intro x3 x4 x8 M h
  replace h : fX9_gives_J75 x1 x2 x6 x7 x3 x4 x8 0 M (fun x3_40 x4_41 x8_42 M_43 => K31 x3_40 x4_41 x8_42 M_43) Q := h
  refine g_iconst hC dX9_gives_74 ?_
  refine g_subk (ctX9_gives_J75 hC hR hZ ?_ x3 x4 x8 0 M h) (And.intro rfl (And.intro rfl (And.intro rfl (And.intro rfl (And.intro rfl (And.intro rfl (And.intro rfl (And.intro rfl trivial))))))))
  · intro x3_40 x4_41 x8_42 M_43 h
    exact g_subk (hK31 x3_40 x4_41 x8_42 M_43 h) (And.intro rfl (And.intro rfl (And.intro rfl (And.intro rfl (And.intro rfl (And.intro rfl (And.intro rfl (And.intro rfl trivial))))))))
def fX9_gives_L31  (x1 : Int) (x2 : Int) (x6 : Int) (x7 : Int) : Nat → Int → Int → Int → gMem → (Int → Int → gMem → Prop) → (Int → gMem → Prop) → Prop
  | 0, _, _, _, _, _, _ => False
  | n31 + 1, x3, x4, x8, M, K129, Q =>
    (rg x8 ∧ rg x7 ∧ (x8 < x7 →
    (rg (x8 + 1) ∧ rg x7 ∧ ((x8 + 1) < x7 →
      ((0 ≤ x8 ∧ x8 < 4800) ∧ ((0 ≤ (x8 + 1) ∧ (x8 + 1) < 4800) ∧ (fX9_pairAt (M 24 x8) (M 24 (x8 + 1)) M (fun r_12 =>
        (rg r_12 ∧ rg x1 ∧ (r_12 = x1 →
        fX9_gives_J75 x1 x2 x6 x7 x3 x4 x8 1 M (fun x3_36 x4_37 x8_38 M_39 => fX9_gives_L31 x1 x2 x6 x7 n31 x3_36 x4_37 x8_38 M_39 K129 Q) Q) ∧
        (¬ r_12 = x1 →
        fX9_gives_J74 x1 x2 x6 x7 x3 x4 x8 M (fun x3_44 x4_45 x8_46 M_47 => fX9_gives_L31 x1 x2 x6 x7 n31 x3_44 x4_45 x8_46 M_47 K129 Q) Q))))))) ∧
      (¬ (x8 + 1) < x7 →
      fX9_gives_J74 x1 x2 x6 x7 x3 x4 x8 M (fun x3_48 x4_49 x8_50 M_51 => fX9_gives_L31 x1 x2 x6 x7 n31 x3_48 x4_49 x8_50 M_51 K129 Q) Q))) ∧
    (¬ x8 < x7 →
    K129 x3 x4 M))
set_option maxHeartbeats 4000000 in
set_option maxRecDepth 100000 in
theorem ctX9_gives_L31 {y : gY} {z : gZ} {l : Launch} {x1 : Int} {x2 : Int} {x6 : Int} {x7 : Int} {Q : Int → gMem → Prop} {K129 : Int → Int → gMem → Prop} (hC : gC y z l cX9_gives RX9 10 wX9_gives rmX9_gives) (hR : gRI y z mL .int Q) (hZ : gZm z)  (hK129 : ∀ (x3 : Int) (x4 : Int) (M : gMem), K129 x3 x4 M → gW y z mL 129 [some (vr z 0), some (vi x1), some (vi x2), some (vi x3), some (vi x4), none, some (vi x6), some (vi x7), none, none] [] M) :
    ∀ (n : Nat) (x3 : Int) (x4 : Int) (x8 : Int) (M : gMem), fX9_gives_L31 x1 x2 x6 x7 n x3 x4 x8 M K129 Q → gW y z mL 31 [some (vr z 0), some (vi x1), some (vi x2), some (vi x3), some (vi x4), none, some (vi x6), some (vi x7), some (vi x8), none] [] M := by
  intro n
  induction n with
  | zero => intro x3 x4 x8 M h; exact False.elim h
  | succ n31 ih =>
    intro x3 x4 x8 M h
    replace h : (rg x8 ∧ rg x7 ∧ (x8 < x7 →
    (rg (x8 + 1) ∧ rg x7 ∧ ((x8 + 1) < x7 →
      ((0 ≤ x8 ∧ x8 < 4800) ∧ ((0 ≤ (x8 + 1) ∧ (x8 + 1) < 4800) ∧ (fX9_pairAt (M 24 x8) (M 24 (x8 + 1)) M (fun r_12 =>
        (rg r_12 ∧ rg x1 ∧ (r_12 = x1 →
        fX9_gives_J75 x1 x2 x6 x7 x3 x4 x8 1 M (fun x3_36 x4_37 x8_38 M_39 => fX9_gives_L31 x1 x2 x6 x7 n31 x3_36 x4_37 x8_38 M_39 K129 Q) Q) ∧
        (¬ r_12 = x1 →
        fX9_gives_J74 x1 x2 x6 x7 x3 x4 x8 M (fun x3_44 x4_45 x8_46 M_47 => fX9_gives_L31 x1 x2 x6 x7 n31 x3_44 x4_45 x8_46 M_47 K129 Q) Q))))))) ∧
      (¬ (x8 + 1) < x7 →
      fX9_gives_J74 x1 x2 x6 x7 x3 x4 x8 M (fun x3_48 x4_49 x8_50 M_51 => fX9_gives_L31 x1 x2 x6 x7 n31 x3_48 x4_49 x8_50 M_51 K129 Q) Q))) ∧
    (¬ x8 < x7 →
    K129 x3 x4 M)) := h
    refine g_iload hC dX9_gives_31 rfl ?_
    refine g_iload hC dX9_gives_33 rfl ?_
    obtain ⟨hr_4, hr_5, hA, hB⟩ := h
    refine g_cge hC 129 hr_4 hr_5 dX9_gives_35 (by decide) (fun hc_6 => ?_) (fun hc_6 => ?_)
    · replace h := hA hc_6
      clear hA hB
      refine g_iload hC dX9_gives_38 rfl ?_
      refine g_iconst hC dX9_gives_40 ?_
      refine g_iadd hC dX9_gives_41 ?_
      refine g_iload hC dX9_gives_42 rfl ?_
      obtain ⟨hr_7, hr_8, hA, hB⟩ := h
      refine g_cge hC 74 hr_7 hr_8 dX9_gives_44 (by decide) (fun hc_9 => ?_) (fun hc_9 => ?_)
      · replace h := hA hc_9
        clear hA hB
        refine g_aload_n hC dX9_gives_47 rfl rfl ?_
        refine g_getr (r := 24) hC rfl (gm_k9 hZ) iwX9 29 (by decide) rfl rfl (wc wd_717) dX9_gives_48 ?_
        refine g_iload hC dX9_gives_51 rfl ?_
        obtain ⟨hb_10, h⟩ := h
        refine g_iald hC 0 rfl (m_t0 hZ) (by decide) hb_10 dX9_gives_53 ?_
        refine g_aload_n hC dX9_gives_54 rfl rfl ?_
        refine g_getr (r := 24) hC rfl (gm_k9 hZ) iwX9 29 (by decide) rfl rfl (wc wd_717) dX9_gives_55 ?_
        refine g_iload hC dX9_gives_58 rfl ?_
        refine g_iconst hC dX9_gives_60 ?_
        refine g_iadd hC dX9_gives_61 ?_
        obtain ⟨hb_11, h⟩ := h
        refine g_iald hC 0 rfl (m_t0 hZ) (by decide) hb_11 dX9_gives_62 ?_
        refine g_calli (g_runS (As := [(vi (M 24 x8)), (vi (M 24 (x8 + 1)))]) (rest := []) hC rfl (ctX9_pairAt hZ  h) (kwX9_pairAt (by decide) (by decide)) (wc wd_978) (wc wd_979) rfl (Nat.le_of_ble_eq_true rfl) rfl dX9_gives_63) (fun r_12 M_13 h => ?_)
        obtain ⟨rfl, h⟩ := h
        refine g_iload_n hC dX9_gives_66 rfl rfl ?_
        obtain ⟨hr_14, hr_15, hA, hB⟩ := h
        refine g_cne hC 74 hr_14 hr_15 dX9_gives_67 (by decide) (fun hc_16 => ?_) (fun hc_16 => ?_)
        · replace h := hA hc_16
          clear hA hB
          refine g_iconst hC dX9_gives_70 ?_
          refine g_goto hC 75 dX9_gives_71 (by decide) ?_
          refine g_subk (ctX9_gives_J75 hC hR hZ ?_ x3 x4 x8 1 M h) (And.intro rfl (And.intro rfl (And.intro rfl (And.intro rfl (And.intro rfl (And.intro rfl (And.intro rfl (And.intro rfl trivial))))))))
          · intro x3_36 x4_37 x8_38 M_39 h
            exact g_subk (ih x3_36 x4_37 x8_38 M_39 h) (And.intro rfl (And.intro rfl (And.intro rfl (And.intro rfl (And.intro rfl (And.intro rfl (And.intro rfl (And.intro rfl trivial))))))))
        · replace h := hB hc_16
          clear hA hB
          refine g_subk (ctX9_gives_J74 hC hR hZ ?_ x3 x4 x8 M h) (And.intro rfl (And.intro rfl (And.intro rfl (And.intro rfl (And.intro rfl (And.intro rfl (And.intro rfl (And.intro rfl trivial))))))))
          · intro x3_44 x4_45 x8_46 M_47 h
            exact g_subk (ih x3_44 x4_45 x8_46 M_47 h) (And.intro rfl (And.intro rfl (And.intro rfl (And.intro rfl (And.intro rfl (And.intro rfl (And.intro rfl (And.intro rfl trivial))))))))
      · replace h := hB hc_9
        clear hA hB
        refine g_subk (ctX9_gives_J74 hC hR hZ ?_ x3 x4 x8 M h) (And.intro rfl (And.intro rfl (And.intro rfl (And.intro rfl (And.intro rfl (And.intro rfl (And.intro rfl (And.intro rfl trivial))))))))
        · intro x3_48 x4_49 x8_50 M_51 h
          exact g_subk (ih x3_48 x4_49 x8_50 M_51 h) (And.intro rfl (And.intro rfl (And.intro rfl (And.intro rfl (And.intro rfl (And.intro rfl (And.intro rfl (And.intro rfl trivial))))))))
    · replace h := hB hc_6
      clear hA hB
      exact g_subk (hK129 x3 x4 M h) (And.intro rfl (And.intro rfl (And.intro rfl (And.intro rfl (And.intro rfl (And.intro rfl (And.intro rfl trivial)))))))
def fX9_gives_L11  (x1 : Int) (x2 : Int) : Nat → Int → Int → Int → Int → gMem → (Int → gMem → Prop) → Prop
  | 0, _, _, _, _, _, _ => False
  | n11 + 1, x3, x4, x5, x6, M, Q =>
    (rg x6 ∧ (x6 < 8 →
    ((0 ≤ x6 ∧ x6 < 8) ∧ ∃ n_57, fX9_gives_L31 x1 x2 x6 (M 25 x6) n_57 x3 x4 x5 M (fun x3_52 x4_53 M_54 =>
      ((0 ≤ x6 ∧ x6 < 8) ∧ ∀ M_56, M_56 = gSt M_54 25 x6 x4_53 → fX9_gives_L11 x1 x2 n11 x3_52 x4_53 (M 25 x6) (x6 + 1) M_56 Q)) Q)) ∧
    (¬ x6 < 8 →
    Q x3 M))
set_option maxHeartbeats 4000000 in
set_option maxRecDepth 100000 in
theorem ctX9_gives_L11 {y : gY} {z : gZ} {l : Launch} {x1 : Int} {x2 : Int} {Q : Int → gMem → Prop}  (hC : gC y z l cX9_gives RX9 10 wX9_gives rmX9_gives) (hR : gRI y z mL .int Q) (hZ : gZm z)  :
    ∀ (n : Nat) (x3 : Int) (x4 : Int) (x5 : Int) (x6 : Int) (M : gMem), fX9_gives_L11 x1 x2 n x3 x4 x5 x6 M Q → gW y z mL 11 [some (vr z 0), some (vi x1), some (vi x2), some (vi x3), some (vi x4), some (vi x5), some (vi x6), none, none, none] [] M := by
  intro n
  induction n with
  | zero => intro x3 x4 x5 x6 M h; exact False.elim h
  | succ n11 ih =>
    intro x3 x4 x5 x6 M h
    replace h : (rg x6 ∧ (x6 < 8 →
    ((0 ≤ x6 ∧ x6 < 8) ∧ ∃ n_57, fX9_gives_L31 x1 x2 x6 (M 25 x6) n_57 x3 x4 x5 M (fun x3_52 x4_53 M_54 =>
      ((0 ≤ x6 ∧ x6 < 8) ∧ ∀ M_56, M_56 = gSt M_54 25 x6 x4_53 → fX9_gives_L11 x1 x2 n11 x3_52 x4_53 (M 25 x6) (x6 + 1) M_56 Q)) Q)) ∧
    (¬ x6 < 8 →
    Q x3 M)) := h
    refine g_iload hC dX9_gives_11 rfl ?_
    refine g_bipush hC dX9_gives_13 (by decide) ?_
    obtain ⟨hr_1, hA, hB⟩ := h
    refine g_cge hC 148 hr_1 (by decide) dX9_gives_15 (by decide) (fun hc_2 => ?_) (fun hc_2 => ?_)
    · replace h := hA hc_2
      clear hA hB
      refine g_aload_n hC dX9_gives_18 rfl rfl ?_
      refine g_getr (r := 25) hC rfl (gm_k9 hZ) iwX9 30 (by decide) rfl rfl (wc wd_718) dX9_gives_19 ?_
      refine g_iload hC dX9_gives_22 rfl ?_
      obtain ⟨hb_3, h⟩ := h
      refine g_iald hC 0 rfl (m_t0 hZ) (by decide) hb_3 dX9_gives_24 ?_
      refine g_istore2 (lc' := [some (vr z 0), some (vi x1), some (vi x2), some (vi x3), some (vi x4), some (vi x5), some (vi x6), some (vi (M 25 x6)), none, none]) hC dX9_gives_25 (Nat.le_of_ble_eq_true rfl) rfl ?_
      refine g_iload hC dX9_gives_27 rfl ?_
      refine g_istore2 (lc' := [some (vr z 0), some (vi x1), some (vi x2), some (vi x3), some (vi x4), some (vi x5), some (vi x6), some (vi (M 25 x6)), some (vi x5), none]) hC dX9_gives_29 (Nat.le_of_ble_eq_true rfl) rfl ?_
      obtain ⟨n_57, h⟩ := h
      refine g_subk (ctX9_gives_L31 hC hR hZ ?_ n_57 x3 x4 x5 M h) (And.intro rfl (And.intro rfl (And.intro rfl (And.intro rfl (And.intro rfl (And.intro rfl (And.intro rfl (And.intro rfl trivial))))))))
      intro x3_52 x4_53 M_54 h
      refine g_iload hC dX9_gives_129 rfl ?_
      refine g_istore2 (lc' := [some (vr z 0), some (vi x1), some (vi x2), some (vi x3_52), some (vi x4_53), some (vi (M 25 x6)), some (vi x6), some (vi (M 25 x6)), none, none]) hC dX9_gives_131 (Nat.le_of_ble_eq_true rfl) rfl ?_
      refine g_aload_n hC dX9_gives_133 rfl rfl ?_
      refine g_getr (r := 25) hC rfl (gm_k9 hZ) iwX9 30 (by decide) rfl rfl (wc wd_718) dX9_gives_134 ?_
      refine g_iload hC dX9_gives_137 rfl ?_
      refine g_iload hC dX9_gives_139 rfl ?_
      obtain ⟨hb_55, h⟩ := h
      obtain ⟨M_56, hM_56⟩ : ∃ M9, M9 = gSt M_54 25 x6 x4_53 := ⟨_, rfl⟩
      replace h := h M_56 hM_56
      refine g_iast hC 0 rfl (m_t0 hZ) (by decide) hb_55 dX9_gives_141 hM_56 ?_
      refine g_iinc2 (lc' := [some (vr z 0), some (vi x1), some (vi x2), some (vi x3_52), some (vi x4_53), some (vi (M 25 x6)), some (vi (x6 + 1)), some (vi (M 25 x6)), none, none]) hC dX9_gives_142 rfl rfl ?_
      refine g_goto hC 11 dX9_gives_145 (by decide) ?_
      exact g_subk (ih x3_52 x4_53 (M 25 x6) (x6 + 1) M_56 h) (And.intro rfl (And.intro rfl (And.intro rfl (And.intro rfl (And.intro rfl (And.intro rfl (And.intro rfl trivial)))))))
    · replace h := hB hc_2
      clear hA hB
      refine g_iload_n hC dX9_gives_148 rfl rfl ?_
      exact g_iret hC hR dX9_gives_149 h
def fX9_gives (x1 : Int) (x2 : Int) (M : gMem) (Q : Int → gMem → Prop) : Prop :=
  ∃ n_58, fX9_gives_L11 x1 x2 n_58 0 0 0 0 M Q
set_option maxHeartbeats 4000000 in
set_option maxRecDepth 100000 in
theorem ctX9_gives {l : Launch} {z : gZ} (hZ : gZm z) {x1 : Int} {x2 : Int}  {M : gMem} {Q : Int → gMem → Prop} (h : fX9_gives x1 x2 M Q) : gMI l z mL yX9_gives wX9_gives rmX9_gives [(vr z 0), (vi x1), (vi x2)] M Q := by
  refine g_metI .int (by decide) rfl rfl (gCat_all (And.intro rfl (And.intro rfl (And.intro rfl trivial)))) (Nat.le_of_ble_eq_true rfl) ?_
  intro y hC hR
  replace h : ∃ n_58, fX9_gives_L11 x1 x2 n_58 0 0 0 0 M Q := h
  refine g_lc (lc' := [some (vr z 0), some (vi x1), some (vi x2), none, none, none, none, none, none, none]) rfl ?_
  refine g_iconst hC dX9_gives_0 ?_
  refine g_istore_n2 (lc' := [some (vr z 0), some (vi x1), some (vi x2), some (vi 0), none, none, none, none, none, none]) hC dX9_gives_1 rfl (Nat.le_of_ble_eq_true rfl) rfl ?_
  refine g_iconst hC dX9_gives_2 ?_
  refine g_istore2 (lc' := [some (vr z 0), some (vi x1), some (vi x2), some (vi 0), some (vi 0), none, none, none, none, none]) hC dX9_gives_3 (Nat.le_of_ble_eq_true rfl) rfl ?_
  refine g_iconst hC dX9_gives_5 ?_
  refine g_istore2 (lc' := [some (vr z 0), some (vi x1), some (vi x2), some (vi 0), some (vi 0), some (vi 0), none, none, none, none]) hC dX9_gives_6 (Nat.le_of_ble_eq_true rfl) rfl ?_
  refine g_iconst hC dX9_gives_8 ?_
  refine g_istore2 (lc' := [some (vr z 0), some (vi x1), some (vi x2), some (vi 0), some (vi 0), some (vi 0), some (vi 0), none, none, none]) hC dX9_gives_9 (Nat.le_of_ble_eq_true rfl) rfl ?_
  obtain ⟨n_58, h⟩ := h
  refine g_subk (ctX9_gives_L11 hC hR hZ  n_58 0 0 0 0 M h) (And.intro rfl (And.intro rfl (And.intro rfl (And.intro rfl (And.intro rfl (And.intro rfl (And.intro rfl trivial)))))))
abbrev wX9_told_ : List Cond := Cond.code yX9_told_ cX9_told_ 1 (some .int) :: gTs
abbrev rmX9_told_ : Room := { frames := 0, cells := 0, slots := 0, locals := 0 }
theorem kwX9_told_ {c0 : Cond} {rm : Room} (h1 : rmX9_told_.frames + 1 ≤ rm.frames) (h2 : 8 + (1 + 11) + rmX9_told_.locals ≤ rm.locals) : gCw (c0 :: gTs) rm yX9_told_ cX9_told_ 1 (some .int) wX9_told_ rmX9_told_ 1 := gCw_of wd_983 wd_49 h1 h2 (by decide +kernel)
def fX9_told_ (x0 : Int) (M : gMem) (Q : Int → Prop) : Prop :=
  (rg x0 ∧ (300 < x0 →
  Q ((x0 + 1000) - 300)) ∧
  (¬ 300 < x0 →
  Q x0))
set_option maxHeartbeats 4000000 in
set_option maxRecDepth 100000 in
theorem ctX9_told_ {l : Launch} {z : gZ} (hZ : gZm z) {x0 : Int}  {M : gMem} {Q : Int → Prop} (h : fX9_told_ x0 M Q) : gMI l z mL yX9_told_ wX9_told_ rmX9_told_ [(vi x0)] M (fun r M' => M = M' ∧ Q r) := by
  refine g_metI .int (by decide) rfl rfl (gCat_all (And.intro rfl trivial)) (Nat.le_of_ble_eq_true rfl) ?_
  intro y hC hR
  replace h : (rg x0 ∧ (300 < x0 →
  Q ((x0 + 1000) - 300)) ∧
  (¬ 300 < x0 →
  Q x0)) := h
  refine g_lc (lc' := [some (vi x0)]) rfl ?_
  refine g_iload_n hC dX9_told__0 rfl rfl ?_
  refine g_sipush hC dX9_told__1 (by decide) ?_
  obtain ⟨hr_1, hA, hB⟩ := h
  refine g_cle hC 19 hr_1 (by decide) dX9_told__4 (by decide) (fun hc_2 => ?_) (fun hc_2 => ?_)
  · replace h := hA hc_2
    clear hA hB
    refine g_iload_n hC dX9_told__7 rfl rfl ?_
    refine g_sipush hC dX9_told__8 (by decide) ?_
    refine g_iadd hC dX9_told__11 ?_
    refine g_sipush hC dX9_told__12 (by decide) ?_
    refine g_isub hC dX9_told__15 ?_
    refine g_goto hC 20 dX9_told__16 (by decide) ?_
    exact g_iret hC hR dX9_told__20 ⟨rfl, h⟩
  · replace h := hB hc_2
    clear hA hB
    refine g_iload_n hC dX9_told__19 rfl rfl ?_
    exact g_iret hC hR dX9_told__20 ⟨rfl, h⟩
abbrev wX9_supers : List Cond := Cond.code yX9_supers cX9_supers 4 (some .int) :: gTs
abbrev rmX9_supers : Room := { frames := 2, cells := 0, slots := 0, locals := 50 }
theorem kwX9_supers {c0 : Cond} {rm : Room} (h1 : rmX9_supers.frames + 1 ≤ rm.frames) (h2 : 8 + (4 + 11) + rmX9_supers.locals ≤ rm.locals) : gCw (c0 :: gTs) rm yX9_supers cX9_supers 4 (some .int) wX9_supers rmX9_supers 0 := gCw_of wd_973 wd_49 h1 h2 (by decide +kernel)
def fX9_supers_L12  (x2 : Int) : Nat → Int → Int → gMem → (Int → gMem → Prop) → (Int → gMem → Prop) → Prop
  | 0, _, _, _, _, _ => False
  | n12 + 1, x1, x3, M, K58, Q =>
    ((0 ≤ x2 ∧ x2 < 8) ∧ (rg ((M 20 x2) % 2) ∧ (((M 20 x2) % 2) = 0 →
    K58 x1 M) ∧
    (¬ ((M 20 x2) % 2) = 0 →
    ((0 ≤ x2 ∧ x2 < 8) ∧ (rg x3 ∧ rg (M 21 x2) ∧ (x3 < (M 21 x2) →
      ((0 ≤ ((600 * x2) + x3) ∧ ((600 * x2) + x3) < 4800) ∧ ((0 ≤ x1 ∧ x1 < 4800) ∧ ∀ M_12, M_12 = gSt M 24 x1 (M 22 ((600 * x2) + x3)) → fX9_supers_L12 x2 n12 (x1 + 1) (x3 + 1) M_12 K58 Q))) ∧
      (¬ x3 < (M 21 x2) →
      K58 x1 M))))))
set_option maxHeartbeats 4000000 in
set_option maxRecDepth 100000 in
theorem ctX9_supers_L12 {y : gY} {z : gZ} {l : Launch} {x2 : Int} {Q : Int → gMem → Prop} {K58 : Int → gMem → Prop} (hC : gC y z l cX9_supers RX9 4 wX9_supers rmX9_supers) (hR : gRI y z mL .int Q) (hZ : gZm z)  (hK58 : ∀ (x1 : Int) (M : gMem), K58 x1 M → gW y z mL 58 [some (vr z 0), some (vi x1), some (vi x2), none] [] M) :
    ∀ (n : Nat) (x1 : Int) (x3 : Int) (M : gMem), fX9_supers_L12 x2 n x1 x3 M K58 Q → gW y z mL 12 [some (vr z 0), some (vi x1), some (vi x2), some (vi x3)] [] M := by
  intro n
  induction n with
  | zero => intro x1 x3 M h; exact False.elim h
  | succ n12 ih =>
    intro x1 x3 M h
    replace h : ((0 ≤ x2 ∧ x2 < 8) ∧ (rg ((M 20 x2) % 2) ∧ (((M 20 x2) % 2) = 0 →
    K58 x1 M) ∧
    (¬ ((M 20 x2) % 2) = 0 →
    ((0 ≤ x2 ∧ x2 < 8) ∧ (rg x3 ∧ rg (M 21 x2) ∧ (x3 < (M 21 x2) →
      ((0 ≤ ((600 * x2) + x3) ∧ ((600 * x2) + x3) < 4800) ∧ ((0 ≤ x1 ∧ x1 < 4800) ∧ ∀ M_12, M_12 = gSt M 24 x1 (M 22 ((600 * x2) + x3)) → fX9_supers_L12 x2 n12 (x1 + 1) (x3 + 1) M_12 K58 Q))) ∧
      (¬ x3 < (M 21 x2) →
      K58 x1 M)))))) := h
    refine g_aload_n hC dX9_supers_12 rfl rfl ?_
    refine g_getr (r := 20) hC rfl (gm_k9 hZ) iwX9 24 (by decide) rfl rfl (wc wd_712) dX9_supers_13 ?_
    refine g_iload_n hC dX9_supers_16 rfl rfl ?_
    obtain ⟨hb_3, h⟩ := h
    refine g_zald hC 1 rfl (m_t2 hZ) (by decide) hb_3 dX9_supers_17 ?_
    obtain ⟨hr_4, hA, hB⟩ := h
    refine g_ieq hC 58 hr_4 dX9_supers_18 (by decide) (fun hc_5 => ?_) (fun hc_5 => ?_)
    · replace h := hA hc_5
      clear hA hB
      exact g_subk (hK58 x1 M h) (And.intro rfl (And.intro rfl (And.intro rfl trivial)))
    · replace h := hB hc_5
      clear hA hB
      refine g_iload_n hC dX9_supers_21 rfl rfl ?_
      refine g_aload_n hC dX9_supers_22 rfl rfl ?_
      refine g_getr (r := 21) hC rfl (gm_k9 hZ) iwX9 25 (by decide) rfl rfl (wc wd_713) dX9_supers_23 ?_
      refine g_iload_n hC dX9_supers_26 rfl rfl ?_
      obtain ⟨hb_6, h⟩ := h
      refine g_iald hC 0 rfl (m_t0 hZ) (by decide) hb_6 dX9_supers_27 ?_
      obtain ⟨hr_7, hr_8, hA, hB⟩ := h
      refine g_cge hC 58 hr_7 hr_8 dX9_supers_28 (by decide) (fun hc_9 => ?_) (fun hc_9 => ?_)
      · replace h := hA hc_9
        clear hA hB
        refine g_aload_n hC dX9_supers_31 rfl rfl ?_
        refine g_getr (r := 24) hC rfl (gm_k9 hZ) iwX9 29 (by decide) rfl rfl (wc wd_717) dX9_supers_32 ?_
        refine g_iload_n hC dX9_supers_35 rfl rfl ?_
        refine g_aload_n hC dX9_supers_36 rfl rfl ?_
        refine g_getr (r := 22) hC rfl (gm_k9 hZ) iwX9 26 (by decide) rfl rfl (wc wd_714) dX9_supers_37 ?_
        refine g_sipush hC dX9_supers_40 (by decide) ?_
        refine g_iload_n hC dX9_supers_43 rfl rfl ?_
        refine g_imul hC dX9_supers_44 ?_
        refine g_iload_n hC dX9_supers_45 rfl rfl ?_
        refine g_iadd hC dX9_supers_46 ?_
        obtain ⟨hb_10, h⟩ := h
        refine g_iald hC 0 rfl (m_t0 hZ) (by decide) hb_10 dX9_supers_47 ?_
        obtain ⟨hb_11, h⟩ := h
        obtain ⟨M_12, hM_12⟩ : ∃ M9, M9 = gSt M 24 x1 (M 22 ((600 * x2) + x3)) := ⟨_, rfl⟩
        replace h := h M_12 hM_12
        refine g_iast hC 0 rfl (m_t0 hZ) (by decide) hb_11 dX9_supers_48 hM_12 ?_
        refine g_iinc2 (lc' := [some (vr z 0), some (vi (x1 + 1)), some (vi x2), some (vi x3)]) hC dX9_supers_49 rfl rfl ?_
        refine g_iinc2 (lc' := [some (vr z 0), some (vi (x1 + 1)), some (vi x2), some (vi (x3 + 1))]) hC dX9_supers_52 rfl rfl ?_
        refine g_goto hC 12 dX9_supers_55 (by decide) ?_
        exact g_subk (ih (x1 + 1) (x3 + 1) M_12 h) (And.intro rfl (And.intro rfl (And.intro rfl (And.intro rfl trivial))))
      · replace h := hB hc_9
        clear hA hB
        exact g_subk (hK58 x1 M h) (And.intro rfl (And.intro rfl (And.intro rfl trivial)))
def fX9_supers_L4  : Nat → Int → Int → gMem → (gMem → Prop) → (Int → gMem → Prop) → Prop
  | 0, _, _, _, _, _ => False
  | n4 + 1, x1, x2, M, K71, Q =>
    (rg x2 ∧ (x2 < 8 →
    ∃ n_17, fX9_supers_L12 x2 n_17 x1 0 M (fun x1_13 M_14 =>
      ((0 ≤ x2 ∧ x2 < 8) ∧ ∀ M_16, M_16 = gSt M_14 25 x2 x1_13 → fX9_supers_L4 n4 x1_13 (x2 + 1) M_16 K71 Q)) Q) ∧
    (¬ x2 < 8 →
    K71 M))
set_option maxHeartbeats 4000000 in
set_option maxRecDepth 100000 in
theorem ctX9_supers_L4 {y : gY} {z : gZ} {l : Launch}  {Q : Int → gMem → Prop} {K71 : gMem → Prop} (hC : gC y z l cX9_supers RX9 4 wX9_supers rmX9_supers) (hR : gRI y z mL .int Q) (hZ : gZm z)  (hK71 : ∀ (M : gMem), K71 M → gW y z mL 71 [some (vr z 0), none, none, none] [] M) :
    ∀ (n : Nat) (x1 : Int) (x2 : Int) (M : gMem), fX9_supers_L4 n x1 x2 M K71 Q → gW y z mL 4 [some (vr z 0), some (vi x1), some (vi x2), none] [] M := by
  intro n
  induction n with
  | zero => intro x1 x2 M h; exact False.elim h
  | succ n4 ih =>
    intro x1 x2 M h
    replace h : (rg x2 ∧ (x2 < 8 →
    ∃ n_17, fX9_supers_L12 x2 n_17 x1 0 M (fun x1_13 M_14 =>
      ((0 ≤ x2 ∧ x2 < 8) ∧ ∀ M_16, M_16 = gSt M_14 25 x2 x1_13 → fX9_supers_L4 n4 x1_13 (x2 + 1) M_16 K71 Q)) Q) ∧
    (¬ x2 < 8 →
    K71 M)) := h
    refine g_iload_n hC dX9_supers_4 rfl rfl ?_
    refine g_bipush hC dX9_supers_5 (by decide) ?_
    obtain ⟨hr_1, hA, hB⟩ := h
    refine g_cge hC 71 hr_1 (by decide) dX9_supers_7 (by decide) (fun hc_2 => ?_) (fun hc_2 => ?_)
    · replace h := hA hc_2
      clear hA hB
      refine g_iconst hC dX9_supers_10 ?_
      refine g_istore_n2 (lc' := [some (vr z 0), some (vi x1), some (vi x2), some (vi 0)]) hC dX9_supers_11 rfl (Nat.le_of_ble_eq_true rfl) rfl ?_
      obtain ⟨n_17, h⟩ := h
      refine g_subk (ctX9_supers_L12 hC hR hZ ?_ n_17 x1 0 M h) (And.intro rfl (And.intro rfl (And.intro rfl (And.intro rfl trivial))))
      intro x1_13 M_14 h
      refine g_aload_n hC dX9_supers_58 rfl rfl ?_
      refine g_getr (r := 25) hC rfl (gm_k9 hZ) iwX9 30 (by decide) rfl rfl (wc wd_718) dX9_supers_59 ?_
      refine g_iload_n hC dX9_supers_62 rfl rfl ?_
      refine g_iload_n hC dX9_supers_63 rfl rfl ?_
      obtain ⟨hb_15, h⟩ := h
      obtain ⟨M_16, hM_16⟩ : ∃ M9, M9 = gSt M_14 25 x2 x1_13 := ⟨_, rfl⟩
      replace h := h M_16 hM_16
      refine g_iast hC 0 rfl (m_t0 hZ) (by decide) hb_15 dX9_supers_64 hM_16 ?_
      refine g_iinc2 (lc' := [some (vr z 0), some (vi x1_13), some (vi (x2 + 1)), none]) hC dX9_supers_65 rfl rfl ?_
      refine g_goto hC 4 dX9_supers_68 (by decide) ?_
      exact g_subk (ih x1_13 (x2 + 1) M_16 h) (And.intro rfl (And.intro rfl (And.intro rfl trivial)))
    · replace h := hB hc_2
      clear hA hB
      exact g_subk (hK71 M h) (And.intro rfl trivial)
def fX9_supers_J107  (x3 : Int) (s0 : Int) (M : gMem) (K78 : Int → gMem → Prop) (Q : Int → gMem → Prop) : Prop :=
  (rg s0 ∧ (s0 = 0 →
  K78 s0 M) ∧
  (¬ s0 = 0 →
  (rg x3 ∧ (fX9_told_ (Int.tdiv x3 512) M (fun r_31 =>
    ((0 ≤ (M 0 33) ∧ (M 0 33) < 200) ∧ ∀ M_34, M_34 = gSt M 28 (M 0 33) r_31 → (rg x3 ∧ (fX9_told_ (Int.tmod x3 512) M_34 (fun r_36 =>
    ((0 ≤ (M_34 0 33) ∧ (M_34 0 33) < 200) ∧ ∀ M_39, M_39 = gSt M_34 29 (M_34 0 33) r_36 → (fX9_gives x3 (301 + (M_39 0 33)) M_39 (fun r_40 M_41 =>
    ((0 ≤ (M_39 0 33) ∧ (M_39 0 33) < 200) ∧ ∀ M_43, M_43 = gSt M_41 30 (M_39 0 33) r_40 → (∀ M_44, M_44 = gSt M_43 0 33 ((M_43 0 33) + 1) → K78 s0 M_44))))))))))))))
set_option maxHeartbeats 4000000 in
set_option maxRecDepth 100000 in
theorem ctX9_supers_J107 {y : gY} {z : gZ} {l : Launch}  {Q : Int → gMem → Prop} {K78 : Int → gMem → Prop} (hC : gC y z l cX9_supers RX9 4 wX9_supers rmX9_supers) (hR : gRI y z mL .int Q) (hZ : gZm z)  (hK78 : ∀ (x2 : Int) (M : gMem), K78 x2 M → gW y z mL 78 [some (vr z 0), none, some (vi x2), none] [] M) :
    ∀ (x3 : Int) (s0 : Int) (M : gMem), fX9_supers_J107 x3 s0 M K78 Q → gW y z mL 107 [some (vr z 0), none, none, some (vi x3)] [(vi s0)] M := by
  intro x3 s0 M h
  replace h : (rg s0 ∧ (s0 = 0 →
  K78 s0 M) ∧
  (¬ s0 = 0 →
  (rg x3 ∧ (fX9_told_ (Int.tdiv x3 512) M (fun r_31 =>
    ((0 ≤ (M 0 33) ∧ (M 0 33) < 200) ∧ ∀ M_34, M_34 = gSt M 28 (M 0 33) r_31 → (rg x3 ∧ (fX9_told_ (Int.tmod x3 512) M_34 (fun r_36 =>
    ((0 ≤ (M_34 0 33) ∧ (M_34 0 33) < 200) ∧ ∀ M_39, M_39 = gSt M_34 29 (M_34 0 33) r_36 → (fX9_gives x3 (301 + (M_39 0 33)) M_39 (fun r_40 M_41 =>
    ((0 ≤ (M_39 0 33) ∧ (M_39 0 33) < 200) ∧ ∀ M_43, M_43 = gSt M_41 30 (M_39 0 33) r_40 → (∀ M_44, M_44 = gSt M_43 0 33 ((M_43 0 33) + 1) → K78 s0 M_44)))))))))))))) := h
  refine g_istore_n2 (lc' := [some (vr z 0), none, some (vi s0), some (vi x3)]) hC dX9_supers_107 rfl (Nat.le_of_ble_eq_true rfl) rfl ?_
  refine g_iload_n hC dX9_supers_108 rfl rfl ?_
  obtain ⟨hr_28, hA, hB⟩ := h
  refine g_ine hC 115 hr_28 dX9_supers_109 (by decide) (fun hc_29 => ?_) (fun hc_29 => ?_)
  · replace h := hA hc_29
    clear hA hB
    refine g_goto hC 78 dX9_supers_112 (by decide) ?_
    exact g_subk (hK78 s0 M h) (And.intro rfl (And.intro rfl trivial))
  · replace h := hB hc_29
    clear hA hB
    refine g_aload_n hC dX9_supers_115 rfl rfl ?_
    refine g_getr (r := 28) hC rfl (gm_k9 hZ) iwX9 34 (by decide) rfl rfl (wc wd_722) dX9_supers_116 ?_
    refine g_aload_n hC dX9_supers_119 rfl rfl ?_
    refine g_geti (ji := 33) hC rfl (gm_k9 hZ) iwX9 33 (by decide) rfl rfl (wc wd_721) dX9_supers_120 rfl ?_
    refine g_iload_n hC dX9_supers_123 rfl rfl ?_
    refine g_sipush hC dX9_supers_124 (by decide) ?_
    obtain ⟨hr_30, h⟩ := h
    refine g_idiv hC hr_30 (by decide) (by decide) dX9_supers_127 ?_
    refine g_calli (g_runS (As := [(vi (Int.tdiv x3 512))]) (rest := [(vi (M 0 33)), (vr z 28)]) hC rfl (ctX9_told_ hZ  h) (kwX9_told_ (by decide) (by decide)) (wc wd_981) (wc wd_982) rfl (Nat.le_of_ble_eq_true rfl) rfl dX9_supers_128) (fun r_31 M_32 h => ?_)
    obtain ⟨rfl, h⟩ := h
    obtain ⟨hb_33, h⟩ := h
    obtain ⟨M_34, hM_34⟩ : ∃ M9, M9 = gSt M 28 (M 0 33) r_31 := ⟨_, rfl⟩
    replace h := h M_34 hM_34
    refine g_iast hC 0 rfl (m_t0 hZ) (by decide) hb_33 dX9_supers_131 hM_34 ?_
    refine g_aload_n hC dX9_supers_132 rfl rfl ?_
    refine g_getr (r := 29) hC rfl (gm_k9 hZ) iwX9 35 (by decide) rfl rfl (wc wd_723) dX9_supers_133 ?_
    refine g_aload_n hC dX9_supers_136 rfl rfl ?_
    refine g_geti (ji := 33) hC rfl (gm_k9 hZ) iwX9 33 (by decide) rfl rfl (wc wd_721) dX9_supers_137 rfl ?_
    refine g_iload_n hC dX9_supers_140 rfl rfl ?_
    refine g_sipush hC dX9_supers_141 (by decide) ?_
    obtain ⟨hr_35, h⟩ := h
    refine g_irem hC hr_35 (by decide) (by decide) dX9_supers_144 ?_
    refine g_calli (g_runS (As := [(vi (Int.tmod x3 512))]) (rest := [(vi (M_34 0 33)), (vr z 29)]) hC rfl (ctX9_told_ hZ  h) (kwX9_told_ (by decide) (by decide)) (wc wd_981) (wc wd_982) rfl (Nat.le_of_ble_eq_true rfl) rfl dX9_supers_145) (fun r_36 M_37 h => ?_)
    obtain ⟨rfl, h⟩ := h
    obtain ⟨hb_38, h⟩ := h
    obtain ⟨M_39, hM_39⟩ : ∃ M9, M9 = gSt M_34 29 (M_34 0 33) r_36 := ⟨_, rfl⟩
    replace h := h M_39 hM_39
    refine g_iast hC 0 rfl (m_t0 hZ) (by decide) hb_38 dX9_supers_148 hM_39 ?_
    refine g_aload_n hC dX9_supers_149 rfl rfl ?_
    refine g_getr (r := 30) hC rfl (gm_k9 hZ) iwX9 36 (by decide) rfl rfl (wc wd_724) dX9_supers_150 ?_
    refine g_aload_n hC dX9_supers_153 rfl rfl ?_
    refine g_geti (ji := 33) hC rfl (gm_k9 hZ) iwX9 33 (by decide) rfl rfl (wc wd_721) dX9_supers_154 rfl ?_
    refine g_aload_n hC dX9_supers_157 rfl rfl ?_
    refine g_iload_n hC dX9_supers_158 rfl rfl ?_
    refine g_sipush hC dX9_supers_159 (by decide) ?_
    refine g_aload_n hC dX9_supers_162 rfl rfl ?_
    refine g_geti (ji := 33) hC rfl (gm_k9 hZ) iwX9 33 (by decide) rfl rfl (wc wd_721) dX9_supers_163 rfl ?_
    refine g_iadd hC dX9_supers_166 ?_
    refine g_calli (g_runV (As := [(vi x3), (vi (301 + (M_39 0 33)))]) (rest := [(vi (M_39 0 33)), (vr z 30)]) hC rfl (ctX9_gives hZ  h) rfl (gm_k9 hZ) (kwX9_gives (by decide) (by decide)) rfl (wc wd_984) (wc wd_986) (wc wd_37) rfl (Nat.le_of_ble_eq_true rfl) rfl dX9_supers_167) (fun r_40 M_41 h => ?_)
    obtain ⟨hb_42, h⟩ := h
    obtain ⟨M_43, hM_43⟩ : ∃ M9, M9 = gSt M_41 30 (M_39 0 33) r_40 := ⟨_, rfl⟩
    replace h := h M_43 hM_43
    refine g_iast hC 0 rfl (m_t0 hZ) (by decide) hb_42 dX9_supers_170 hM_43 ?_
    refine g_aload_n hC dX9_supers_171 rfl rfl ?_
    refine g_dup hC dX9_supers_172 rfl ?_
    refine g_geti (ji := 33) hC rfl (gm_k9 hZ) iwX9 33 (by decide) rfl rfl (wc wd_721) dX9_supers_173 rfl ?_
    refine g_iconst hC dX9_supers_176 ?_
    refine g_iadd hC dX9_supers_177 ?_
    obtain ⟨M_44, hM_44⟩ : ∃ M9, M9 = gSt M_43 0 33 ((M_43 0 33) + 1) := ⟨_, rfl⟩
    replace h := h M_44 hM_44
    refine g_puti (ji := 33) hC rfl (gm_k9 hZ) iwX9 tyX9_ok nmX9 33 (by decide) rfl rfl (wc wd_721) rfl rfl dX9_supers_178 rfl hM_44 ?_
    refine g_goto hC 78 dX9_supers_181 (by decide) ?_
    exact g_subk (hK78 s0 M_44 h) (And.intro rfl (And.intro rfl trivial))
def fX9_supers_L78  : Nat → Int → gMem → (gMem → Prop) → (Int → gMem → Prop) → Prop
  | 0, _, _, _, _ => False
  | n78 + 1, x2, M, K184, Q =>
    (rg x2 ∧ (x2 = 0 →
    K184 M) ∧
    (¬ x2 = 0 →
    (rg (M 0 33) ∧ ((M 0 33) < 200 →
      (fX9_mostOften M (fun r_24 M_25 =>
        (rg r_24 ∧ (r_24 = (-1) →
        fX9_supers_J107 r_24 0 M_25 (fun x2_45 M_46 => fX9_supers_L78 n78 x2_45 M_46 K184 Q) Q) ∧
        (¬ r_24 = (-1) →
        fX9_supers_J107 r_24 1 M_25 (fun x2_47 M_48 => fX9_supers_L78 n78 x2_47 M_48 K184 Q) Q))))) ∧
      (¬ (M 0 33) < 200 →
      K184 M))))
set_option maxHeartbeats 4000000 in
set_option maxRecDepth 100000 in
theorem ctX9_supers_L78 {y : gY} {z : gZ} {l : Launch}  {Q : Int → gMem → Prop} {K184 : gMem → Prop} (hC : gC y z l cX9_supers RX9 4 wX9_supers rmX9_supers) (hR : gRI y z mL .int Q) (hZ : gZm z)  (hK184 : ∀ (M : gMem), K184 M → gW y z mL 184 [some (vr z 0), none, none, none] [] M) :
    ∀ (n : Nat) (x2 : Int) (M : gMem), fX9_supers_L78 n x2 M K184 Q → gW y z mL 78 [some (vr z 0), none, some (vi x2), none] [] M := by
  intro n
  induction n with
  | zero => intro x2 M h; exact False.elim h
  | succ n78 ih =>
    intro x2 M h
    replace h : (rg x2 ∧ (x2 = 0 →
    K184 M) ∧
    (¬ x2 = 0 →
    (rg (M 0 33) ∧ ((M 0 33) < 200 →
      (fX9_mostOften M (fun r_24 M_25 =>
        (rg r_24 ∧ (r_24 = (-1) →
        fX9_supers_J107 r_24 0 M_25 (fun x2_45 M_46 => fX9_supers_L78 n78 x2_45 M_46 K184 Q) Q) ∧
        (¬ r_24 = (-1) →
        fX9_supers_J107 r_24 1 M_25 (fun x2_47 M_48 => fX9_supers_L78 n78 x2_47 M_48 K184 Q) Q))))) ∧
      (¬ (M 0 33) < 200 →
      K184 M)))) := h
    refine g_iload_n hC dX9_supers_78 rfl rfl ?_
    obtain ⟨hr_20, hA, hB⟩ := h
    refine g_ieq hC 184 hr_20 dX9_supers_79 (by decide) (fun hc_21 => ?_) (fun hc_21 => ?_)
    · replace h := hA hc_21
      clear hA hB
      exact g_subk (hK184 M h) (And.intro rfl trivial)
    · replace h := hB hc_21
      clear hA hB
      refine g_aload_n hC dX9_supers_82 rfl rfl ?_
      refine g_geti (ji := 33) hC rfl (gm_k9 hZ) iwX9 33 (by decide) rfl rfl (wc wd_721) dX9_supers_83 rfl ?_
      refine g_sipush hC dX9_supers_86 (by decide) ?_
      obtain ⟨hr_22, hA, hB⟩ := h
      refine g_cge hC 184 hr_22 (by decide) dX9_supers_89 (by decide) (fun hc_23 => ?_) (fun hc_23 => ?_)
      · replace h := hA hc_23
        clear hA hB
        refine g_aload_n hC dX9_supers_92 rfl rfl ?_
        refine g_calli (g_runV (As := []) (rest := []) hC rfl (ctX9_mostOften hZ  h) rfl (gm_k9 hZ) (kwX9_mostOften (by decide) (by decide)) rfl (wc wd_974) (wc wd_976) (wc wd_36) rfl (Nat.le_of_ble_eq_true rfl) rfl dX9_supers_93) (fun r_24 M_25 h => ?_)
        refine g_istore_n2 (lc' := [some (vr z 0), none, some (vi x2), some (vi r_24)]) hC dX9_supers_96 rfl (Nat.le_of_ble_eq_true rfl) rfl ?_
        refine g_iload_n hC dX9_supers_97 rfl rfl ?_
        refine g_iconst hC dX9_supers_98 ?_
        obtain ⟨hr_26, hA, hB⟩ := h
        refine g_ceq hC 106 hr_26 (by decide) dX9_supers_99 (by decide) (fun hc_27 => ?_) (fun hc_27 => ?_)
        · replace h := hA hc_27
          clear hA hB
          refine g_iconst hC dX9_supers_106 ?_
          refine g_subk (ctX9_supers_J107 hC hR hZ ?_ r_24 0 M_25 h) (And.intro rfl (And.intro rfl trivial))
          · intro x2_45 M_46 h
            exact g_subk (ih x2_45 M_46 h) (And.intro rfl (And.intro rfl trivial))
        · replace h := hB hc_27
          clear hA hB
          refine g_iconst hC dX9_supers_102 ?_
          refine g_goto hC 107 dX9_supers_103 (by decide) ?_
          refine g_subk (ctX9_supers_J107 hC hR hZ ?_ r_24 1 M_25 h) (And.intro rfl (And.intro rfl trivial))
          · intro x2_47 M_48 h
            exact g_subk (ih x2_47 M_48 h) (And.intro rfl (And.intro rfl trivial))
      · replace h := hB hc_23
        clear hA hB
        exact g_subk (hK184 M h) (And.intro rfl trivial)
def fX9_supers  (M : gMem) (Q : Int → gMem → Prop) : Prop :=
  ∃ n_52, fX9_supers_L4 n_52 0 0 M (fun M_18 =>
  (∀ M_19, M_19 = gSt M_18 0 33 0 → ∃ n_51, fX9_supers_L78 n_51 1 M_19 (fun M_49 =>
    ((0 ≤ (7 : Int) ∧ (7 : Int) < 8) ∧ Q ((M_49 25 7) + (2 * (M_49 0 33))) M_49)) Q)) Q
set_option maxHeartbeats 4000000 in
set_option maxRecDepth 100000 in
theorem ctX9_supers {l : Launch} {z : gZ} (hZ : gZm z)   {M : gMem} {Q : Int → gMem → Prop} (h : fX9_supers  M Q) : gMI l z mL yX9_supers wX9_supers rmX9_supers [(vr z 0)] M Q := by
  refine g_metI .int (by decide) rfl rfl (gCat_all (And.intro rfl trivial)) (Nat.le_of_ble_eq_true rfl) ?_
  intro y hC hR
  replace h : ∃ n_52, fX9_supers_L4 n_52 0 0 M (fun M_18 =>
  (∀ M_19, M_19 = gSt M_18 0 33 0 → ∃ n_51, fX9_supers_L78 n_51 1 M_19 (fun M_49 =>
    ((0 ≤ (7 : Int) ∧ (7 : Int) < 8) ∧ Q ((M_49 25 7) + (2 * (M_49 0 33))) M_49)) Q)) Q := h
  refine g_lc (lc' := [some (vr z 0), none, none, none]) rfl ?_
  refine g_iconst hC dX9_supers_0 ?_
  refine g_istore_n2 (lc' := [some (vr z 0), some (vi 0), none, none]) hC dX9_supers_1 rfl (Nat.le_of_ble_eq_true rfl) rfl ?_
  refine g_iconst hC dX9_supers_2 ?_
  refine g_istore_n2 (lc' := [some (vr z 0), some (vi 0), some (vi 0), none]) hC dX9_supers_3 rfl (Nat.le_of_ble_eq_true rfl) rfl ?_
  obtain ⟨n_52, h⟩ := h
  refine g_subk (ctX9_supers_L4 hC hR hZ ?_ n_52 0 0 M h) (And.intro rfl (And.intro rfl (And.intro rfl trivial)))
  intro M_18 h
  refine g_aload_n hC dX9_supers_71 rfl rfl ?_
  refine g_iconst hC dX9_supers_72 ?_
  obtain ⟨M_19, hM_19⟩ : ∃ M9, M9 = gSt M_18 0 33 0 := ⟨_, rfl⟩
  replace h := h M_19 hM_19
  refine g_puti (ji := 33) hC rfl (gm_k9 hZ) iwX9 tyX9_ok nmX9 33 (by decide) rfl rfl (wc wd_721) rfl rfl dX9_supers_73 rfl hM_19 ?_
  refine g_iconst hC dX9_supers_76 ?_
  refine g_istore_n2 (lc' := [some (vr z 0), none, some (vi 1), none]) hC dX9_supers_77 rfl (Nat.le_of_ble_eq_true rfl) rfl ?_
  obtain ⟨n_51, h⟩ := h
  refine g_subk (ctX9_supers_L78 hC hR hZ ?_ n_51 1 M_19 h) (And.intro rfl (And.intro rfl trivial))
  intro M_49 h
  refine g_aload_n hC dX9_supers_184 rfl rfl ?_
  refine g_getr (r := 25) hC rfl (gm_k9 hZ) iwX9 30 (by decide) rfl rfl (wc wd_718) dX9_supers_185 ?_
  refine g_bipush hC dX9_supers_188 (by decide) ?_
  obtain ⟨hb_50, h⟩ := h
  refine g_iald hC 0 rfl (m_t0 hZ) (by decide) hb_50 dX9_supers_190 ?_
  refine g_iconst hC dX9_supers_191 ?_
  refine g_aload_n hC dX9_supers_192 rfl rfl ?_
  refine g_geti (ji := 33) hC rfl (gm_k9 hZ) iwX9 33 (by decide) rfl rfl (wc wd_721) dX9_supers_193 rfl ?_
  refine g_imul hC dX9_supers_196 ?_
  refine g_iadd hC dX9_supers_197 ?_
  exact g_iret hC hR dX9_supers_198 h
abbrev wX9_pair : List Cond := Cond.code yX9_pair cX9_pair 3 (some .int) :: gTs
abbrev rmX9_pair : Room := { frames := 0, cells := 0, slots := 0, locals := 0 }
theorem kwX9_pair {c0 : Cond} {rm : Room} (h1 : rmX9_pair.frames + 1 ≤ rm.frames) (h2 : 8 + (3 + 11) + rmX9_pair.locals ≤ rm.locals) : gCw (c0 :: gTs) rm yX9_pair cX9_pair 3 (some .int) wX9_pair rmX9_pair 2 := gCw_of wd_991 wd_49 h1 h2 (by decide +kernel)
def fX9_pair (x1 : Int) (x2 : Int) (M : gMem) (Q : Int → Prop) : Prop :=
  (rg x1 ∧ (x1 < 0 →
  Q (-1)) ∧
  (¬ x1 < 0 →
  (rg x1 ∧ rg (M 0 33) ∧ (x1 < (M 0 33) →
    (rg x2 ∧ (x2 = 0 →
      ((0 ≤ x1 ∧ x1 < 200) ∧ Q (M 28 x1))) ∧
      (¬ x2 = 0 →
      (rg x2 ∧ (x2 = 1 →
        ((0 ≤ x1 ∧ x1 < 200) ∧ Q (M 29 x1))) ∧
        (¬ x2 = 1 →
        (rg x2 ∧ (x2 = 2 →
          ((0 ≤ x1 ∧ x1 < 200) ∧ Q (M 30 x1))) ∧
          (¬ x2 = 2 →
          Q (-1)))))))) ∧
    (¬ x1 < (M 0 33) →
    Q (-1)))))
set_option maxHeartbeats 4000000 in
set_option maxRecDepth 100000 in
theorem ctX9_pair {l : Launch} {z : gZ} (hZ : gZm z) {x1 : Int} {x2 : Int}  {M : gMem} {Q : Int → Prop} (h : fX9_pair x1 x2 M Q) : gMI l z mL yX9_pair wX9_pair rmX9_pair [(vr z 0), (vi x1), (vi x2)] M (fun r M' => M = M' ∧ Q r) := by
  refine g_metI .int (by decide) rfl rfl (gCat_all (And.intro rfl (And.intro rfl (And.intro rfl trivial)))) (Nat.le_of_ble_eq_true rfl) ?_
  intro y hC hR
  replace h : (rg x1 ∧ (x1 < 0 →
  Q (-1)) ∧
  (¬ x1 < 0 →
  (rg x1 ∧ rg (M 0 33) ∧ (x1 < (M 0 33) →
    (rg x2 ∧ (x2 = 0 →
      ((0 ≤ x1 ∧ x1 < 200) ∧ Q (M 28 x1))) ∧
      (¬ x2 = 0 →
      (rg x2 ∧ (x2 = 1 →
        ((0 ≤ x1 ∧ x1 < 200) ∧ Q (M 29 x1))) ∧
        (¬ x2 = 1 →
        (rg x2 ∧ (x2 = 2 →
          ((0 ≤ x1 ∧ x1 < 200) ∧ Q (M 30 x1))) ∧
          (¬ x2 = 2 →
          Q (-1)))))))) ∧
    (¬ x1 < (M 0 33) →
    Q (-1))))) := h
  refine g_lc (lc' := [some (vr z 0), some (vi x1), some (vi x2)]) rfl ?_
  refine g_iload_n hC dX9_pair_0 rfl rfl ?_
  obtain ⟨hr_1, hA, hB⟩ := h
  refine g_ilt hC 12 hr_1 dX9_pair_1 (by decide) (fun hc_2 => ?_) (fun hc_2 => ?_)
  · replace h := hA hc_2
    clear hA hB
    refine g_iconst hC dX9_pair_12 ?_
    exact g_iret hC hR dX9_pair_13 ⟨rfl, h⟩
  · replace h := hB hc_2
    clear hA hB
    refine g_iload_n hC dX9_pair_4 rfl rfl ?_
    refine g_aload_n hC dX9_pair_5 rfl rfl ?_
    refine g_geti (ji := 33) hC rfl (gm_k9 hZ) iwX9 33 (by decide) rfl rfl (wc wd_721) dX9_pair_6 rfl ?_
    obtain ⟨hr_3, hr_4, hA, hB⟩ := h
    refine g_clt hC 14 hr_3 hr_4 dX9_pair_9 (by decide) (fun hc_5 => ?_) (fun hc_5 => ?_)
    · replace h := hA hc_5
      clear hA hB
      refine g_iload_n hC dX9_pair_14 rfl rfl ?_
      obtain ⟨hr_6, hA, hB⟩ := h
      refine g_ine hC 27 hr_6 dX9_pair_15 (by decide) (fun hc_7 => ?_) (fun hc_7 => ?_)
      · replace h := hA hc_7
        clear hA hB
        refine g_aload_n hC dX9_pair_18 rfl rfl ?_
        refine g_getr (r := 28) hC rfl (gm_k9 hZ) iwX9 34 (by decide) rfl rfl (wc wd_722) dX9_pair_19 ?_
        refine g_iload_n hC dX9_pair_22 rfl rfl ?_
        obtain ⟨hb_8, h⟩ := h
        refine g_iald hC 0 rfl (m_t0 hZ) (by decide) hb_8 dX9_pair_23 ?_
        refine g_goto hC 56 dX9_pair_24 (by decide) ?_
        exact g_iret hC hR dX9_pair_56 ⟨rfl, h⟩
      · replace h := hB hc_7
        clear hA hB
        refine g_iload_n hC dX9_pair_27 rfl rfl ?_
        refine g_iconst hC dX9_pair_28 ?_
        obtain ⟨hr_9, hA, hB⟩ := h
        refine g_cne hC 41 hr_9 (by decide) dX9_pair_29 (by decide) (fun hc_10 => ?_) (fun hc_10 => ?_)
        · replace h := hA hc_10
          clear hA hB
          refine g_aload_n hC dX9_pair_32 rfl rfl ?_
          refine g_getr (r := 29) hC rfl (gm_k9 hZ) iwX9 35 (by decide) rfl rfl (wc wd_723) dX9_pair_33 ?_
          refine g_iload_n hC dX9_pair_36 rfl rfl ?_
          obtain ⟨hb_11, h⟩ := h
          refine g_iald hC 0 rfl (m_t0 hZ) (by decide) hb_11 dX9_pair_37 ?_
          refine g_goto hC 56 dX9_pair_38 (by decide) ?_
          exact g_iret hC hR dX9_pair_56 ⟨rfl, h⟩
        · replace h := hB hc_10
          clear hA hB
          refine g_iload_n hC dX9_pair_41 rfl rfl ?_
          refine g_iconst hC dX9_pair_42 ?_
          obtain ⟨hr_12, hA, hB⟩ := h
          refine g_cne hC 55 hr_12 (by decide) dX9_pair_43 (by decide) (fun hc_13 => ?_) (fun hc_13 => ?_)
          · replace h := hA hc_13
            clear hA hB
            refine g_aload_n hC dX9_pair_46 rfl rfl ?_
            refine g_getr (r := 30) hC rfl (gm_k9 hZ) iwX9 36 (by decide) rfl rfl (wc wd_724) dX9_pair_47 ?_
            refine g_iload_n hC dX9_pair_50 rfl rfl ?_
            obtain ⟨hb_14, h⟩ := h
            refine g_iald hC 0 rfl (m_t0 hZ) (by decide) hb_14 dX9_pair_51 ?_
            refine g_goto hC 56 dX9_pair_52 (by decide) ?_
            exact g_iret hC hR dX9_pair_56 ⟨rfl, h⟩
          · replace h := hB hc_13
            clear hA hB
            refine g_iconst hC dX9_pair_55 ?_
            exact g_iret hC hR dX9_pair_56 ⟨rfl, h⟩
    · replace h := hB hc_5
      clear hA hB
      refine g_iconst hC dX9_pair_12 ?_
      exact g_iret hC hR dX9_pair_13 ⟨rfl, h⟩
