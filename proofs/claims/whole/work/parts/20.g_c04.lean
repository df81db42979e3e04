abbrev wX6_putInPlace : List Cond := Cond.code yX6_putInPlace cX6_putInPlace 7 (some .int) :: gTs
abbrev rmX6_putInPlace : Room := { frames := 0, cells := 0, slots := 0, locals := 0 }
theorem kwX6_putInPlace {c0 : Cond} {rm : Room} (h1 : rmX6_putInPlace.frames + 1 ≤ rm.frames) (h2 : 8 + (7 + 11) + rmX6_putInPlace.locals ≤ rm.locals) : gCw (c0 :: gTs) rm yX6_putInPlace cX6_putInPlace 7 (some .int) wX6_putInPlace rmX6_putInPlace 3 := gCw_of wd_671 wd_47 h1 h2 (by decide +kernel)
def fX6_putInPlace_L9  (x1 : Int) (x2 : Int) (x3 : Int) : Nat → Int → Int → Int → gMem → (Int → Int → gMem → Prop) → (Int → gMem → Prop) → Prop
  | 0, _, _, _, _, _, _ => False
  | n9 + 1, x4, x5, x6, M, K93, Q =>
    (rg x6 ∧ rg (M 39 1) ∧ (x6 < (M 39 1) →
    ((0 ≤ x6 ∧ x6 < 4808) ∧ (rg (M 40 x6) ∧ rg x1 ∧ ((M 40 x6) = x1 →
      (rg (x6 + 1) ∧ rg (M 39 1) ∧ ((x6 + 1) < (M 39 1) →
        ((0 ≤ (x6 + 1) ∧ (x6 + 1) < 4808) ∧ (rg (M 40 (x6 + 1)) ∧ rg x2 ∧ ((M 40 (x6 + 1)) = x2 →
          ((0 ≤ x4 ∧ x4 < 4808) ∧ ∀ M_16, M_16 = gSt M 40 x4 x3 → fX6_putInPlace_L9 x1 x2 x3 n9 (x4 + 1) (x5 + 1) ((x6 + 1) + 1) M_16 K93 Q)) ∧
          (¬ (M 40 (x6 + 1)) = x2 →
          ((0 ≤ x6 ∧ x6 < 4808) ∧ ((0 ≤ x4 ∧ x4 < 4808) ∧ ∀ M_19, M_19 = gSt M 40 x4 (M 40 x6) → fX6_putInPlace_L9 x1 x2 x3 n9 (x4 + 1) x5 (x6 + 1) M_19 K93 Q)))))) ∧
        (¬ (x6 + 1) < (M 39 1) →
        ((0 ≤ x6 ∧ x6 < 4808) ∧ ((0 ≤ x4 ∧ x4 < 4808) ∧ ∀ M_22, M_22 = gSt M 40 x4 (M 40 x6) → fX6_putInPlace_L9 x1 x2 x3 n9 (x4 + 1) x5 (x6 + 1) M_22 K93 Q))))) ∧
      (¬ (M 40 x6) = x1 →
      ((0 ≤ x6 ∧ x6 < 4808) ∧ ((0 ≤ x4 ∧ x4 < 4808) ∧ ∀ M_25, M_25 = gSt M 40 x4 (M 40 x6) → fX6_putInPlace_L9 x1 x2 x3 n9 (x4 + 1) x5 (x6 + 1) M_25 K93 Q)))))) ∧
    (¬ x6 < (M 39 1) →
    K93 x4 x5 M))
set_option maxHeartbeats 4000000 in
set_option maxRecDepth 100000 in
theorem ctX6_putInPlace_L9 {y : gY} {z : gZ} {l : Launch} {x1 : Int} {x2 : Int} {x3 : Int} {Q : Int → gMem → Prop} {K93 : Int → Int → gMem → Prop} (hC : gC y z l cX6_putInPlace RX6 7 wX6_putInPlace rmX6_putInPlace) (hR : gRI y z cL .int Q) (hZ : gZc z)  (hK93 : ∀ (x4 : Int) (x5 : Int) (M : gMem), K93 x4 x5 M → gW y z cL 93 [some (vr z 39), none, none, none, some (vi x4), some (vi x5), none] [] M) :
    ∀ (n : Nat) (x4 : Int) (x5 : Int) (x6 : Int) (M : gMem), fX6_putInPlace_L9 x1 x2 x3 n x4 x5 x6 M K93 Q → gW y z cL 9 [some (vr z 39), some (vi x1), some (vi x2), some (vi x3), some (vi x4), some (vi x5), some (vi x6)] [] M := by
  intro n
  induction n with
  | zero => intro x4 x5 x6 M h; exact False.elim h
  | succ n9 ih =>
    intro x4 x5 x6 M h
    replace h : (rg x6 ∧ rg (M 39 1) ∧ (x6 < (M 39 1) →
    ((0 ≤ x6 ∧ x6 < 4808) ∧ (rg (M 40 x6) ∧ rg x1 ∧ ((M 40 x6) = x1 →
      (rg (x6 + 1) ∧ rg (M 39 1) ∧ ((x6 + 1) < (M 39 1) →
        ((0 ≤ (x6 + 1) ∧ (x6 + 1) < 4808) ∧ (rg (M 40 (x6 + 1)) ∧ rg x2 ∧ ((M 40 (x6 + 1)) = x2 →
          ((0 ≤ x4 ∧ x4 < 4808) ∧ ∀ M_16, M_16 = gSt M 40 x4 x3 → fX6_putInPlace_L9 x1 x2 x3 n9 (x4 + 1) (x5 + 1) ((x6 + 1) + 1) M_16 K93 Q)) ∧
          (¬ (M 40 (x6 + 1)) = x2 →
          ((0 ≤ x6 ∧ x6 < 4808) ∧ ((0 ≤ x4 ∧ x4 < 4808) ∧ ∀ M_19, M_19 = gSt M 40 x4 (M 40 x6) → fX6_putInPlace_L9 x1 x2 x3 n9 (x4 + 1) x5 (x6 + 1) M_19 K93 Q)))))) ∧
        (¬ (x6 + 1) < (M 39 1) →
        ((0 ≤ x6 ∧ x6 < 4808) ∧ ((0 ≤ x4 ∧ x4 < 4808) ∧ ∀ M_22, M_22 = gSt M 40 x4 (M 40 x6) → fX6_putInPlace_L9 x1 x2 x3 n9 (x4 + 1) x5 (x6 + 1) M_22 K93 Q))))) ∧
      (¬ (M 40 x6) = x1 →
      ((0 ≤ x6 ∧ x6 < 4808) ∧ ((0 ≤ x4 ∧ x4 < 4808) ∧ ∀ M_25, M_25 = gSt M 40 x4 (M 40 x6) → fX6_putInPlace_L9 x1 x2 x3 n9 (x4 + 1) x5 (x6 + 1) M_25 K93 Q)))))) ∧
    (¬ x6 < (M 39 1) →
    K93 x4 x5 M)) := h
    refine g_iload hC dX6_putInPlace_9 rfl ?_
    refine g_aload_n hC dX6_putInPlace_11 rfl rfl ?_
    refine g_geti (ji := 1) hC rfl (gc_k6 hZ) iwX6 1 (by decide) rfl rfl (wc wd_271) dX6_putInPlace_12 rfl ?_
    obtain ⟨hr_1, hr_2, hA, hB⟩ := h
    refine g_cge hC 93 hr_1 hr_2 dX6_putInPlace_15 (by decide) (fun hc_3 => ?_) (fun hc_3 => ?_)
    · replace h := hA hc_3
      clear hA hB
      refine g_aload_n hC dX6_putInPlace_18 rfl rfl ?_
      refine g_getr (r := 40) hC rfl (gc_k6 hZ) iwX6 0 (by decide) rfl rfl (wc wd_270) dX6_putInPlace_19 ?_
      refine g_iload hC dX6_putInPlace_22 rfl ?_
      obtain ⟨hb_4, h⟩ := h
      refine g_iald hC 0 rfl (c_t0 hZ) (by decide) hb_4 dX6_putInPlace_24 ?_
      refine g_iload_n hC dX6_putInPlace_25 rfl rfl ?_
      obtain ⟨hr_5, hr_6, hA, hB⟩ := h
      refine g_cne hC 70 hr_5 hr_6 dX6_putInPlace_26 (by decide) (fun hc_7 => ?_) (fun hc_7 => ?_)
      · replace h := hA hc_7
        clear hA hB
        refine g_iload hC dX6_putInPlace_29 rfl ?_
        refine g_iconst hC dX6_putInPlace_31 ?_
        refine g_iadd hC dX6_putInPlace_32 ?_
        refine g_aload_n hC dX6_putInPlace_33 rfl rfl ?_
        refine g_geti (ji := 1) hC rfl (gc_k6 hZ) iwX6 1 (by decide) rfl rfl (wc wd_271) dX6_putInPlace_34 rfl ?_
        obtain ⟨hr_8, hr_9, hA, hB⟩ := h
        refine g_cge hC 70 hr_8 hr_9 dX6_putInPlace_37 (by decide) (fun hc_10 => ?_) (fun hc_10 => ?_)
        · replace h := hA hc_10
          clear hA hB
          refine g_aload_n hC dX6_putInPlace_40 rfl rfl ?_
          refine g_getr (r := 40) hC rfl (gc_k6 hZ) iwX6 0 (by decide) rfl rfl (wc wd_270) dX6_putInPlace_41 ?_
          refine g_iload hC dX6_putInPlace_44 rfl ?_
          refine g_iconst hC dX6_putInPlace_46 ?_
          refine g_iadd hC dX6_putInPlace_47 ?_
          obtain ⟨hb_11, h⟩ := h
          refine g_iald hC 0 rfl (c_t0 hZ) (by decide) hb_11 dX6_putInPlace_48 ?_
          refine g_iload_n hC dX6_putInPlace_49 rfl rfl ?_
          obtain ⟨hr_12, hr_13, hA, hB⟩ := h
          refine g_cne hC 70 hr_12 hr_13 dX6_putInPlace_50 (by decide) (fun hc_14 => ?_) (fun hc_14 => ?_)
          · replace h := hA hc_14
            clear hA hB
            refine g_aload_n hC dX6_putInPlace_53 rfl rfl ?_
            refine g_getr (r := 40) hC rfl (gc_k6 hZ) iwX6 0 (by decide) rfl rfl (wc wd_270) dX6_putInPlace_54 ?_
            refine g_iload hC dX6_putInPlace_57 rfl ?_
            refine g_iload_n hC dX6_putInPlace_59 rfl rfl ?_
            obtain ⟨hb_15, h⟩ := h
            obtain ⟨M_16, hM_16⟩ : ∃ M9, M9 = gSt M 40 x4 x3 := ⟨_, rfl⟩
            replace h := h M_16 hM_16
            refine g_iast hC 0 rfl (c_t0 hZ) (by decide) hb_15 dX6_putInPlace_60 hM_16 ?_
            refine g_iinc2 (lc' := [some (vr z 39), some (vi x1), some (vi x2), some (vi x3), some (vi x4), some (vi (x5 + 1)), some (vi x6)]) hC dX6_putInPlace_61 rfl rfl ?_
            refine g_iinc2 (lc' := [some (vr z 39), some (vi x1), some (vi x2), some (vi x3), some (vi x4), some (vi (x5 + 1)), some (vi (x6 + 1))]) hC dX6_putInPlace_64 rfl rfl ?_
            refine g_goto hC 84 dX6_putInPlace_67 (by decide) ?_
            refine g_iinc2 (lc' := [some (vr z 39), some (vi x1), some (vi x2), some (vi x3), some (vi (x4 + 1)), some (vi (x5 + 1)), some (vi (x6 + 1))]) hC dX6_putInPlace_84 rfl rfl ?_
            refine g_iinc2 (lc' := [some (vr z 39), some (vi x1), some (vi x2), some (vi x3), some (vi (x4 + 1)), some (vi (x5 + 1)), some (vi ((x6 + 1) + 1))]) hC dX6_putInPlace_87 rfl rfl ?_
            refine g_goto hC 9 dX6_putInPlace_90 (by decide) ?_
            exact g_subk (ih (x4 + 1) (x5 + 1) ((x6 + 1) + 1) M_16 h) (And.intro rfl (And.intro rfl (And.intro rfl (And.intro rfl (And.intro rfl (And.intro rfl (And.intro rfl trivial)))))))
          · replace h := hB hc_14
            clear hA hB
            refine g_aload_n hC dX6_putInPlace_70 rfl rfl ?_
            refine g_getr (r := 40) hC rfl (gc_k6 hZ) iwX6 0 (by decide) rfl rfl (wc wd_270) dX6_putInPlace_71 ?_
            refine g_iload hC dX6_putInPlace_74 rfl ?_
            refine g_aload_n hC dX6_putInPlace_76 rfl rfl ?_
            refine g_getr (r := 40) hC rfl (gc_k6 hZ) iwX6 0 (by decide) rfl rfl (wc wd_270) dX6_putInPlace_77 ?_
            refine g_iload hC dX6_putInPlace_80 rfl ?_
            obtain ⟨hb_17, h⟩ := h
            refine g_iald hC 0 rfl (c_t0 hZ) (by decide) hb_17 dX6_putInPlace_82 ?_
            obtain ⟨hb_18, h⟩ := h
            obtain ⟨M_19, hM_19⟩ : ∃ M9, M9 = gSt M 40 x4 (M 40 x6) := ⟨_, rfl⟩
            replace h := h M_19 hM_19
            refine g_iast hC 0 rfl (c_t0 hZ) (by decide) hb_18 dX6_putInPlace_83 hM_19 ?_
            refine g_iinc2 (lc' := [some (vr z 39), some (vi x1), some (vi x2), some (vi x3), some (vi (x4 + 1)), some (vi x5), some (vi x6)]) hC dX6_putInPlace_84 rfl rfl ?_
            refine g_iinc2 (lc' := [some (vr z 39), some (vi x1), some (vi x2), some (vi x3), some (vi (x4 + 1)), some (vi x5), some (vi (x6 + 1))]) hC dX6_putInPlace_87 rfl rfl ?_
            refine g_goto hC 9 dX6_putInPlace_90 (by decide) ?_
            exact g_subk (ih (x4 + 1) x5 (x6 + 1) M_19 h) (And.intro rfl (And.intro rfl (And.intro rfl (And.intro rfl (And.intro rfl (And.intro rfl (And.intro rfl trivial)))))))
        · replace h := hB hc_10
          clear hA hB
          refine g_aload_n hC dX6_putInPlace_70 rfl rfl ?_
          refine g_getr (r := 40) hC rfl (gc_k6 hZ) iwX6 0 (by decide) rfl rfl (wc wd_270) dX6_putInPlace_71 ?_
          refine g_iload hC dX6_putInPlace_74 rfl ?_
          refine g_aload_n hC dX6_putInPlace_76 rfl rfl ?_
          refine g_getr (r := 40) hC rfl (gc_k6 hZ) iwX6 0 (by decide) rfl rfl (wc wd_270) dX6_putInPlace_77 ?_
          refine g_iload hC dX6_putInPlace_80 rfl ?_
          obtain ⟨hb_20, h⟩ := h
          refine g_iald hC 0 rfl (c_t0 hZ) (by decide) hb_20 dX6_putInPlace_82 ?_
          obtain ⟨hb_21, h⟩ := h
          obtain ⟨M_22, hM_22⟩ : ∃ M9, M9 = gSt M 40 x4 (M 40 x6) := ⟨_, rfl⟩
          replace h := h M_22 hM_22
          refine g_iast hC 0 rfl (c_t0 hZ) (by decide) hb_21 dX6_putInPlace_83 hM_22 ?_
          refine g_iinc2 (lc' := [some (vr z 39), some (vi x1), some (vi x2), some (vi x3), some (vi (x4 + 1)), some (vi x5), some (vi x6)]) hC dX6_putInPlace_84 rfl rfl ?_
          refine g_iinc2 (lc' := [some (vr z 39), some (vi x1), some (vi x2), some (vi x3), some (vi (x4 + 1)), some (vi x5), some (vi (x6 + 1))]) hC dX6_putInPlace_87 rfl rfl ?_
          refine g_goto hC 9 dX6_putInPlace_90 (by decide) ?_
          exact g_subk (ih (x4 + 1) x5 (x6 + 1) M_22 h) (And.intro rfl (And.intro rfl (And.intro rfl (And.intro rfl (And.intro rfl (And.intro rfl (And.intro rfl trivial)))))))
      · replace h := hB hc_7
        clear hA hB
        refine g_aload_n hC dX6_putInPlace_70 rfl rfl ?_
        refine g_getr (r := 40) hC rfl (gc_k6 hZ) iwX6 0 (by decide) rfl rfl (wc wd_270) dX6_putInPlace_71 ?_
        refine g_iload hC dX6_putInPlace_74 rfl ?_
        refine g_aload_n hC dX6_putInPlace_76 rfl rfl ?_
        refine g_getr (r := 40) hC rfl (gc_k6 hZ) iwX6 0 (by decide) rfl rfl (wc wd_270) dX6_putInPlace_77 ?_
        refine g_iload hC dX6_putInPlace_80 rfl ?_
        obtain ⟨hb_23, h⟩ := h
        refine g_iald hC 0 rfl (c_t0 hZ) (by decide) hb_23 dX6_putInPlace_82 ?_
        obtain ⟨hb_24, h⟩ := h
        obtain ⟨M_25, hM_25⟩ : ∃ M9, M9 = gSt M 40 x4 (M 40 x6) := ⟨_, rfl⟩
        replace h := h M_25 hM_25
        refine g_iast hC 0 rfl (c_t0 hZ) (by decide) hb_24 dX6_putInPlace_83 hM_25 ?_
        refine g_iinc2 (lc' := [some (vr z 39), some (vi x1), some (vi x2), some (vi x3), some (vi (x4 + 1)), some (vi x5), some (vi x6)]) hC dX6_putInPlace_84 rfl rfl ?_
        refine g_iinc2 (lc' := [some (vr z 39), some (vi x1), some (vi x2), some (vi x3), some (vi (x4 + 1)), some (vi x5), some (vi (x6 + 1))]) hC dX6_putInPlace_87 rfl rfl ?_
        refine g_goto hC 9 dX6_putInPlace_90 (by decide) ?_
        exact g_subk (ih (x4 + 1) x5 (x6 + 1) M_25 h) (And.intro rfl (And.intro rfl (And.intro rfl (And.intro rfl (And.intro rfl (And.intro rfl (And.intro rfl trivial)))))))
    · replace h := hB hc_3
      clear hA hB
      exact g_subk (hK93 x4 x5 M h) (And.intro rfl (And.intro rfl (And.intro rfl trivial)))
def fX6_putInPlace (x1 : Int) (x2 : Int) (x3 : Int) (M : gMem) (Q : Int → gMem → Prop) : Prop :=
  ∃ n_30, fX6_putInPlace_L9 x1 x2 x3 n_30 0 0 0 M (fun x4_26 x5_27 M_28 =>
  (∀ M_29, M_29 = gSt M_28 39 1 x4_26 → Q x5_27 M_29)) Q
set_option maxHeartbeats 4000000 in
set_option maxRecDepth 100000 in
theorem ctX6_putInPlace {l : Launch} {z : gZ} (hZ : gZc z) {x1 : Int} {x2 : Int} {x3 : Int}  {M : gMem} {Q : Int → gMem → Prop} (h : fX6_putInPlace x1 x2 x3 M Q) : gMI l z cL yX6_putInPlace wX6_putInPlace rmX6_putInPlace [(vr z 39), (vi x1), (vi x2), (vi x3)] M Q := by
  refine g_metI .int (by decide) rfl rfl (gCat_all (And.intro rfl (And.intro rfl (And.intro rfl (And.intro rfl trivial))))) (Nat.le_of_ble_eq_true rfl) ?_
  intro y hC hR
  replace h : ∃ n_30, fX6_putInPlace_L9 x1 x2 x3 n_30 0 0 0 M (fun x4_26 x5_27 M_28 =>
  (∀ M_29, M_29 = gSt M_28 39 1 x4_26 → Q x5_27 M_29)) Q := h
  refine g_lc (lc' := [some (vr z 39), some (vi x1), some (vi x2), some (vi x3), none, none, none]) rfl ?_
  refine g_iconst hC dX6_putInPlace_0 ?_
  refine g_istore2 (lc' := [some (vr z 39), some (vi x1), some (vi x2), some (vi x3), some (vi 0), none, none]) hC dX6_putInPlace_1 (Nat.le_of_ble_eq_true rfl) rfl ?_
  refine g_iconst hC dX6_putInPlace_3 ?_
  refine g_istore2 (lc' := [some (vr z 39), some (vi x1), some (vi x2), some (vi x3), some (vi 0), some (vi 0), none]) hC dX6_putInPlace_4 (Nat.le_of_ble_eq_true rfl) rfl ?_
  refine g_iconst hC dX6_putInPlace_6 ?_
  refine g_istore2 (lc' := [some (vr z 39), some (vi x1), some (vi x2), some (vi x3), some (vi 0), some (vi 0), some (vi 0)]) hC dX6_putInPlace_7 (Nat.le_of_ble_eq_true rfl) rfl ?_
  obtain ⟨n_30, h⟩ := h
  refine g_subk (ctX6_putInPlace_L9 hC hR hZ ?_ n_30 0 0 0 M h) (And.intro rfl (And.intro rfl (And.intro rfl (And.intro rfl (And.intro rfl (And.intro rfl (And.intro rfl trivial)))))))
  intro x4_26 x5_27 M_28 h
  refine g_aload_n hC dX6_putInPlace_93 rfl rfl ?_
  refine g_iload hC dX6_putInPlace_94 rfl ?_
  obtain ⟨M_29, hM_29⟩ : ∃ M9, M9 = gSt M_28 39 1 x4_26 := ⟨_, rfl⟩
  replace h := h M_29 hM_29
  refine g_puti (ji := 1) hC rfl (gc_k6 hZ) iwX6 tyX6_ok nmX6 1 (by decide) rfl rfl (wc wd_271) rfl rfl dX6_putInPlace_96 rfl hM_29 ?_
  refine g_iload hC dX6_putInPlace_99 rfl ?_
  exact g_iret hC hR dX6_putInPlace_101 h
abbrev wX6_make : List Cond := Cond.code yX6_make cX6_make 2 none :: gTs
abbrev rmX6_make : Room := { frames := 4, cells := 0, slots := 0, locals := 92 }
theorem kwX6_make {c0 : Cond} {rm : Room} (h1 : rmX6_make.frames + 1 ≤ rm.frames) (h2 : 8 + (2 + 11) + rmX6_make.locals ≤ rm.locals) : gCw (c0 :: gTs) rm yX6_make cX6_make 2 none wX6_make rmX6_make 0 := gCw_of wd_650 wd_47 h1 h2 (by decide +kernel)
def fX6_make_L2  : Nat → Int → gMem → (gMem → Prop) → Prop
  | 0, _, _, _ => False
  | n2 + 1, x1, M, Q =>
    (rg x1 ∧ (x1 < 200 →
    (fX6_countPairs M (fun M_3 =>
      (rg (M_3 41 5) ∧ ((M_3 41 5) < 2 →
      Q M_3) ∧
      (¬ (M_3 41 5) < 2 →
      ((0 ≤ x1 ∧ x1 < 200) ∧ ∀ M_7, M_7 = gSt M_3 45 x1 (M_3 41 6) → ((0 ≤ x1 ∧ x1 < 200) ∧ ∀ M_9, M_9 = gSt M_7 46 x1 (M_7 41 7) → ((0 ≤ x1 ∧ x1 < 200) ∧ ((0 ≤ x1 ∧ x1 < 200) ∧ (fX6_putInPlace (M_9 45 x1) (M_9 46 x1) (1001 + x1) M_9 (fun r_12 M_13 =>
        ((0 ≤ x1 ∧ x1 < 200) ∧ ∀ M_15, M_15 = gSt M_13 47 x1 r_12 → (∀ M_16, M_16 = gSt M_15 39 7 ((M_15 39 7) + 1) → fX6_make_L2 n2 (x1 + 1) M_16 Q))))))))))))) ∧
    (¬ x1 < 200 →
    Q M))
set_option maxHeartbeats 4000000 in
set_option maxRecDepth 100000 in
theorem ctX6_make_L2 {y : gY} {z : gZ} {l : Launch}  {Q : gMem → Prop}  (hC : gC y z l cX6_make RX6 2 wX6_make rmX6_make) (hR : gRV y z cL Q) (hZ : gZc z)  :
    ∀ (n : Nat) (x1 : Int) (M : gMem), fX6_make_L2 n x1 M Q → gW y z cL 2 [some (vr z 39), some (vi x1)] [] M := by
  intro n
  induction n with
  | zero => intro x1 M h; exact False.elim h
  | succ n2 ih =>
    intro x1 M h
    replace h : (rg x1 ∧ (x1 < 200 →
    (fX6_countPairs M (fun M_3 =>
      (rg (M_3 41 5) ∧ ((M_3 41 5) < 2 →
      Q M_3) ∧
      (¬ (M_3 41 5) < 2 →
      ((0 ≤ x1 ∧ x1 < 200) ∧ ∀ M_7, M_7 = gSt M_3 45 x1 (M_3 41 6) → ((0 ≤ x1 ∧ x1 < 200) ∧ ∀ M_9, M_9 = gSt M_7 46 x1 (M_7 41 7) → ((0 ≤ x1 ∧ x1 < 200) ∧ ((0 ≤ x1 ∧ x1 < 200) ∧ (fX6_putInPlace (M_9 45 x1) (M_9 46 x1) (1001 + x1) M_9 (fun r_12 M_13 =>
        ((0 ≤ x1 ∧ x1 < 200) ∧ ∀ M_15, M_15 = gSt M_13 47 x1 r_12 → (∀ M_16, M_16 = gSt M_15 39 7 ((M_15 39 7) + 1) → fX6_make_L2 n2 (x1 + 1) M_16 Q))))))))))))) ∧
    (¬ x1 < 200 →
    Q M)) := h
    refine g_iload_n hC dX6_make_2 rfl rfl ?_
    refine g_sipush hC dX6_make_3 (by decide) ?_
    obtain ⟨hr_1, hA, hB⟩ := h
    refine g_cge hC 94 hr_1 (by decide) dX6_make_6 (by decide) (fun hc_2 => ?_) (fun hc_2 => ?_)
    · replace h := hA hc_2
      clear hA hB
      refine g_aload_n hC dX6_make_9 rfl rfl ?_
      refine g_callv (g_runV (As := []) (rest := []) hC rfl (ctX6_countPairs hZ  h) rfl (gc_k6 hZ) (kwX6_countPairs (by decide) (by decide)) rfl (wc wd_651) (wc wd_653) (wc wd_17) rfl (Nat.le_of_ble_eq_true rfl) rfl dX6_make_10) (fun M_3 h => ?_)
      refine g_aload_n hC dX6_make_13 rfl rfl ?_
      refine g_getr (r := 41) hC rfl (gc_k6 hZ) iwX6 3 (by decide) rfl rfl (wc wd_273) dX6_make_14 ?_
      refine g_geti (ji := 5) hC rfl (gc_k3 hZ) iwX3 5 (by decide) rfl rfl (wc wd_248) dX6_make_17 rfl ?_
      refine g_iconst hC dX6_make_20 ?_
      obtain ⟨hr_4, hA, hB⟩ := h
      refine g_cge hC 25 hr_4 (by decide) dX6_make_21 (by decide) (fun hc_5 => ?_) (fun hc_5 => ?_)
      · replace h := hA hc_5
        clear hA hB
        exact g_vret hC hR dX6_make_24 h
      · replace h := hB hc_5
        clear hA hB
        refine g_aload_n hC dX6_make_25 rfl rfl ?_
        refine g_getr (r := 45) hC rfl (gc_k6 hZ) iwX6 4 (by decide) rfl rfl (wc wd_274) dX6_make_26 ?_
        refine g_iload_n hC dX6_make_29 rfl rfl ?_
        refine g_aload_n hC dX6_make_30 rfl rfl ?_
        refine g_getr (r := 41) hC rfl (gc_k6 hZ) iwX6 3 (by decide) rfl rfl (wc wd_273) dX6_make_31 ?_
        refine g_geti (ji := 6) hC rfl (gc_k3 hZ) iwX3 6 (by decide) rfl rfl (wc wd_250) dX6_make_34 rfl ?_
        obtain ⟨hb_6, h⟩ := h
        obtain ⟨M_7, hM_7⟩ : ∃ M9, M9 = gSt M_3 45 x1 (M_3 41 6) := ⟨_, rfl⟩
        replace h := h M_7 hM_7
        refine g_iast hC 0 rfl (c_t0 hZ) (by decide) hb_6 dX6_make_37 hM_7 ?_
        refine g_aload_n hC dX6_make_38 rfl rfl ?_
        refine g_getr (r := 46) hC rfl (gc_k6 hZ) iwX6 5 (by decide) rfl rfl (wc wd_276) dX6_make_39 ?_
        refine g_iload_n hC dX6_make_42 rfl rfl ?_
        refine g_aload_n hC dX6_make_43 rfl rfl ?_
        refine g_getr (r := 41) hC rfl (gc_k6 hZ) iwX6 3 (by decide) rfl rfl (wc wd_273) dX6_make_44 ?_
        refine g_geti (ji := 7) hC rfl (gc_k3 hZ) iwX3 7 (by decide) rfl rfl (wc wd_252) dX6_make_47 rfl ?_
        obtain ⟨hb_8, h⟩ := h
        obtain ⟨M_9, hM_9⟩ : ∃ M9, M9 = gSt M_7 46 x1 (M_7 41 7) := ⟨_, rfl⟩
        replace h := h M_9 hM_9
        refine g_iast hC 0 rfl (c_t0 hZ) (by decide) hb_8 dX6_make_50 hM_9 ?_
        refine g_aload_n hC dX6_make_51 rfl rfl ?_
        refine g_getr (r := 47) hC rfl (gc_k6 hZ) iwX6 6 (by decide) rfl rfl (wc wd_278) dX6_make_52 ?_
        refine g_iload_n hC dX6_make_55 rfl rfl ?_
        refine g_aload_n hC dX6_make_56 rfl rfl ?_
        refine g_aload_n hC dX6_make_57 rfl rfl ?_
        refine g_getr (r := 45) hC rfl (gc_k6 hZ) iwX6 4 (by decide) rfl rfl (wc wd_274) dX6_make_58 ?_
        refine g_iload_n hC dX6_make_61 rfl rfl ?_
        obtain ⟨hb_10, h⟩ := h
        refine g_iald hC 0 rfl (c_t0 hZ) (by decide) hb_10 dX6_make_62 ?_
        refine g_aload_n hC dX6_make_63 rfl rfl ?_
        refine g_getr (r := 46) hC rfl (gc_k6 hZ) iwX6 5 (by decide) rfl rfl (wc wd_276) dX6_make_64 ?_
        refine g_iload_n hC dX6_make_67 rfl rfl ?_
        obtain ⟨hb_11, h⟩ := h
        refine g_iald hC 0 rfl (c_t0 hZ) (by decide) hb_11 dX6_make_68 ?_
        refine g_sipush hC dX6_make_69 (by decide) ?_
        refine g_iload_n hC dX6_make_72 rfl rfl ?_
        refine g_iadd hC dX6_make_73 ?_
        refine g_calli (g_runV (As := [(vi (M_9 45 x1)), (vi (M_9 46 x1)), (vi (1001 + x1))]) (rest := [(vi x1), (vr z 47)]) hC rfl (ctX6_putInPlace hZ  h) rfl (gc_k6 hZ) (kwX6_putInPlace (by decide) (by decide)) rfl (wc wd_668) (wc wd_670) (wc wd_19) rfl (Nat.le_of_ble_eq_true rfl) rfl dX6_make_74) (fun r_12 M_13 h => ?_)
        obtain ⟨hb_14, h⟩ := h
        obtain ⟨M_15, hM_15⟩ : ∃ M9, M9 = gSt M_13 47 x1 r_12 := ⟨_, rfl⟩
        replace h := h M_15 hM_15
        refine g_iast hC 0 rfl (c_t0 hZ) (by decide) hb_14 dX6_make_77 hM_15 ?_
        refine g_aload_n hC dX6_make_78 rfl rfl ?_
        refine g_dup hC dX6_make_79 rfl ?_
        refine g_geti (ji := 7) hC rfl (gc_k6 hZ) iwX6 7 (by decide) rfl rfl (wc wd_280) dX6_make_80 rfl ?_
        refine g_iconst hC dX6_make_83 ?_
        refine g_iadd hC dX6_make_84 ?_
        obtain ⟨M_16, hM_16⟩ : ∃ M9, M9 = gSt M_15 39 7 ((M_15 39 7) + 1) := ⟨_, rfl⟩
        replace h := h M_16 hM_16
        refine g_puti (ji := 7) hC rfl (gc_k6 hZ) iwX6 tyX6_ok nmX6 7 (by decide) rfl rfl (wc wd_280) rfl rfl dX6_make_85 rfl hM_16 ?_
        refine g_iinc2 (lc' := [some (vr z 39), some (vi (x1 + 1))]) hC dX6_make_88 rfl rfl ?_
        refine g_goto hC 2 dX6_make_91 (by decide) ?_
        exact g_subk (ih (x1 + 1) M_16 h) (And.intro rfl (And.intro rfl trivial))
    · replace h := hB hc_2
      clear hA hB
      exact g_vret hC hR dX6_make_94 h
def fX6_make  (M : gMem) (Q : gMem → Prop) : Prop :=
  ∃ n_17, fX6_make_L2 n_17 0 M Q
set_option maxHeartbeats 4000000 in
set_option maxRecDepth 100000 in
theorem ctX6_make {l : Launch} {z : gZ} (hZ : gZc z)   {M : gMem} {Q : gMem → Prop} (h : fX6_make  M Q) : gMV l z cL yX6_make wX6_make rmX6_make [(vr z 39)] M Q := by
  refine g_metV (by decide) rfl rfl (gCat_all (And.intro rfl trivial)) (Nat.le_of_ble_eq_true rfl) ?_
  intro y hC hR
  replace h : ∃ n_17, fX6_make_L2 n_17 0 M Q := h
  refine g_lc (lc' := [some (vr z 39), none]) rfl ?_
  refine g_iconst hC dX6_make_0 ?_
  refine g_istore_n2 (lc' := [some (vr z 39), some (vi 0)]) hC dX6_make_1 rfl (Nat.le_of_ble_eq_true rfl) rfl ?_
  obtain ⟨n_17, h⟩ := h
  refine g_subk (ctX6_make_L2 hC hR hZ  n_17 0 M h) (And.intro rfl (And.intro rfl trivial))
abbrev wX6_countLeft : List Cond := Cond.code yX6_countLeft cX6_countLeft 1 (some .int) :: gTs
abbrev rmX6_countLeft : Room := { frames := 0, cells := 0, slots := 0, locals := 0 }
theorem kwX6_countLeft {c0 : Cond} {rm : Room} (h1 : rmX6_countLeft.frames + 1 ≤ rm.frames) (h2 : 8 + (1 + 11) + rmX6_countLeft.locals ≤ rm.locals) : gCw (c0 :: gTs) rm yX6_countLeft cX6_countLeft 1 (some .int) wX6_countLeft rmX6_countLeft 0 := gCw_of wd_675 wd_47 h1 h2 (by decide +kernel)
def fX6_countLeft  (M : gMem) (Q : Int → Prop) : Prop :=
  Q (((M 39 1) - (M 39 2)) + (2 * (M 39 7)))
set_option maxHeartbeats 4000000 in
set_option maxRecDepth 100000 in
theorem ctX6_countLeft {l : Launch} {z : gZ} (hZ : gZc z)   {M : gMem} {Q : Int → Prop} (h : fX6_countLeft  M Q) : gMI l z cL yX6_countLeft wX6_countLeft rmX6_countLeft [(vr z 39)] M (fun r M' => M = M' ∧ Q r) := by
  refine g_metI .int (by decide) rfl rfl (gCat_all (And.intro rfl trivial)) (Nat.le_of_ble_eq_true rfl) ?_
  intro y hC hR
  replace h : Q (((M 39 1) - (M 39 2)) + (2 * (M 39 7))) := h
  refine g_lc (lc' := [some (vr z 39)]) rfl ?_
  refine g_aload_n hC dX6_countLeft_0 rfl rfl ?_
  refine g_geti (ji := 1) hC rfl (gc_k6 hZ) iwX6 1 (by decide) rfl rfl (wc wd_271) dX6_countLeft_1 rfl ?_
  refine g_aload_n hC dX6_countLeft_4 rfl rfl ?_
  refine g_geti (ji := 2) hC rfl (gc_k6 hZ) iwX6 2 (by decide) rfl rfl (wc wd_272) dX6_countLeft_5 rfl ?_
  refine g_isub hC dX6_countLeft_8 ?_
  refine g_iconst hC dX6_countLeft_9 ?_
  refine g_aload_n hC dX6_countLeft_10 rfl rfl ?_
  refine g_geti (ji := 7) hC rfl (gc_k6 hZ) iwX6 7 (by decide) rfl rfl (wc wd_280) dX6_countLeft_11 rfl ?_
  refine g_imul hC dX6_countLeft_14 ?_
  refine g_iadd hC dX6_countLeft_15 ?_
  exact g_iret hC hR dX6_countLeft_16 ⟨rfl, h⟩
abbrev wX7_addNumber : List Cond := Cond.code yX7_addNumber cX7_addNumber 3 none :: gTs
abbrev rmX7_addNumber : Room := { frames := 0, cells := 0, slots := 0, locals := 0 }
theorem kwX7_addNumber {c0 : Cond} {rm : Room} (h1 : rmX7_addNumber.frames + 1 ≤ rm.frames) (h2 : 8 + (3 + 11) + rmX7_addNumber.locals ≤ rm.locals) : gCw (c0 :: gTs) rm yX7_addNumber cX7_addNumber 3 none wX7_addNumber rmX7_addNumber 1 := gCw_of wd_337 wd_41 h1 h2 (by decide +kernel)
def fX7_addNumber_L3  (x1 : Int) : Nat → Int → gMem → (gMem → Prop) → Prop
  | 0, _, _, _ => False
  | n3 + 1, x2, M, Q =>
    (rg x2 ∧ (x2 < 0 →
    Q M) ∧
    (¬ x2 < 0 →
    ((0 ≤ x2 ∧ x2 < 32) ∧ ((0 ≤ (M 4 1) ∧ (M 4 1) < 400) ∧ ∀ M_5, M_5 = gSt M 5 (M 4 1) (Int.bmod (ushr x1 x2) 256) → (∀ M_6, M_6 = gSt M_5 4 1 ((M_5 4 1) + 1) → fX7_addNumber_L3 x1 n3 (x2 + (-8)) M_6 Q)))))
set_option maxHeartbeats 4000000 in
set_option maxRecDepth 100000 in
theorem ctX7_addNumber_L3 {y : gY} {z : gZ} {l : Launch} {x1 : Int} {Q : gMem → Prop}  (hC : gC y z l cX7_addNumber RX7 3 wX7_addNumber rmX7_addNumber) (hR : gRV y z cL Q) (hZ : gZc z)  :
    ∀ (n : Nat) (x2 : Int) (M : gMem), fX7_addNumber_L3 x1 n x2 M Q → gW y z cL 3 [some (vr z 4), some (vi x1), some (vi x2)] [] M := by
  intro n
  induction n with
  | zero => intro x2 M h; exact False.elim h
  | succ n3 ih =>
    intro x2 M h
    replace h : (rg x2 ∧ (x2 < 0 →
    Q M) ∧
    (¬ x2 < 0 →
    ((0 ≤ x2 ∧ x2 < 32) ∧ ((0 ≤ (M 4 1) ∧ (M 4 1) < 400) ∧ ∀ M_5, M_5 = gSt M 5 (M 4 1) (Int.bmod (ushr x1 x2) 256) → (∀ M_6, M_6 = gSt M_5 4 1 ((M_5 4 1) + 1) → fX7_addNumber_L3 x1 n3 (x2 + (-8)) M_6 Q))))) := h
    refine g_iload_n hC dX7_addNumber_3 rfl rfl ?_
    obtain ⟨hr_1, hA, hB⟩ := h
    refine g_ilt hC 36 hr_1 dX7_addNumber_4 (by decide) (fun hc_2 => ?_) (fun hc_2 => ?_)
    · replace h := hA hc_2
      clear hA hB
      exact g_vret hC hR dX7_addNumber_36 h
    · replace h := hB hc_2
      clear hA hB
      refine g_aload_n hC dX7_addNumber_7 rfl rfl ?_
      refine g_getr (r := 5) hC rfl (gc_k7 hZ) iwX7 0 (by decide) rfl rfl (wc wd_87) dX7_addNumber_8 ?_
      refine g_aload_n hC dX7_addNumber_11 rfl rfl ?_
      refine g_geti (ji := 1) hC rfl (gc_k7 hZ) iwX7 1 (by decide) rfl rfl (wc wd_90) dX7_addNumber_12 rfl ?_
      refine g_iload_n hC dX7_addNumber_15 rfl rfl ?_
      refine g_iload_n hC dX7_addNumber_16 rfl rfl ?_
      obtain ⟨hr_3, h⟩ := h
      refine g_iushr hC hr_3 dX7_addNumber_17 ?_
      refine g_i2b hC dX7_addNumber_18 ?_
      obtain ⟨hb_4, h⟩ := h
      obtain ⟨M_5, hM_5⟩ : ∃ M9, M9 = gSt M 5 (M 4 1) (Int.bmod (ushr x1 x2) 256) := ⟨_, rfl⟩
      replace h := h M_5 hM_5
      refine g_bast hC 1 rfl (c_t1 hZ) (by decide) hb_4 dX7_addNumber_19 hM_5 ?_
      refine g_aload_n hC dX7_addNumber_20 rfl rfl ?_
      refine g_dup hC dX7_addNumber_21 rfl ?_
      refine g_geti (ji := 1) hC rfl (gc_k7 hZ) iwX7 1 (by decide) rfl rfl (wc wd_90) dX7_addNumber_22 rfl ?_
      refine g_iconst hC dX7_addNumber_25 ?_
      refine g_iadd hC dX7_addNumber_26 ?_
      obtain ⟨M_6, hM_6⟩ : ∃ M9, M9 = gSt M_5 4 1 ((M_5 4 1) + 1) := ⟨_, rfl⟩
      replace h := h M_6 hM_6
      refine g_puti (ji := 1) hC rfl (gc_k7 hZ) iwX7 tyX7_ok nmX7 1 (by decide) rfl rfl (wc wd_90) rfl rfl dX7_addNumber_27 rfl hM_6 ?_
      refine g_iinc2 (lc' := [some (vr z 4), some (vi x1), some (vi (x2 + (-8)))]) hC dX7_addNumber_30 rfl rfl ?_
      refine g_goto hC 3 dX7_addNumber_33 (by decide) ?_
      exact g_subk (ih (x2 + (-8)) M_6 h) (And.intro rfl (And.intro rfl (And.intro rfl trivial)))
def fX7_addNumber (x1 : Int) (M : gMem) (Q : gMem → Prop) : Prop :=
  ∃ n_7, fX7_addNumber_L3 x1 n_7 24 M Q
set_option maxHeartbeats 4000000 in
set_option maxRecDepth 100000 in
theorem ctX7_addNumber {l : Launch} {z : gZ} (hZ : gZc z) {x1 : Int}  {M : gMem} {Q : gMem → Prop} (h : fX7_addNumber x1 M Q) : gMV l z cL yX7_addNumber wX7_addNumber rmX7_addNumber [(vr z 4), (vi x1)] M Q := by
  refine g_metV (by decide) rfl rfl (gCat_all (And.intro rfl (And.intro rfl trivial))) (Nat.le_of_ble_eq_true rfl) ?_
  intro y hC hR
  replace h : ∃ n_7, fX7_addNumber_L3 x1 n_7 24 M Q := h
  refine g_lc (lc' := [some (vr z 4), some (vi x1), none]) rfl ?_
  refine g_bipush hC dX7_addNumber_0 (by decide) ?_
  refine g_istore_n2 (lc' := [some (vr z 4), some (vi x1), some (vi 24)]) hC dX7_addNumber_2 rfl (Nat.le_of_ble_eq_true rfl) rfl ?_
  obtain ⟨n_7, h⟩ := h
  refine g_subk (ctX7_addNumber_L3 hC hR hZ  n_7 24 M h) (And.intro rfl (And.intro rfl (And.intro rfl trivial)))
abbrev wX8_feed : List Cond := Cond.code yX8_feed cX8_feed 6 (some .int) :: gTs
abbrev rmX8_feed : Room := { frames := 1, cells := 0, slots := 0, locals := 22 }
theorem kwX8_feed {c0 : Cond} {rm : Room} (h1 : rmX8_feed.frames + 1 ≤ rm.frames) (h2 : 8 + (6 + 11) + rmX8_feed.locals ≤ rm.locals) : gCw (c0 :: gTs) rm yX8_feed cX8_feed 6 (some .int) wX8_feed rmX8_feed 5 := gCw_of wd_333 wd_39 h1 h2 (by decide +kernel)
def fX8_feed (x1 : Int) (x2 : Int) (x3 : Int) (x4 : Int) (x5 : Int) (M : gMem) (Q : Int → gMem → Prop) : Prop :=
  (rg ((M 4 1) + 20) ∧ (400 < ((M 4 1) + 20) →
  Q (-1) M) ∧
  (¬ 400 < ((M 4 1) + 20) →
  (fX7_addNumber x1 M (fun M_3 =>
    (fX7_addNumber x2 M_3 (fun M_4 =>
    (fX7_addNumber x3 M_4 (fun M_5 =>
    (fX7_addNumber x4 M_5 (fun M_6 =>
    (fX7_addNumber x5 M_6 (fun M_7 =>
    Q (M_7 4 1) M_7))))))))))))
set_option maxHeartbeats 4000000 in
set_option maxRecDepth 100000 in
theorem ctX8_feed {l : Launch} {z : gZ} (hZ : gZc z) {x1 : Int} {x2 : Int} {x3 : Int} {x4 : Int} {x5 : Int}  {M : gMem} {Q : Int → gMem → Prop} (h : fX8_feed x1 x2 x3 x4 x5 M Q) : gMI l z cL yX8_feed wX8_feed rmX8_feed [(vr z 0), (vi x1), (vi x2), (vi x3), (vi x4), (vi x5)] M Q := by
  refine g_metI .int (by decide) rfl rfl (gCat_all (And.intro rfl (And.intro rfl (And.intro rfl (And.intro rfl (And.intro rfl (And.intro rfl trivial))))))) (Nat.le_of_ble_eq_true rfl) ?_
  intro y hC hR
  replace h : (rg ((M 4 1) + 20) ∧ (400 < ((M 4 1) + 20) →
  Q (-1) M) ∧
  (¬ 400 < ((M 4 1) + 20) →
  (fX7_addNumber x1 M (fun M_3 =>
    (fX7_addNumber x2 M_3 (fun M_4 =>
    (fX7_addNumber x3 M_4 (fun M_5 =>
    (fX7_addNumber x4 M_5 (fun M_6 =>
    (fX7_addNumber x5 M_6 (fun M_7 =>
    Q (M_7 4 1) M_7)))))))))))) := h
  refine g_lc (lc' := [some (vr z 0), some (vi x1), some (vi x2), some (vi x3), some (vi x4), some (vi x5)]) rfl ?_
  refine g_aload_n hC dX8_feed_0 rfl rfl ?_
  refine g_getr (r := 4) hC rfl (gc_k8 hZ) iwX8 1 (by decide) rfl rfl (wc wd_300) dX8_feed_1 ?_
  refine g_geti (ji := 1) hC rfl (gc_k7 hZ) iwX7 1 (by decide) rfl rfl (wc wd_89) dX8_feed_4 rfl ?_
  refine g_bipush hC dX8_feed_7 (by decide) ?_
  refine g_iadd hC dX8_feed_9 ?_
  refine g_sipush hC dX8_feed_10 (by decide) ?_
  obtain ⟨hr_1, hA, hB⟩ := h
  refine g_cle hC 18 hr_1 (by decide) dX8_feed_13 (by decide) (fun hc_2 => ?_) (fun hc_2 => ?_)
  · replace h := hA hc_2
    clear hA hB
    refine g_iconst hC dX8_feed_16 ?_
    exact g_iret hC hR dX8_feed_17 h
  · replace h := hB hc_2
    clear hA hB
    refine g_aload_n hC dX8_feed_18 rfl rfl ?_
    refine g_getr (r := 4) hC rfl (gc_k8 hZ) iwX8 1 (by decide) rfl rfl (wc wd_300) dX8_feed_19 ?_
    refine g_iload_n hC dX8_feed_22 rfl rfl ?_
    refine g_callv (g_runV (As := [(vi x1)]) (rest := []) hC rfl (ctX7_addNumber hZ  h) rfl (gc_k7 hZ) (kwX7_addNumber (by decide) (by decide)) rfl (wc wd_334) (wc wd_335) (wc wd_336) rfl (Nat.le_of_ble_eq_true rfl) rfl dX8_feed_23) (fun M_3 h => ?_)
    refine g_aload_n hC dX8_feed_26 rfl rfl ?_
    refine g_getr (r := 4) hC rfl (gc_k8 hZ) iwX8 1 (by decide) rfl rfl (wc wd_300) dX8_feed_27 ?_
    refine g_iload_n hC dX8_feed_30 rfl rfl ?_
    refine g_callv (g_runV (As := [(vi x2)]) (rest := []) hC rfl (ctX7_addNumber hZ  h) rfl (gc_k7 hZ) (kwX7_addNumber (by decide) (by decide)) rfl (wc wd_334) (wc wd_335) (wc wd_336) rfl (Nat.le_of_ble_eq_true rfl) rfl dX8_feed_31) (fun M_4 h => ?_)
    refine g_aload_n hC dX8_feed_34 rfl rfl ?_
    refine g_getr (r := 4) hC rfl (gc_k8 hZ) iwX8 1 (by decide) rfl rfl (wc wd_300) dX8_feed_35 ?_
    refine g_iload_n hC dX8_feed_38 rfl rfl ?_
    refine g_callv (g_runV (As := [(vi x3)]) (rest := []) hC rfl (ctX7_addNumber hZ  h) rfl (gc_k7 hZ) (kwX7_addNumber (by decide) (by decide)) rfl (wc wd_334) (wc wd_335) (wc wd_336) rfl (Nat.le_of_ble_eq_true rfl) rfl dX8_feed_39) (fun M_5 h => ?_)
    refine g_aload_n hC dX8_feed_42 rfl rfl ?_
    refine g_getr (r := 4) hC rfl (gc_k8 hZ) iwX8 1 (by decide) rfl rfl (wc wd_300) dX8_feed_43 ?_
    refine g_iload hC dX8_feed_46 rfl ?_
    refine g_callv (g_runV (As := [(vi x4)]) (rest := []) hC rfl (ctX7_addNumber hZ  h) rfl (gc_k7 hZ) (kwX7_addNumber (by decide) (by decide)) rfl (wc wd_334) (wc wd_335) (wc wd_336) rfl (Nat.le_of_ble_eq_true rfl) rfl dX8_feed_48) (fun M_6 h => ?_)
    refine g_aload_n hC dX8_feed_51 rfl rfl ?_
    refine g_getr (r := 4) hC rfl (gc_k8 hZ) iwX8 1 (by decide) rfl rfl (wc wd_300) dX8_feed_52 ?_
    refine g_iload hC dX8_feed_55 rfl ?_
    refine g_callv (g_runV (As := [(vi x5)]) (rest := []) hC rfl (ctX7_addNumber hZ  h) rfl (gc_k7 hZ) (kwX7_addNumber (by decide) (by decide)) rfl (wc wd_334) (wc wd_335) (wc wd_336) rfl (Nat.le_of_ble_eq_true rfl) rfl dX8_feed_57) (fun M_7 h => ?_)
    refine g_aload_n hC dX8_feed_60 rfl rfl ?_
    refine g_getr (r := 4) hC rfl (gc_k8 hZ) iwX8 1 (by decide) rfl rfl (wc wd_300) dX8_feed_61 ?_
    refine g_geti (ji := 1) hC rfl (gc_k7 hZ) iwX7 1 (by decide) rfl rfl (wc wd_89) dX8_feed_64 rfl ?_
    exact g_iret hC hR dX8_feed_67 h
abbrev wX8_end : List Cond := Cond.code yX8_end cX8_end 2 (some .boolean) :: gTs
abbrev rmX8_end : Room := { frames := 0, cells := 0, slots := 0, locals := 0 }
theorem kwX8_end {c0 : Cond} {rm : Room} (h1 : rmX8_end.frames + 1 ≤ rm.frames) (h2 : 8 + (2 + 11) + rmX8_end.locals ≤ rm.locals) : gCw (c0 :: gTs) rm yX8_end cX8_end 2 (some .boolean) wX8_end rmX8_end 1 := gCw_of wd_341 wd_39 h1 h2 (by decide +kernel)
def fX8_end (x1 : Int) (M : gMem) (Q : Int → gMem → Prop) : Prop :=
  (rg x1 ∧ (x1 < 0 →
  Q 0 M) ∧
  (¬ x1 < 0 →
  (rg x1 ∧ rg (M 4 1) ∧ ((M 4 1) < x1 →
    Q 0 M) ∧
    (¬ (M 4 1) < x1 →
    (∀ M_6, M_6 = gSt M 4 1 x1 → Q 1 M_6)))))
set_option maxHeartbeats 4000000 in
set_option maxRecDepth 100000 in
theorem ctX8_end {l : Launch} {z : gZ} (hZ : gZc z) {x1 : Int}  {M : gMem} {Q : Int → gMem → Prop} (h : fX8_end x1 M Q) : gMI l z cL yX8_end wX8_end rmX8_end [(vr z 0), (vi x1)] M Q := by
  refine g_metI .boolean (by decide) rfl rfl (gCat_all (And.intro rfl (And.intro rfl trivial))) (Nat.le_of_ble_eq_true rfl) ?_
  intro y hC hR
  replace h : (rg x1 ∧ (x1 < 0 →
  Q 0 M) ∧
  (¬ x1 < 0 →
  (rg x1 ∧ rg (M 4 1) ∧ ((M 4 1) < x1 →
    Q 0 M) ∧
    (¬ (M 4 1) < x1 →
    (∀ M_6, M_6 = gSt M 4 1 x1 → Q 1 M_6))))) := h
  refine g_lc (lc' := [some (vr z 0), some (vi x1)]) rfl ?_
  refine g_iload_n hC dX8_end_0 rfl rfl ?_
  obtain ⟨hr_1, hA, hB⟩ := h
  refine g_ilt hC 15 hr_1 dX8_end_1 (by decide) (fun hc_2 => ?_) (fun hc_2 => ?_)
  · replace h := hA hc_2
    clear hA hB
    refine g_iconst hC dX8_end_15 ?_
    exact g_zret hC hR (by decide) dX8_end_16 h
  · replace h := hB hc_2
    clear hA hB
    refine g_iload_n hC dX8_end_4 rfl rfl ?_
    refine g_aload_n hC dX8_end_5 rfl rfl ?_
    refine g_getr (r := 4) hC rfl (gc_k8 hZ) iwX8 1 (by decide) rfl rfl (wc wd_300) dX8_end_6 ?_
    refine g_geti (ji := 1) hC rfl (gc_k7 hZ) iwX7 1 (by decide) rfl rfl (wc wd_89) dX8_end_9 rfl ?_
    obtain ⟨hr_3, hr_4, hA, hB⟩ := h
    refine g_cle hC 17 hr_3 hr_4 dX8_end_12 (by decide) (fun hc_5 => ?_) (fun hc_5 => ?_)
    · replace h := hA hc_5
      clear hA hB
      refine g_iconst hC dX8_end_15 ?_
      exact g_zret hC hR (by decide) dX8_end_16 h
    · replace h := hB hc_5
      clear hA hB
      refine g_aload_n hC dX8_end_17 rfl rfl ?_
      refine g_getr (r := 4) hC rfl (gc_k8 hZ) iwX8 1 (by decide) rfl rfl (wc wd_300) dX8_end_18 ?_
      refine g_iload_n hC dX8_end_21 rfl rfl ?_
      obtain ⟨M_6, hM_6⟩ : ∃ M9, M9 = gSt M 4 1 x1 := ⟨_, rfl⟩
      replace h := h M_6 hM_6
      refine g_puti (ji := 1) hC rfl (gc_k7 hZ) iwX7 tyX7_ok nmX7 1 (by decide) rfl rfl (wc wd_89) rfl rfl dX8_end_22 rfl hM_6 ?_
      refine g_iconst hC dX8_end_25 ?_
      exact g_zret hC hR (by decide) dX8_end_26 h
abbrev wX8_isWithin : List Cond := Cond.code yX8_isWithin cX8_isWithin 3 (some .boolean) :: gTs
abbrev rmX8_isWithin : Room := { frames := 0, cells := 0, slots := 0, locals := 0 }
theorem kwX8_isWithin {c0 : Cond} {rm : Room} (h1 : rmX8_isWithin.frames + 1 ≤ rm.frames) (h2 : 8 + (3 + 11) + rmX8_isWithin.locals ≤ rm.locals) : gCw (c0 :: gTs) rm yX8_isWithin cX8_isWithin 3 (some .boolean) wX8_isWithin rmX8_isWithin 3 := gCw_of wd_351 wd_39 h1 h2 (by decide +kernel)
def fX8_isWithin (x0 : Int) (x1 : Int) (x2 : Int) (M : gMem) (Q : Int → Prop) : Prop :=
  (rg x0 ∧ rg x1 ∧ (x0 < x1 →
  Q 0) ∧
  (¬ x0 < x1 →
  (rg x0 ∧ rg x2 ∧ (x2 < x0 →
    Q 0) ∧
    (¬ x2 < x0 →
    Q 1))))
set_option maxHeartbeats 4000000 in
set_option maxRecDepth 100000 in
theorem ctX8_isWithin {l : Launch} {z : gZ} (hZ : gZc z) {x0 : Int} {x1 : Int} {x2 : Int}  {M : gMem} {Q : Int → Prop} (h : fX8_isWithin x0 x1 x2 M Q) : gMI l z cL yX8_isWithin wX8_isWithin rmX8_isWithin [(vi x0), (vi x1), (vi x2)] M (fun r M' => M = M' ∧ Q r) := by
  refine g_metI .boolean (by decide) rfl rfl (gCat_all (And.intro rfl (And.intro rfl (And.intro rfl trivial)))) (Nat.le_of_ble_eq_true rfl) ?_
  intro y hC hR
  replace h : (rg x0 ∧ rg x1 ∧ (x0 < x1 →
  Q 0) ∧
  (¬ x0 < x1 →
  (rg x0 ∧ rg x2 ∧ (x2 < x0 →
    Q 0) ∧
    (¬ x2 < x0 →
    Q 1)))) := h
  refine g_lc (lc' := [some (vi x0), some (vi x1), some (vi x2)]) rfl ?_
  refine g_iload_n hC dX8_isWithin_0 rfl rfl ?_
  refine g_iload_n hC dX8_isWithin_1 rfl rfl ?_
  obtain ⟨hr_1, hr_2, hA, hB⟩ := h
  refine g_clt hC 14 hr_1 hr_2 dX8_isWithin_2 (by decide) (fun hc_3 => ?_) (fun hc_3 => ?_)
  · replace h := hA hc_3
    clear hA hB
    refine g_iconst hC dX8_isWithin_14 ?_
    exact g_zret hC hR (by decide) dX8_isWithin_15 ⟨rfl, h⟩
  · replace h := hB hc_3
    clear hA hB
    refine g_iload_n hC dX8_isWithin_5 rfl rfl ?_
    refine g_iload_n hC dX8_isWithin_6 rfl rfl ?_
    obtain ⟨hr_4, hr_5, hA, hB⟩ := h
    refine g_cgt hC 14 hr_4 hr_5 dX8_isWithin_7 (by decide) (fun hc_6 => ?_) (fun hc_6 => ?_)
    · replace h := hA hc_6
      clear hA hB
      refine g_iconst hC dX8_isWithin_14 ?_
      exact g_zret hC hR (by decide) dX8_isWithin_15 ⟨rfl, h⟩
    · replace h := hB hc_6
      clear hA hB
      refine g_iconst hC dX8_isWithin_10 ?_
      refine g_goto hC 15 dX8_isWithin_11 (by decide) ?_
      exact g_zret hC hR (by decide) dX8_isWithin_15 ⟨rfl, h⟩
abbrev wX8_isFile : List Cond := Cond.code yX8_isFile cX8_isFile 1 (some .boolean) :: gTs
abbrev rmX8_isFile : Room := { frames := 1, cells := 0, slots := 0, locals := 22 }
theorem kwX8_isFile {c0 : Cond} {rm : Room} (h1 : rmX8_isFile.frames + 1 ≤ rm.frames) (h2 : 8 + (1 + 11) + rmX8_isFile.locals ≤ rm.locals) : gCw (c0 :: gTs) rm yX8_isFile cX8_isFile 1 (some .boolean) wX8_isFile rmX8_isFile 1 := gCw_of wd_348 wd_39 h1 h2 (by decide +kernel)
def fX8_isFile (x0 : Int) (M : gMem) (Q : Int → Prop) : Prop :=
  (fX8_isWithin x0 0 7 M (fun r_1 =>
  (r_1 = 0 ∨ r_1 = 1) ∧ Q r_1))
set_option maxHeartbeats 4000000 in
set_option maxRecDepth 100000 in
theorem ctX8_isFile {l : Launch} {z : gZ} (hZ : gZc z) {x0 : Int}  {M : gMem} {Q : Int → Prop} (h : fX8_isFile x0 M Q) : gMI l z cL yX8_isFile wX8_isFile rmX8_isFile [(vi x0)] M (fun r M' => M = M' ∧ Q r) := by
  refine g_metI .boolean (by decide) rfl rfl (gCat_all (And.intro rfl trivial)) (Nat.le_of_ble_eq_true rfl) ?_
  intro y hC hR
  replace h : (fX8_isWithin x0 0 7 M (fun r_1 =>
  (r_1 = 0 ∨ r_1 = 1) ∧ Q r_1)) := h
  refine g_lc (lc' := [some (vi x0)]) rfl ?_
  refine g_iload_n hC dX8_isFile_0 rfl rfl ?_
  refine g_iconst hC dX8_isFile_1 ?_
  refine g_bipush hC dX8_isFile_2 (by decide) ?_
  refine g_calli (g_runS (As := [(vi x0), (vi 0), (vi 7)]) (rest := []) hC rfl (ctX8_isWithin hZ  h) (kwX8_isWithin (by decide) (by decide)) (wc wd_349) (wc wd_350) rfl (Nat.le_of_ble_eq_true rfl) rfl dX8_isFile_4) (fun r_1 M_2 h => ?_)
  obtain ⟨rfl, h⟩ := h
  exact g_zret hC hR h.1 dX8_isFile_7 ⟨rfl, h.2⟩
abbrev wX8_edit : List Cond := Cond.code yX8_edit cX8_edit 4 (some .int) :: gTs
abbrev rmX8_edit : Room := { frames := 2, cells := 0, slots := 0, locals := 52 }
theorem kwX8_edit {c0 : Cond} {rm : Room} (h1 : rmX8_edit.frames + 1 ≤ rm.frames) (h2 : 8 + (4 + 11) + rmX8_edit.locals ≤ rm.locals) : gCw (c0 :: gTs) rm yX8_edit cX8_edit 4 (some .int) wX8_edit rmX8_edit 3 := gCw_of wd_345 wd_39 h1 h2 (by decide +kernel)
def fX8_edit (x1 : Int) (x2 : Int) (x3 : Int) (M : gMem) (Q : Int → gMem → Prop) : Prop :=
  (fX8_isFile x1 M (fun r_1 =>
  (rg r_1 ∧ (r_1 = 0 →
  Q (-1) M) ∧
  (¬ r_1 = 0 →
  ((0 ≤ x1 ∧ x1 < 8) ∧ (fX8_isWithin x2 0 (M 3 x1) M (fun r_6 =>
    (rg r_6 ∧ (r_6 = 0 →
    Q (-1) M) ∧
    (¬ r_6 = 0 →
    ((0 ≤ x1 ∧ x1 < 8) ∧ (fX8_isWithin x3 0 ((M 3 x1) - x2) M (fun r_11 =>
      (rg r_11 ∧ (r_11 = 0 →
      Q (-1) M) ∧
      (¬ r_11 = 0 →
      ((0 ≤ x1 ∧ x1 < 8) ∧ (rg (((M 3 x1) - x3) + (M 4 1)) ∧ (600 < (((M 3 x1) - x3) + (M 4 1)) →
        Q (-2) M) ∧
        (¬ 600 < (((M 3 x1) - x3) + (M 4 1)) →
        (fX2_replace x1 x2 x3 M (fun M_18 =>
          (∀ M_19, M_19 = gSt M_18 4 1 0 → ((0 ≤ x1 ∧ x1 < 8) ∧ Q (M_19 3 x1) M_19)))))))))))))))))))))
set_option maxHeartbeats 4000000 in
set_option maxRecDepth 100000 in
theorem ctX8_edit {l : Launch} {z : gZ} (hZ : gZc z) {x1 : Int} {x2 : Int} {x3 : Int}  {M : gMem} {Q : Int → gMem → Prop} (h : fX8_edit x1 x2 x3 M Q) : gMI l z cL yX8_edit wX8_edit rmX8_edit [(vr z 0), (vi x1), (vi x2), (vi x3)] M Q := by
  refine g_metI .int (by decide) rfl rfl (gCat_all (And.intro rfl (And.intro rfl (And.intro rfl (And.intro rfl trivial))))) (Nat.le_of_ble_eq_true rfl) ?_
  intro y hC hR
  replace h : (fX8_isFile x1 M (fun r_1 =>
  (rg r_1 ∧ (r_1 = 0 →
  Q (-1) M) ∧
  (¬ r_1 = 0 →
  ((0 ≤ x1 ∧ x1 < 8) ∧ (fX8_isWithin x2 0 (M 3 x1) M (fun r_6 =>
    (rg r_6 ∧ (r_6 = 0 →
    Q (-1) M) ∧
    (¬ r_6 = 0 →
    ((0 ≤ x1 ∧ x1 < 8) ∧ (fX8_isWithin x3 0 ((M 3 x1) - x2) M (fun r_11 =>
      (rg r_11 ∧ (r_11 = 0 →
      Q (-1) M) ∧
      (¬ r_11 = 0 →
      ((0 ≤ x1 ∧ x1 < 8) ∧ (rg (((M 3 x1) - x3) + (M 4 1)) ∧ (600 < (((M 3 x1) - x3) + (M 4 1)) →
        Q (-2) M) ∧
        (¬ 600 < (((M 3 x1) - x3) + (M 4 1)) →
        (fX2_replace x1 x2 x3 M (fun M_18 =>
          (∀ M_19, M_19 = gSt M_18 4 1 0 → ((0 ≤ x1 ∧ x1 < 8) ∧ Q (M_19 3 x1) M_19))))))))))))))))))))) := h
  refine g_lc (lc' := [some (vr z 0), some (vi x1), some (vi x2), some (vi x3)]) rfl ?_
  refine g_iload_n hC dX8_edit_0 rfl rfl ?_
  refine g_calli (g_runS (As := [(vi x1)]) (rest := []) hC rfl (ctX8_isFile hZ  h) (kwX8_isFile (by decide) (by decide)) (wc wd_346) (wc wd_347) rfl (Nat.le_of_ble_eq_true rfl) rfl dX8_edit_1) (fun r_1 M_2 h => ?_)
  obtain ⟨rfl, h⟩ := h
  obtain ⟨hr_3, hA, hB⟩ := h
  refine g_ieq hC 43 hr_3 dX8_edit_4 (by decide) (fun hc_4 => ?_) (fun hc_4 => ?_)
  · replace h := hA hc_4
    clear hA hB
    refine g_iconst hC dX8_edit_43 ?_
    exact g_iret hC hR dX8_edit_44 h
  · replace h := hB hc_4
    clear hA hB
    refine g_iload_n hC dX8_edit_7 rfl rfl ?_
    refine g_iconst hC dX8_edit_8 ?_
    refine g_aload_n hC dX8_edit_9 rfl rfl ?_
    refine g_getr (r := 1) hC rfl (gc_k8 hZ) iwX8 0 (by decide) rfl rfl (wc wd_299) dX8_edit_10 ?_
    refine g_getr (r := 3) hC rfl (gc_k2 hZ) iwX2 1 (by decide) rfl rfl (wc wd_72) dX8_edit_13 ?_
    refine g_iload_n hC dX8_edit_16 rfl rfl ?_
    obtain ⟨hb_5, h⟩ := h
    refine g_iald hC 0 rfl (c_t0 hZ) (by decide) hb_5 dX8_edit_17 ?_
    refine g_calli (g_runS (As := [(vi x2), (vi 0), (vi (M 3 x1))]) (rest := []) hC rfl (ctX8_isWithin hZ  h) (kwX8_isWithin (by decide) (by decide)) (wc wd_349) (wc wd_350) rfl (Nat.le_of_ble_eq_true rfl) rfl dX8_edit_18) (fun r_6 M_7 h => ?_)
    obtain ⟨rfl, h⟩ := h
    obtain ⟨hr_8, hA, hB⟩ := h
    refine g_ieq hC 43 hr_8 dX8_edit_21 (by decide) (fun hc_9 => ?_) (fun hc_9 => ?_)
    · replace h := hA hc_9
      clear hA hB
      refine g_iconst hC dX8_edit_43 ?_
      exact g_iret hC hR dX8_edit_44 h
    · replace h := hB hc_9
      clear hA hB
      refine g_iload_n hC dX8_edit_24 rfl rfl ?_
      refine g_iconst hC dX8_edit_25 ?_
      refine g_aload_n hC dX8_edit_26 rfl rfl ?_
      refine g_getr (r := 1) hC rfl (gc_k8 hZ) iwX8 0 (by decide) rfl rfl (wc wd_299) dX8_edit_27 ?_
      refine g_getr (r := 3) hC rfl (gc_k2 hZ) iwX2 1 (by decide) rfl rfl (wc wd_72) dX8_edit_30 ?_
      refine g_iload_n hC dX8_edit_33 rfl rfl ?_
      obtain ⟨hb_10, h⟩ := h
      refine g_iald hC 0 rfl (c_t0 hZ) (by decide) hb_10 dX8_edit_34 ?_
      refine g_iload_n hC dX8_edit_35 rfl rfl ?_
      refine g_isub hC dX8_edit_36 ?_
      refine g_calli (g_runS (As := [(vi x3), (vi 0), (vi ((M 3 x1) - x2))]) (rest := []) hC rfl (ctX8_isWithin hZ  h) (kwX8_isWithin (by decide) (by decide)) (wc wd_349) (wc wd_350) rfl (Nat.le_of_ble_eq_true rfl) rfl dX8_edit_37) (fun r_11 M_12 h => ?_)
      obtain ⟨rfl, h⟩ := h
      obtain ⟨hr_13, hA, hB⟩ := h
      refine g_ine hC 45 hr_13 dX8_edit_40 (by decide) (fun hc_14 => ?_) (fun hc_14 => ?_)
      · replace h := hA hc_14
        clear hA hB
        refine g_iconst hC dX8_edit_43 ?_
        exact g_iret hC hR dX8_edit_44 h
      · replace h := hB hc_14
        clear hA hB
        refine g_aload_n hC dX8_edit_45 rfl rfl ?_
        refine g_getr (r := 1) hC rfl (gc_k8 hZ) iwX8 0 (by decide) rfl rfl (wc wd_299) dX8_edit_46 ?_
        refine g_getr (r := 3) hC rfl (gc_k2 hZ) iwX2 1 (by decide) rfl rfl (wc wd_72) dX8_edit_49 ?_
        refine g_iload_n hC dX8_edit_52 rfl rfl ?_
        obtain ⟨hb_15, h⟩ := h
        refine g_iald hC 0 rfl (c_t0 hZ) (by decide) hb_15 dX8_edit_53 ?_
        refine g_iload_n hC dX8_edit_54 rfl rfl ?_
        refine g_isub hC dX8_edit_55 ?_
        refine g_aload_n hC dX8_edit_56 rfl rfl ?_
        refine g_getr (r := 4) hC rfl (gc_k8 hZ) iwX8 1 (by decide) rfl rfl (wc wd_300) dX8_edit_57 ?_
        refine g_geti (ji := 1) hC rfl (gc_k7 hZ) iwX7 1 (by decide) rfl rfl (wc wd_89) dX8_edit_60 rfl ?_
        refine g_iadd hC dX8_edit_63 ?_
        refine g_sipush hC dX8_edit_64 (by decide) ?_
        obtain ⟨hr_16, hA, hB⟩ := h
        refine g_cle hC 73 hr_16 (by decide) dX8_edit_67 (by decide) (fun hc_17 => ?_) (fun hc_17 => ?_)
        · replace h := hA hc_17
          clear hA hB
          refine g_bipush hC dX8_edit_70 (by decide) ?_
          exact g_iret hC hR dX8_edit_72 h
        · replace h := hB hc_17
          clear hA hB
          refine g_aload_n hC dX8_edit_73 rfl rfl ?_
          refine g_getr (r := 1) hC rfl (gc_k8 hZ) iwX8 0 (by decide) rfl rfl (wc wd_299) dX8_edit_74 ?_
          refine g_iload_n hC dX8_edit_77 rfl rfl ?_
          refine g_iload_n hC dX8_edit_78 rfl rfl ?_
          refine g_iload_n hC dX8_edit_79 rfl rfl ?_
          refine g_aload_n hC dX8_edit_80 rfl rfl ?_
          refine g_getr (r := 4) hC rfl (gc_k8 hZ) iwX8 1 (by decide) rfl rfl (wc wd_300) dX8_edit_81 ?_
          refine g_callv (g_runV (As := [(vi x1), (vi x2), (vi x3), (vr z 4)]) (rest := []) hC rfl (ctX2_replace hZ  h) rfl (gc_k2 hZ) (kwX2_replace (by decide) (by decide)) rfl (wc wd_352) (wc wd_353) (wc wd_354) rfl (Nat.le_of_ble_eq_true rfl) rfl dX8_edit_84) (fun M_18 h => ?_)
          refine g_aload_n hC dX8_edit_87 rfl rfl ?_
          refine g_getr (r := 4) hC rfl (gc_k8 hZ) iwX8 1 (by decide) rfl rfl (wc wd_300) dX8_edit_88 ?_
          refine g_iconst hC dX8_edit_91 ?_
          obtain ⟨M_19, hM_19⟩ : ∃ M9, M9 = gSt M_18 4 1 0 := ⟨_, rfl⟩
          replace h := h M_19 hM_19
          refine g_puti (ji := 1) hC rfl (gc_k7 hZ) iwX7 tyX7_ok nmX7 1 (by decide) rfl rfl (wc wd_89) rfl rfl dX8_edit_92 rfl hM_19 ?_
          refine g_aload_n hC dX8_edit_95 rfl rfl ?_
          refine g_getr (r := 1) hC rfl (gc_k8 hZ) iwX8 0 (by decide) rfl rfl (wc wd_299) dX8_edit_96 ?_
          refine g_getr (r := 3) hC rfl (gc_k2 hZ) iwX2 1 (by decide) rfl rfl (wc wd_72) dX8_edit_99 ?_
          refine g_iload_n hC dX8_edit_102 rfl rfl ?_
          obtain ⟨hb_20, h⟩ := h
          refine g_iald hC 0 rfl (c_t0 hZ) (by decide) hb_20 dX8_edit_103 ?_
          exact g_iret hC hR dX8_edit_104 h
abbrev wX8_sow : List Cond := Cond.code yX8_sow cX8_sow 7 (some .int) :: gTs
abbrev rmX8_sow : Room := { frames := 2, cells := 0, slots := 0, locals := 43 }
theorem kwX8_sow {c0 : Cond} {rm : Room} (h1 : rmX8_sow.frames + 1 ≤ rm.frames) (h2 : 8 + (7 + 11) + rmX8_sow.locals ≤ rm.locals) : gCw (c0 :: gTs) rm yX8_sow cX8_sow 7 (some .int) wX8_sow rmX8_sow 4 := gCw_of wd_366 wd_39 h1 h2 (by decide +kernel)
def fX8_sow_L55  (x1 : Int) (x2 : Int) (x4 : Int) : Nat → Int → Int → gMem → (gMem → Prop) → (Int → gMem → Prop) → Prop
  | 0, _, _, _, _, _ => False
  | n55 + 1, x5, x6, M, K94, Q =>
    (rg x6 ∧ rg x2 ∧ (x6 < x2 →
    (rg (ushr ((1103515245 * x5) + 12345) 8) ∧ rg x4 ∧ x4 ≠ 0 ∧ (fX2_addByte x1 (Int.tmod (ushr ((1103515245 * x5) + 12345) 8) x4) M (fun M_22 =>
      fX8_sow_L55 x1 x2 x4 n55 ((1103515245 * x5) + 12345) (x6 + 1) M_22 K94 Q)))) ∧
    (¬ x6 < x2 →
    K94 M))
set_option maxHeartbeats 4000000 in
set_option maxRecDepth 100000 in
theorem ctX8_sow_L55 {y : gY} {z : gZ} {l : Launch} {x1 : Int} {x2 : Int} {x4 : Int} {Q : Int → gMem → Prop} {K94 : gMem → Prop} (hC : gC y z l cX8_sow RX8 7 wX8_sow rmX8_sow) (hR : gRI y z cL .int Q) (hZ : gZc z)  (hK94 : ∀ (M : gMem), K94 M → gW y z cL 94 [some (vr z 0), some (vi x1), none, none, none, none, none] [] M) :
    ∀ (n : Nat) (x5 : Int) (x6 : Int) (M : gMem), fX8_sow_L55 x1 x2 x4 n x5 x6 M K94 Q → gW y z cL 55 [some (vr z 0), some (vi x1), some (vi x2), none, some (vi x4), some (vi x5), some (vi x6)] [] M := by
  intro n
  induction n with
  | zero => intro x5 x6 M h; exact False.elim h
  | succ n55 ih =>
    intro x5 x6 M h
    replace h : (rg x6 ∧ rg x2 ∧ (x6 < x2 →
    (rg (ushr ((1103515245 * x5) + 12345) 8) ∧ rg x4 ∧ x4 ≠ 0 ∧ (fX2_addByte x1 (Int.tmod (ushr ((1103515245 * x5) + 12345) 8) x4) M (fun M_22 =>
      fX8_sow_L55 x1 x2 x4 n55 ((1103515245 * x5) + 12345) (x6 + 1) M_22 K94 Q)))) ∧
    (¬ x6 < x2 →
    K94 M)) := h
    refine g_iload hC dX8_sow_55 rfl ?_
    refine g_iload_n hC dX8_sow_57 rfl rfl ?_
    obtain ⟨hr_16, hr_17, hA, hB⟩ := h
    refine g_cge hC 94 hr_16 hr_17 dX8_sow_58 (by decide) (fun hc_18 => ?_) (fun hc_18 => ?_)
    · replace h := hA hc_18
      clear hA hB
      refine g_ldc hC (n := 1103515245) dX8_sow_61 (wc wd_367) (by decide) ?_
      refine g_iload hC dX8_sow_63 rfl ?_
      refine g_imul hC dX8_sow_65 ?_
      refine g_sipush hC dX8_sow_66 (by decide) ?_
      refine g_iadd hC dX8_sow_69 ?_
      refine g_istore2 (lc' := [some (vr z 0), some (vi x1), some (vi x2), none, some (vi x4), some (vi ((1103515245 * x5) + 12345)), some (vi x6)]) hC dX8_sow_70 (Nat.le_of_ble_eq_true rfl) rfl ?_
      refine g_aload_n hC dX8_sow_72 rfl rfl ?_
      refine g_getr (r := 1) hC rfl (gc_k8 hZ) iwX8 0 (by decide) rfl rfl (wc wd_299) dX8_sow_73 ?_
      refine g_iload_n hC dX8_sow_76 rfl rfl ?_
      refine g_iload hC dX8_sow_77 rfl ?_
      refine g_bipush hC dX8_sow_79 (by decide) ?_
      refine g_iushr hC (by decide) dX8_sow_81 ?_
      refine g_iload hC dX8_sow_82 rfl ?_
      obtain ⟨hr_19, hr_20, hr_21, h⟩ := h
      refine g_irem hC hr_19 hr_20 hr_21 dX8_sow_84 ?_
      refine g_callv (g_runV (As := [(vi x1), (vi (Int.tmod (ushr ((1103515245 * x5) + 12345) 8) x4))]) (rest := []) hC rfl (ctX2_addByte hZ  h) rfl (gc_k2 hZ) (kwX2_addByte (by decide) (by decide)) rfl (wc wd_368) (wc wd_369) (wc wd_370) rfl (Nat.le_of_ble_eq_true rfl) rfl dX8_sow_85) (fun M_22 h => ?_)
      refine g_iinc2 (lc' := [some (vr z 0), some (vi x1), some (vi x2), none, some (vi x4), some (vi ((1103515245 * x5) + 12345)), some (vi (x6 + 1))]) hC dX8_sow_88 rfl rfl ?_
      refine g_goto hC 55 dX8_sow_91 (by decide) ?_
      exact g_subk (ih ((1103515245 * x5) + 12345) (x6 + 1) M_22 h) (And.intro rfl (And.intro rfl (And.intro rfl (And.intro rfl (And.intro rfl (And.intro rfl trivial))))))
    · replace h := hB hc_18
      clear hA hB
      exact g_subk (hK94 M h) (And.intro rfl (And.intro rfl trivial))
def fX8_sow (x1 : Int) (x2 : Int) (x3 : Int) (x4 : Int) (M : gMem) (Q : Int → gMem → Prop) : Prop :=
  (fX8_isFile x1 M (fun r_1 =>
  (rg r_1 ∧ (r_1 = 0 →
  Q (-1) M) ∧
  (¬ r_1 = 0 →
  (fX8_isWithin x2 1 200 M (fun r_5 =>
    (rg r_5 ∧ (r_5 = 0 →
    Q (-1) M) ∧
    (¬ r_5 = 0 →
    (fX8_isWithin x4 1 256 M (fun r_9 =>
      (rg r_9 ∧ (r_9 = 0 →
      Q (-1) M) ∧
      (¬ r_9 = 0 →
      ((0 ≤ x1 ∧ x1 < 8) ∧ (rg ((M 3 x1) + x2) ∧ (600 < ((M 3 x1) + x2) →
        Q (-1) M) ∧
        (¬ 600 < ((M 3 x1) + x2) →
        ∃ n_25, fX8_sow_L55 x1 x2 x4 n_25 x3 0 M (fun M_23 =>
          ((0 ≤ x1 ∧ x1 < 8) ∧ Q (M_23 3 x1) M_23)) Q)))))))))))))))
set_option maxHeartbeats 4000000 in
set_option maxRecDepth 100000 in
theorem ctX8_sow {l : Launch} {z : gZ} (hZ : gZc z) {x1 : Int} {x2 : Int} {x3 : Int} {x4 : Int}  {M : gMem} {Q : Int → gMem → Prop} (h : fX8_sow x1 x2 x3 x4 M Q) : gMI l z cL yX8_sow wX8_sow rmX8_sow [(vr z 0), (vi x1), (vi x2), (vi x3), (vi x4)] M Q := by
  refine g_metI .int (by decide) rfl rfl (gCat_all (And.intro rfl (And.intro rfl (And.intro rfl (And.intro rfl (And.intro rfl trivial)))))) (Nat.le_of_ble_eq_true rfl) ?_
  intro y hC hR
  replace h : (fX8_isFile x1 M (fun r_1 =>
  (rg r_1 ∧ (r_1 = 0 →
  Q (-1) M) ∧
  (¬ r_1 = 0 →
  (fX8_isWithin x2 1 200 M (fun r_5 =>
    (rg r_5 ∧ (r_5 = 0 →
    Q (-1) M) ∧
    (¬ r_5 = 0 →
    (fX8_isWithin x4 1 256 M (fun r_9 =>
      (rg r_9 ∧ (r_9 = 0 →
      Q (-1) M) ∧
      (¬ r_9 = 0 →
      ((0 ≤ x1 ∧ x1 < 8) ∧ (rg ((M 3 x1) + x2) ∧ (600 < ((M 3 x1) + x2) →
        Q (-1) M) ∧
        (¬ 600 < ((M 3 x1) + x2) →
        ∃ n_25, fX8_sow_L55 x1 x2 x4 n_25 x3 0 M (fun M_23 =>
          ((0 ≤ x1 ∧ x1 < 8) ∧ Q (M_23 3 x1) M_23)) Q))))))))))))))) := h
  refine g_lc (lc' := [some (vr z 0), some (vi x1), some (vi x2), some (vi x3), some (vi x4), none, none]) rfl ?_
  refine g_iload_n hC dX8_sow_0 rfl rfl ?_
  refine g_calli (g_runS (As := [(vi x1)]) (rest := []) hC rfl (ctX8_isFile hZ  h) (kwX8_isFile (by decide) (by decide)) (wc wd_346) (wc wd_347) rfl (Nat.le_of_ble_eq_true rfl) rfl dX8_sow_1) (fun r_1 M_2 h => ?_)
  obtain ⟨rfl, h⟩ := h
  obtain ⟨hr_3, hA, hB⟩ := h
  refine g_ieq hC 47 hr_3 dX8_sow_4 (by decide) (fun hc_4 => ?_) (fun hc_4 => ?_)
  · replace h := hA hc_4
    clear hA hB
    refine g_iconst hC dX8_sow_47 ?_
    exact g_iret hC hR dX8_sow_48 h
  · replace h := hB hc_4
    clear hA hB
    refine g_iload_n hC dX8_sow_7 rfl rfl ?_
    refine g_iconst hC dX8_sow_8 ?_
    refine g_sipush hC dX8_sow_9 (by decide) ?_
    refine g_calli (g_runS (As := [(vi x2), (vi 1), (vi 200)]) (rest := []) hC rfl (ctX8_isWithin hZ  h) (kwX8_isWithin (by decide) (by decide)) (wc wd_349) (wc wd_350) rfl (Nat.le_of_ble_eq_true rfl) rfl dX8_sow_12) (fun r_5 M_6 h => ?_)
    obtain ⟨rfl, h⟩ := h
    obtain ⟨hr_7, hA, hB⟩ := h
    refine g_ieq hC 47 hr_7 dX8_sow_15 (by decide) (fun hc_8 => ?_) (fun hc_8 => ?_)
    · replace h := hA hc_8
      clear hA hB
      refine g_iconst hC dX8_sow_47 ?_
      exact g_iret hC hR dX8_sow_48 h
    · replace h := hB hc_8
      clear hA hB
      refine g_iload hC dX8_sow_18 rfl ?_
      refine g_iconst hC dX8_sow_20 ?_
      refine g_sipush hC dX8_sow_21 (by decide) ?_
      refine g_calli (g_runS (As := [(vi x4), (vi 1), (vi 256)]) (rest := []) hC rfl (ctX8_isWithin hZ  h) (kwX8_isWithin (by decide) (by decide)) (wc wd_349) (wc wd_350) rfl (Nat.le_of_ble_eq_true rfl) rfl dX8_sow_24) (fun r_9 M_10 h => ?_)
      obtain ⟨rfl, h⟩ := h
      obtain ⟨hr_11, hA, hB⟩ := h
      refine g_ieq hC 47 hr_11 dX8_sow_27 (by decide) (fun hc_12 => ?_) (fun hc_12 => ?_)
      · replace h := hA hc_12
        clear hA hB
        refine g_iconst hC dX8_sow_47 ?_
        exact g_iret hC hR dX8_sow_48 h
      · replace h := hB hc_12
        clear hA hB
        refine g_aload_n hC dX8_sow_30 rfl rfl ?_
        refine g_getr (r := 1) hC rfl (gc_k8 hZ) iwX8 0 (by decide) rfl rfl (wc wd_299) dX8_sow_31 ?_
        refine g_getr (r := 3) hC rfl (gc_k2 hZ) iwX2 1 (by decide) rfl rfl (wc wd_72) dX8_sow_34 ?_
        refine g_iload_n hC dX8_sow_37 rfl rfl ?_
        obtain ⟨hb_13, h⟩ := h
        refine g_iald hC 0 rfl (c_t0 hZ) (by decide) hb_13 dX8_sow_38 ?_
        refine g_iload_n hC dX8_sow_39 rfl rfl ?_
        refine g_iadd hC dX8_sow_40 ?_
        refine g_sipush hC dX8_sow_41 (by decide) ?_
        obtain ⟨hr_14, hA, hB⟩ := h
        refine g_cle hC 49 hr_14 (by decide) dX8_sow_44 (by decide) (fun hc_15 => ?_) (fun hc_15 => ?_)
        · replace h := hA hc_15
          clear hA hB
          refine g_iconst hC dX8_sow_47 ?_
          exact g_iret hC hR dX8_sow_48 h
        · replace h := hB hc_15
          clear hA hB
          refine g_iload_n hC dX8_sow_49 rfl rfl ?_
          refine g_istore2 (lc' := [some (vr z 0), some (vi x1), some (vi x2), some (vi x3), some (vi x4), some (vi x3), none]) hC dX8_sow_50 (Nat.le_of_ble_eq_true rfl) rfl ?_
          refine g_iconst hC dX8_sow_52 ?_
          refine g_istore2 (lc' := [some (vr z 0), some (vi x1), some (vi x2), some (vi x3), some (vi x4), some (vi x3), some (vi 0)]) hC dX8_sow_53 (Nat.le_of_ble_eq_true rfl) rfl ?_
          obtain ⟨n_25, h⟩ := h
          refine g_subk (ctX8_sow_L55 hC hR hZ ?_ n_25 x3 0 M h) (And.intro rfl (And.intro rfl (And.intro rfl (And.intro rfl (And.intro rfl (And.intro rfl trivial))))))
          intro M_23 h
          refine g_aload_n hC dX8_sow_94 rfl rfl ?_
          refine g_getr (r := 1) hC rfl (gc_k8 hZ) iwX8 0 (by decide) rfl rfl (wc wd_299) dX8_sow_95 ?_
          refine g_getr (r := 3) hC rfl (gc_k2 hZ) iwX2 1 (by decide) rfl rfl (wc wd_72) dX8_sow_98 ?_
          refine g_iload_n hC dX8_sow_101 rfl rfl ?_
          obtain ⟨hb_24, h⟩ := h
          refine g_iald hC 0 rfl (c_t0 hZ) (by decide) hb_24 dX8_sow_102 ?_
          exact g_iret hC hR dX8_sow_103 h
