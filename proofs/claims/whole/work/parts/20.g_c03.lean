abbrev wX5_take : List Cond := Cond.code yX5_take cX5_take 7 (some .int) :: gTs
abbrev rmX5_take : Room := { frames := 3, cells := 0, slots := 0, locals := 74 }
theorem kwX5_take {c0 : Cond} {rm : Room} (h1 : rmX5_take.frames + 1 ≤ rm.frames) (h2 : 8 + (7 + 11) + rmX5_take.locals ≤ rm.locals) : gCw (c0 :: gTs) rm yX5_take cX5_take 7 (some .int) wX5_take rmX5_take 2 := gCw_of wd_544 wd_45 h1 h2 (by decide +kernel)
def fX5_take_L14 (k1 : Nat) : Nat → Int → gMem → (Int → gMem → Prop) → (gMem → Prop) → (Int → gMem → Prop) → Prop
  | 0, _, _, _, _, _ => False
  | n14 + 1, x5, M, K47, K92, Q =>
    (rg x5 ∧ rg (M k1 3) ∧ (x5 < (M k1 3) →
    (fX0_startOf k1 x5 M (fun r_4 =>
      (fX0_lengthOf k1 x5 M (fun r_6 =>
      (fX5_share r_4 r_6 M (fun r_8 M_9 =>
      (rg r_8 ∧ (r_8 = (-1) →
      K47 x5 M_9) ∧
      (¬ r_8 = (-1) →
      ((0 ≤ r_8 ∧ r_8 < 301) ∧ ((0 ≤ r_8 ∧ r_8 < 301) ∧ ∀ M_14, M_14 = gSt M_9 27 r_8 ((M_9 27 r_8) + 1) → ((0 ≤ x5 ∧ x5 < 600) ∧ ∀ M_16, M_16 = gSt M_14 37 x5 r_8 → fX5_take_L14 k1 n14 (x5 + 1) M_16 K47 K92 Q)))))))))))) ∧
    (¬ x5 < (M k1 3) →
    K92 M))
set_option maxHeartbeats 4000000 in
set_option maxRecDepth 100000 in
theorem ctX5_take_L14 {y : gY} {z : gZ} {l : Launch} {k1 : Nat} {x2 : Int} {x3 : Int} {x4 : Int} {Q : Int → gMem → Prop} {K47 : Int → gMem → Prop} {K92 : gMem → Prop} (hC : gC y z l cX5_take RX5 7 wX5_take rmX5_take) (hR : gRI y z cL .int Q) (hZ : gZc z) (h1 : k1 = 13 ∨ k1 = 16) (hK47 : ∀ (x5 : Int) (M : gMem), K47 x5 M → gW y z cL 47 [some (vr z 22), none, none, none, some (vi x4), some (vi x5), none] [] M) (hK92 : ∀ (M : gMem), K92 M → gW y z cL 92 [some (vr z 22), some (vr z k1), some (vi x2), some (vi x3), none, none, none] [] M) :
    ∀ (n : Nat) (x5 : Int) (M : gMem), fX5_take_L14 k1 n x5 M K47 K92 Q → gW y z cL 14 [some (vr z 22), some (vr z k1), some (vi x2), some (vi x3), some (vi x4), some (vi x5), none] [] M := by
  intro n
  induction n with
  | zero => intro x5 M h; exact False.elim h
  | succ n14 ih =>
    intro x5 M h
    replace h : (rg x5 ∧ rg (M k1 3) ∧ (x5 < (M k1 3) →
    (fX0_startOf k1 x5 M (fun r_4 =>
      (fX0_lengthOf k1 x5 M (fun r_6 =>
      (fX5_share r_4 r_6 M (fun r_8 M_9 =>
      (rg r_8 ∧ (r_8 = (-1) →
      K47 x5 M_9) ∧
      (¬ r_8 = (-1) →
      ((0 ≤ r_8 ∧ r_8 < 301) ∧ ((0 ≤ r_8 ∧ r_8 < 301) ∧ ∀ M_14, M_14 = gSt M_9 27 r_8 ((M_9 27 r_8) + 1) → ((0 ≤ x5 ∧ x5 < 600) ∧ ∀ M_16, M_16 = gSt M_14 37 x5 r_8 → fX5_take_L14 k1 n14 (x5 + 1) M_16 K47 K92 Q)))))))))))) ∧
    (¬ x5 < (M k1 3) →
    K92 M)) := h
    refine g_iload hC dX5_take_14 rfl ?_
    refine g_aload_n hC dX5_take_16 rfl rfl ?_
    refine g_geti (ji := 3) hC (lay_cut h1) (gc_k0 hZ) iwX0 3 (by decide) rfl rfl (wc wd_138) dX5_take_17 rfl ?_
    obtain ⟨hr_1, hr_2, hA, hB⟩ := h
    refine g_cge hC 92 hr_1 hr_2 dX5_take_20 (by decide) (fun hc_3 => ?_) (fun hc_3 => ?_)
    · replace h := hA hc_3
      clear hA hB
      refine g_aload_n hC dX5_take_23 rfl rfl ?_
      refine g_aload_n hC dX5_take_24 rfl rfl ?_
      refine g_iload hC dX5_take_25 rfl ?_
      refine g_calli (g_runV (As := [(vi x5)]) (rest := [(vr z 22)]) hC rfl (ctX0_startOf hZ h1 h) (lay_cut h1) (gc_k0 hZ) (kwX0_startOf (by decide) (by decide)) rfl (wc wd_545) (wc wd_486) (wc wd_487) rfl (Nat.le_of_ble_eq_true rfl) rfl dX5_take_27) (fun r_4 M_5 h => ?_)
      obtain ⟨rfl, h⟩ := h
      refine g_aload_n hC dX5_take_30 rfl rfl ?_
      refine g_iload hC dX5_take_31 rfl ?_
      refine g_calli (g_runV (As := [(vi x5)]) (rest := [(vi r_4), (vr z 22)]) hC rfl (ctX0_lengthOf hZ h1 h) (lay_cut h1) (gc_k0 hZ) (kwX0_lengthOf (by decide) (by decide)) rfl (wc wd_546) (wc wd_482) (wc wd_483) rfl (Nat.le_of_ble_eq_true rfl) rfl dX5_take_33) (fun r_6 M_7 h => ?_)
      obtain ⟨rfl, h⟩ := h
      refine g_calli (g_runV (As := [(vi r_4), (vi r_6)]) (rest := []) hC rfl (ctX5_share hZ  h) rfl (gc_k5 hZ) (kwX5_share (by decide) (by decide)) rfl (wc wd_547) (wc wd_549) (wc wd_9) rfl (Nat.le_of_ble_eq_true rfl) rfl dX5_take_36) (fun r_8 M_9 h => ?_)
      refine g_istore2 (lc' := [some (vr z 22), some (vr z k1), some (vi x2), some (vi x3), some (vi x4), some (vi x5), some (vi r_8)]) hC dX5_take_39 (Nat.le_of_ble_eq_true rfl) rfl ?_
      refine g_iload hC dX5_take_41 rfl ?_
      refine g_iconst hC dX5_take_43 ?_
      obtain ⟨hr_10, hA, hB⟩ := h
      refine g_cne hC 66 hr_10 (by decide) dX5_take_44 (by decide) (fun hc_11 => ?_) (fun hc_11 => ?_)
      · replace h := hA hc_11
        clear hA hB
        exact g_subk (hK47 x5 M_9 h) (And.intro rfl (And.intro rfl (And.intro rfl trivial)))
      · replace h := hB hc_11
        clear hA hB
        refine g_aload_n hC dX5_take_66 rfl rfl ?_
        refine g_getr (r := 27) hC rfl (gc_k5 hZ) iwX5 5 (by decide) rfl rfl (wc wd_192) dX5_take_67 ?_
        refine g_iload hC dX5_take_70 rfl ?_
        refine g_dup2 hC dX5_take_72 rfl rfl ?_
        obtain ⟨hb_12, h⟩ := h
        refine g_iald hC 0 rfl (c_t0 hZ) (by decide) hb_12 dX5_take_73 ?_
        refine g_iconst hC dX5_take_74 ?_
        refine g_iadd hC dX5_take_75 ?_
        obtain ⟨hb_13, h⟩ := h
        obtain ⟨M_14, hM_14⟩ : ∃ M9, M9 = gSt M_9 27 r_8 ((M_9 27 r_8) + 1) := ⟨_, rfl⟩
        replace h := h M_14 hM_14
        refine g_iast hC 0 rfl (c_t0 hZ) (by decide) hb_13 dX5_take_76 hM_14 ?_
        refine g_aload_n hC dX5_take_77 rfl rfl ?_
        refine g_getr (r := 37) hC rfl (gc_k5 hZ) iwX5 8 (by decide) rfl rfl (wc wd_198) dX5_take_78 ?_
        refine g_iload hC dX5_take_81 rfl ?_
        refine g_iload hC dX5_take_83 rfl ?_
        obtain ⟨hb_15, h⟩ := h
        obtain ⟨M_16, hM_16⟩ : ∃ M9, M9 = gSt M_14 37 x5 r_8 := ⟨_, rfl⟩
        replace h := h M_16 hM_16
        refine g_iast hC 0 rfl (c_t0 hZ) (by decide) hb_15 dX5_take_85 hM_16 ?_
        refine g_iinc2 (lc' := [some (vr z 22), some (vr z k1), some (vi x2), some (vi x3), some (vi x4), some (vi (x5 + 1)), some (vi r_8)]) hC dX5_take_86 rfl rfl ?_
        refine g_goto hC 14 dX5_take_89 (by decide) ?_
        exact g_subk (ih (x5 + 1) M_16 h) (And.intro rfl (And.intro rfl (And.intro rfl (And.intro rfl (And.intro rfl (And.intro rfl trivial))))))
    · replace h := hB hc_3
      clear hA hB
      exact g_subk (hK92 M h) (And.intro rfl (And.intro rfl (And.intro rfl (And.intro rfl trivial))))
def fX5_take (k1 : Nat) (x2 : Int) (M : gMem) (Q : Int → gMem → Prop) : Prop :=
  ∃ n_34, fX5_take_L14 k1 n_34 0 M (fun x5_17 M_18 =>
  (fX5_release 37 600 x5_17 M_18 (fun M_19 =>
    (∀ M_20, M_20 = gSt M_19 22 11 (M 22 11) → Q (-2) M_20)))) (fun M_21 =>
  ((0 ≤ x2 ∧ x2 < 8) ∧ ((0 ≤ x2 ∧ x2 < 8) ∧ (fX5_release (29 + (x2).toNat) 600 (M_21 38 x2) M_21 (fun M_24 =>
    ((0 ≤ x2 ∧ x2 < 8) ∧ (0 ≤ (0 : Int) ∧ 0 ≤ (0 : Int) ∧ 0 ≤ (M_24 k1 3) ∧ (0 : Int) + (M_24 k1 3) ≤ 600 ∧ (0 : Int) + (M_24 k1 3) ≤ 600 ∧ ∀ M_26, M_26 = gCp M_24 37 (29 + (x2).toNat) 0 0 (M_24 k1 3) → ((0 ≤ x2 ∧ x2 < 8) ∧ ∀ M_33, M_33 = gSt M_26 38 x2 (M_26 k1 3) → Q ((M_21 22 9) - (M 22 9)) M_33)))))))) Q
set_option maxHeartbeats 4000000 in
set_option maxRecDepth 100000 in
theorem ctX5_take {l : Launch} {z : gZ} (hZ : gZc z) {k1 : Nat} {x2 : Int} (h1 : k1 = 13 ∨ k1 = 16) {M : gMem} {Q : Int → gMem → Prop} (h : fX5_take k1 x2 M Q) : gMI l z cL yX5_take wX5_take rmX5_take [(vr z 22), (vr z k1), (vi x2)] M Q := by
  refine g_metI .int (by decide) rfl rfl (gCat_all (And.intro rfl (And.intro rfl (And.intro rfl trivial)))) (Nat.le_of_ble_eq_true rfl) ?_
  intro y hC hR
  replace h : ∃ n_34, fX5_take_L14 k1 n_34 0 M (fun x5_17 M_18 =>
  (fX5_release 37 600 x5_17 M_18 (fun M_19 =>
    (∀ M_20, M_20 = gSt M_19 22 11 (M 22 11) → Q (-2) M_20)))) (fun M_21 =>
  ((0 ≤ x2 ∧ x2 < 8) ∧ ((0 ≤ x2 ∧ x2 < 8) ∧ (fX5_release (29 + (x2).toNat) 600 (M_21 38 x2) M_21 (fun M_24 =>
    ((0 ≤ x2 ∧ x2 < 8) ∧ (0 ≤ (0 : Int) ∧ 0 ≤ (0 : Int) ∧ 0 ≤ (M_24 k1 3) ∧ (0 : Int) + (M_24 k1 3) ≤ 600 ∧ (0 : Int) + (M_24 k1 3) ≤ 600 ∧ ∀ M_26, M_26 = gCp M_24 37 (29 + (x2).toNat) 0 0 (M_24 k1 3) → ((0 ≤ x2 ∧ x2 < 8) ∧ ∀ M_33, M_33 = gSt M_26 38 x2 (M_26 k1 3) → Q ((M_21 22 9) - (M 22 9)) M_33)))))))) Q := h
  refine g_lc (lc' := [some (vr z 22), some (vr z k1), some (vi x2), none, none, none, none]) rfl ?_
  refine g_aload_n hC dX5_take_0 rfl rfl ?_
  refine g_geti (ji := 9) hC rfl (gc_k5 hZ) iwX5 9 (by decide) rfl rfl (wc wd_199) dX5_take_1 rfl ?_
  refine g_istore_n2 (lc' := [some (vr z 22), some (vr z k1), some (vi x2), some (vi (M 22 9)), none, none, none]) hC dX5_take_4 rfl (Nat.le_of_ble_eq_true rfl) rfl ?_
  refine g_aload_n hC dX5_take_5 rfl rfl ?_
  refine g_geti (ji := 11) hC rfl (gc_k5 hZ) iwX5 11 (by decide) rfl rfl (wc wd_203) dX5_take_6 rfl ?_
  refine g_istore2 (lc' := [some (vr z 22), some (vr z k1), some (vi x2), some (vi (M 22 9)), some (vi (M 22 11)), none, none]) hC dX5_take_9 (Nat.le_of_ble_eq_true rfl) rfl ?_
  refine g_iconst hC dX5_take_11 ?_
  refine g_istore2 (lc' := [some (vr z 22), some (vr z k1), some (vi x2), some (vi (M 22 9)), some (vi (M 22 11)), some (vi 0), none]) hC dX5_take_12 (Nat.le_of_ble_eq_true rfl) rfl ?_
  obtain ⟨n_34, h⟩ := h
  refine g_subk (ctX5_take_L14 hC hR hZ h1 ?_ ?_ n_34 0 M h) (And.intro rfl (And.intro rfl (And.intro rfl (And.intro rfl (And.intro rfl (And.intro rfl trivial))))))
  · intro x5_17 M_18 h
    refine g_aload_n hC dX5_take_47 rfl rfl ?_
    refine g_aload_n hC dX5_take_48 rfl rfl ?_
    refine g_getr (r := 37) hC rfl (gc_k5 hZ) iwX5 8 (by decide) rfl rfl (wc wd_198) dX5_take_49 ?_
    refine g_iload hC dX5_take_52 rfl ?_
    refine g_callv (g_runV (As := [(vr z 37), (vi x5_17)]) (rest := []) hC rfl (ctX5_release hZ rfl (by decide) h) rfl (gc_k5 hZ) (kwX5_release (by decide) (by decide)) rfl (wc wd_569) (wc wd_571) (wc wd_14) rfl (Nat.le_of_ble_eq_true rfl) rfl dX5_take_54) (fun M_19 h => ?_)
    refine g_aload_n hC dX5_take_57 rfl rfl ?_
    refine g_iload hC dX5_take_58 rfl ?_
    obtain ⟨M_20, hM_20⟩ : ∃ M9, M9 = gSt M_19 22 11 (M 22 11) := ⟨_, rfl⟩
    replace h := h M_20 hM_20
    refine g_puti (ji := 11) hC rfl (gc_k5 hZ) iwX5 tyX5_ok nmX5 11 (by decide) rfl rfl (wc wd_203) rfl rfl dX5_take_60 rfl hM_20 ?_
    refine g_bipush hC dX5_take_63 (by decide) ?_
    exact g_iret hC hR dX5_take_65 h
  · intro M_21 h
    refine g_aload_n hC dX5_take_92 rfl rfl ?_
    refine g_geti (ji := 9) hC rfl (gc_k5 hZ) iwX5 9 (by decide) rfl rfl (wc wd_199) dX5_take_93 rfl ?_
    refine g_iload_n hC dX5_take_96 rfl rfl ?_
    refine g_isub hC dX5_take_97 ?_
    refine g_istore2 (lc' := [some (vr z 22), some (vr z k1), some (vi x2), some (vi (M 22 9)), none, some (vi ((M_21 22 9) - (M 22 9))), none]) hC dX5_take_98 (Nat.le_of_ble_eq_true rfl) rfl ?_
    refine g_aload_n hC dX5_take_100 rfl rfl ?_
    refine g_aload_n hC dX5_take_101 rfl rfl ?_
    refine g_getr (r := 28) hC rfl (gc_k5 hZ) iwX5 6 (by decide) rfl rfl (wc wd_194) dX5_take_102 ?_
    refine g_iload_n hC dX5_take_105 rfl rfl ?_
    obtain ⟨hb_22, h⟩ := h
    refine g_aald hC 3 rfl (c_t4 hZ) rfl (by decide) hb_22 dX5_take_106 ?_
    refine g_aload_n hC dX5_take_107 rfl rfl ?_
    refine g_getr (r := 38) hC rfl (gc_k5 hZ) iwX5 7 (by decide) rfl rfl (wc wd_196) dX5_take_108 ?_
    refine g_iload_n hC dX5_take_111 rfl rfl ?_
    obtain ⟨hb_23, h⟩ := h
    refine g_iald hC 0 rfl (c_t0 hZ) (by decide) hb_23 dX5_take_112 ?_
    refine g_callv (g_runV (As := [(vr z (29 + (x2).toNat)), (vi (M_21 38 x2))]) (rest := []) hC rfl (ctX5_release hZ (lay_row (by omega)) (by decide) h) rfl (gc_k5 hZ) (kwX5_release (by decide) (by decide)) rfl (wc wd_569) (wc wd_571) (wc wd_14) rfl (Nat.le_of_ble_eq_true rfl) rfl dX5_take_113) (fun M_24 h => ?_)
    refine g_aload_n hC dX5_take_116 rfl rfl ?_
    refine g_getr (r := 37) hC rfl (gc_k5 hZ) iwX5 8 (by decide) rfl rfl (wc wd_198) dX5_take_117 ?_
    refine g_iconst hC dX5_take_120 ?_
    refine g_aload_n hC dX5_take_121 rfl rfl ?_
    refine g_getr (r := 28) hC rfl (gc_k5 hZ) iwX5 6 (by decide) rfl rfl (wc wd_194) dX5_take_122 ?_
    refine g_iload_n hC dX5_take_125 rfl rfl ?_
    obtain ⟨hb_25, h⟩ := h
    refine g_aald hC 3 rfl (c_t4 hZ) rfl (by decide) hb_25 dX5_take_126 ?_
    refine g_iconst hC dX5_take_127 ?_
    refine g_aload_n hC dX5_take_128 rfl rfl ?_
    refine g_geti (ji := 3) hC (lay_cut h1) (gc_k0 hZ) iwX0 3 (by decide) rfl rfl (wc wd_138) dX5_take_129 rfl ?_
    obtain ⟨ha_27, ha_28, ha_29, ha_30, ha_31, h⟩ := h
    obtain ⟨M_26, hM_26⟩ : ∃ M9, M9 = gCp M_24 37 (29 + (x2).toNat) 0 0 (M_24 k1 3) := ⟨_, rfl⟩
    replace h := h M_26 hM_26
    refine g_acopy hC rfl 0 (Or.inl ⟨rfl, rfl⟩) rfl (lay_row (by omega)) (c_t0 hZ) (by decide) (by decide) ha_27 ha_28 ha_29 ha_30 ha_31 (wc wd_568) (wc wd_362) (wc wd_361) (wc wd_50) (by decide) (Nat.le_of_ble_eq_true rfl) dX5_take_132 hM_26 ?_
    refine g_aload_n hC dX5_take_135 rfl rfl ?_
    refine g_getr (r := 38) hC rfl (gc_k5 hZ) iwX5 7 (by decide) rfl rfl (wc wd_196) dX5_take_136 ?_
    refine g_iload_n hC dX5_take_139 rfl rfl ?_
    refine g_aload_n hC dX5_take_140 rfl rfl ?_
    refine g_geti (ji := 3) hC (lay_cut h1) (gc_k0 hZ) iwX0 3 (by decide) rfl rfl (wc wd_138) dX5_take_141 rfl ?_
    obtain ⟨hb_32, h⟩ := h
    obtain ⟨M_33, hM_33⟩ : ∃ M9, M9 = gSt M_26 38 x2 (M_26 k1 3) := ⟨_, rfl⟩
    replace h := h M_33 hM_33
    refine g_iast hC 0 rfl (c_t0 hZ) (by decide) hb_32 dX5_take_144 hM_33 ?_
    refine g_iload hC dX5_take_145 rfl ?_
    exact g_iret hC hR dX5_take_147 h
abbrev wX5_letGo : List Cond := Cond.code yX5_letGo cX5_letGo 3 (some .int) :: gTs
abbrev rmX5_letGo : Room := { frames := 3, cells := 0, slots := 0, locals := 73 }
theorem kwX5_letGo {c0 : Cond} {rm : Room} (h1 : rmX5_letGo.frames + 1 ≤ rm.frames) (h2 : 8 + (3 + 11) + rmX5_letGo.locals ≤ rm.locals) : gCw (c0 :: gTs) rm yX5_letGo cX5_letGo 3 (some .int) wX5_letGo rmX5_letGo 1 := gCw_of wd_588 wd_45 h1 h2 (by decide +kernel)
def fX5_letGo (x1 : Int) (M : gMem) (Q : Int → gMem → Prop) : Prop :=
  ((0 ≤ x1 ∧ x1 < 8) ∧ ((0 ≤ x1 ∧ x1 < 8) ∧ (fX5_release (29 + (x1).toNat) 600 (M 38 x1) M (fun M_3 =>
  ((0 ≤ x1 ∧ x1 < 8) ∧ ∀ M_5, M_5 = gSt M_3 38 x1 (-1) → Q ((M 22 9) - (M_5 22 9)) M_5)))))
set_option maxHeartbeats 4000000 in
set_option maxRecDepth 100000 in
theorem ctX5_letGo {l : Launch} {z : gZ} (hZ : gZc z) {x1 : Int}  {M : gMem} {Q : Int → gMem → Prop} (h : fX5_letGo x1 M Q) : gMI l z cL yX5_letGo wX5_letGo rmX5_letGo [(vr z 22), (vi x1)] M Q := by
  refine g_metI .int (by decide) rfl rfl (gCat_all (And.intro rfl (And.intro rfl trivial))) (Nat.le_of_ble_eq_true rfl) ?_
  intro y hC hR
  replace h : ((0 ≤ x1 ∧ x1 < 8) ∧ ((0 ≤ x1 ∧ x1 < 8) ∧ (fX5_release (29 + (x1).toNat) 600 (M 38 x1) M (fun M_3 =>
  ((0 ≤ x1 ∧ x1 < 8) ∧ ∀ M_5, M_5 = gSt M_3 38 x1 (-1) → Q ((M 22 9) - (M_5 22 9)) M_5))))) := h
  refine g_lc (lc' := [some (vr z 22), some (vi x1), none]) rfl ?_
  refine g_aload_n hC dX5_letGo_0 rfl rfl ?_
  refine g_geti (ji := 9) hC rfl (gc_k5 hZ) iwX5 9 (by decide) rfl rfl (wc wd_199) dX5_letGo_1 rfl ?_
  refine g_istore_n2 (lc' := [some (vr z 22), some (vi x1), some (vi (M 22 9))]) hC dX5_letGo_4 rfl (Nat.le_of_ble_eq_true rfl) rfl ?_
  refine g_aload_n hC dX5_letGo_5 rfl rfl ?_
  refine g_aload_n hC dX5_letGo_6 rfl rfl ?_
  refine g_getr (r := 28) hC rfl (gc_k5 hZ) iwX5 6 (by decide) rfl rfl (wc wd_194) dX5_letGo_7 ?_
  refine g_iload_n hC dX5_letGo_10 rfl rfl ?_
  obtain ⟨hb_1, h⟩ := h
  refine g_aald hC 3 rfl (c_t4 hZ) rfl (by decide) hb_1 dX5_letGo_11 ?_
  refine g_aload_n hC dX5_letGo_12 rfl rfl ?_
  refine g_getr (r := 38) hC rfl (gc_k5 hZ) iwX5 7 (by decide) rfl rfl (wc wd_196) dX5_letGo_13 ?_
  refine g_iload_n hC dX5_letGo_16 rfl rfl ?_
  obtain ⟨hb_2, h⟩ := h
  refine g_iald hC 0 rfl (c_t0 hZ) (by decide) hb_2 dX5_letGo_17 ?_
  refine g_callv (g_runV (As := [(vr z (29 + (x1).toNat)), (vi (M 38 x1))]) (rest := []) hC rfl (ctX5_release hZ (lay_row (by omega)) (by decide) h) rfl (gc_k5 hZ) (kwX5_release (by decide) (by decide)) rfl (wc wd_569) (wc wd_571) (wc wd_14) rfl (Nat.le_of_ble_eq_true rfl) rfl dX5_letGo_18) (fun M_3 h => ?_)
  refine g_aload_n hC dX5_letGo_21 rfl rfl ?_
  refine g_getr (r := 38) hC rfl (gc_k5 hZ) iwX5 7 (by decide) rfl rfl (wc wd_196) dX5_letGo_22 ?_
  refine g_iload_n hC dX5_letGo_25 rfl rfl ?_
  refine g_iconst hC dX5_letGo_26 ?_
  obtain ⟨hb_4, h⟩ := h
  obtain ⟨M_5, hM_5⟩ : ∃ M9, M9 = gSt M_3 38 x1 (-1) := ⟨_, rfl⟩
  replace h := h M_5 hM_5
  refine g_iast hC 0 rfl (c_t0 hZ) (by decide) hb_4 dX5_letGo_27 hM_5 ?_
  refine g_iload_n hC dX5_letGo_28 rfl rfl ?_
  refine g_aload_n hC dX5_letGo_29 rfl rfl ?_
  refine g_geti (ji := 9) hC rfl (gc_k5 hZ) iwX5 9 (by decide) rfl rfl (wc wd_199) dX5_letGo_30 rfl ?_
  refine g_isub hC dX5_letGo_33 ?_
  exact g_iret hC hR dX5_letGo_34 h
abbrev wX5_restore : List Cond := Cond.code yX5_restore cX5_restore 4 none :: gTs
abbrev rmX5_restore : Room := { frames := 2, cells := 0, slots := 0, locals := 50 }
theorem kwX5_restore {c0 : Cond} {rm : Room} (h1 : rmX5_restore.frames + 1 ≤ rm.frames) (h2 : 8 + (4 + 11) + rmX5_restore.locals ≤ rm.locals) : gCw (c0 :: gTs) rm yX5_restore cX5_restore 4 none wX5_restore rmX5_restore 1 := gCw_of wd_596 wd_45 h1 h2 (by decide +kernel)
def fX5_restore_L12  (x1 : Int) : Nat → Int → gMem → (gMem → Prop) → Prop
  | 0, _, _, _ => False
  | n12 + 1, x2, M, Q =>
    ((0 ≤ x1 ∧ x1 < 8) ∧ (rg x2 ∧ rg (M 38 x1) ∧ (x2 < (M 38 x1) →
    ((0 ≤ x1 ∧ x1 < 8) ∧ ((0 ≤ x2 ∧ x2 < 600) ∧ ((0 ≤ (M (29 + (x1).toNat) x2) ∧ (M (29 + (x1).toNat) x2) < 301) ∧ ((0 ≤ (M (29 + (x1).toNat) x2) ∧ (M (29 + (x1).toNat) x2) < 301) ∧ (fX2_addBytes x1 23 5400 (M 24 (M (29 + (x1).toNat) x2)) (M 25 (M (29 + (x1).toNat) x2)) M (fun M_11 =>
      fX5_restore_L12 x1 n12 (x2 + 1) M_11 Q))))))) ∧
    (¬ x2 < (M 38 x1) →
    Q M)))
set_option maxHeartbeats 4000000 in
set_option maxRecDepth 100000 in
theorem ctX5_restore_L12 {y : gY} {z : gZ} {l : Launch} {x1 : Int} {Q : gMem → Prop}  (hC : gC y z l cX5_restore RX5 4 wX5_restore rmX5_restore) (hR : gRV y z cL Q) (hZ : gZc z)  :
    ∀ (n : Nat) (x2 : Int) (M : gMem), fX5_restore_L12 x1 n x2 M Q → gW y z cL 12 [some (vr z 22), some (vi x1), some (vi x2), none] [] M := by
  intro n
  induction n with
  | zero => intro x2 M h; exact False.elim h
  | succ n12 ih =>
    intro x2 M h
    replace h : ((0 ≤ x1 ∧ x1 < 8) ∧ (rg x2 ∧ rg (M 38 x1) ∧ (x2 < (M 38 x1) →
    ((0 ≤ x1 ∧ x1 < 8) ∧ ((0 ≤ x2 ∧ x2 < 600) ∧ ((0 ≤ (M (29 + (x1).toNat) x2) ∧ (M (29 + (x1).toNat) x2) < 301) ∧ ((0 ≤ (M (29 + (x1).toNat) x2) ∧ (M (29 + (x1).toNat) x2) < 301) ∧ (fX2_addBytes x1 23 5400 (M 24 (M (29 + (x1).toNat) x2)) (M 25 (M (29 + (x1).toNat) x2)) M (fun M_11 =>
      fX5_restore_L12 x1 n12 (x2 + 1) M_11 Q))))))) ∧
    (¬ x2 < (M 38 x1) →
    Q M))) := h
    refine g_iload_n hC dX5_restore_12 rfl rfl ?_
    refine g_aload_n hC dX5_restore_13 rfl rfl ?_
    refine g_getr (r := 38) hC rfl (gc_k5 hZ) iwX5 7 (by decide) rfl rfl (wc wd_196) dX5_restore_14 ?_
    refine g_iload_n hC dX5_restore_17 rfl rfl ?_
    obtain ⟨hb_3, h⟩ := h
    refine g_iald hC 0 rfl (c_t0 hZ) (by decide) hb_3 dX5_restore_18 ?_
    obtain ⟨hr_4, hr_5, hA, hB⟩ := h
    refine g_cge hC 61 hr_4 hr_5 dX5_restore_19 (by decide) (fun hc_6 => ?_) (fun hc_6 => ?_)
    · replace h := hA hc_6
      clear hA hB
      refine g_aload_n hC dX5_restore_22 rfl rfl ?_
      refine g_getr (r := 28) hC rfl (gc_k5 hZ) iwX5 6 (by decide) rfl rfl (wc wd_194) dX5_restore_23 ?_
      refine g_iload_n hC dX5_restore_26 rfl rfl ?_
      obtain ⟨hb_7, h⟩ := h
      refine g_aald hC 3 rfl (c_t4 hZ) rfl (by decide) hb_7 dX5_restore_27 ?_
      refine g_iload_n hC dX5_restore_28 rfl rfl ?_
      obtain ⟨hb_8, h⟩ := h
      refine g_iald hC 0 (lay_row (by omega)) (c_t0 hZ) (by decide) hb_8 dX5_restore_29 ?_
      refine g_istore_n2 (lc' := [some (vr z 22), some (vi x1), some (vi x2), some (vi (M (29 + (x1).toNat) x2))]) hC dX5_restore_30 rfl (Nat.le_of_ble_eq_true rfl) rfl ?_
      refine g_aload_n hC dX5_restore_31 rfl rfl ?_
      refine g_getr (r := 1) hC rfl (gc_k5 hZ) iwX5 0 (by decide) rfl rfl (wc wd_185) dX5_restore_32 ?_
      refine g_iload_n hC dX5_restore_35 rfl rfl ?_
      refine g_aload_n hC dX5_restore_36 rfl rfl ?_
      refine g_getr (r := 23) hC rfl (gc_k5 hZ) iwX5 1 (by decide) rfl rfl (wc wd_186) dX5_restore_37 ?_
      refine g_aload_n hC dX5_restore_40 rfl rfl ?_
      refine g_getr (r := 24) hC rfl (gc_k5 hZ) iwX5 2 (by decide) rfl rfl (wc wd_187) dX5_restore_41 ?_
      refine g_iload_n hC dX5_restore_44 rfl rfl ?_
      obtain ⟨hb_9, h⟩ := h
      refine g_iald hC 0 rfl (c_t0 hZ) (by decide) hb_9 dX5_restore_45 ?_
      refine g_aload_n hC dX5_restore_46 rfl rfl ?_
      refine g_getr (r := 25) hC rfl (gc_k5 hZ) iwX5 3 (by decide) rfl rfl (wc wd_188) dX5_restore_47 ?_
      refine g_iload_n hC dX5_restore_50 rfl rfl ?_
      obtain ⟨hb_10, h⟩ := h
      refine g_iald hC 0 rfl (c_t0 hZ) (by decide) hb_10 dX5_restore_51 ?_
      refine g_callv (g_runV (As := [(vi x1), (vr z 23), (vi (M 24 (M (29 + (x1).toNat) x2))), (vi (M 25 (M (29 + (x1).toNat) x2)))]) (rest := []) hC rfl (ctX2_addBytes hZ rfl (by decide) h) rfl (gc_k2 hZ) (kwX2_addBytes (by decide) (by decide)) rfl (wc wd_597) (wc wd_598) (wc wd_599) rfl (Nat.le_of_ble_eq_true rfl) rfl dX5_restore_52) (fun M_11 h => ?_)
      refine g_iinc2 (lc' := [some (vr z 22), some (vi x1), some (vi (x2 + 1)), some (vi (M (29 + (x1).toNat) x2))]) hC dX5_restore_55 rfl rfl ?_
      refine g_goto hC 12 dX5_restore_58 (by decide) ?_
      exact g_subk (ih (x2 + 1) M_11 h) (And.intro rfl (And.intro rfl (And.intro rfl trivial)))
    · replace h := hB hc_6
      clear hA hB
      exact g_vret hC hR dX5_restore_61 h
def fX5_restore (x1 : Int) (M : gMem) (Q : gMem → Prop) : Prop :=
  ((0 ≤ x1 ∧ x1 < 8) ∧ ∀ M_2, M_2 = gSt M 3 x1 0 → ∃ n_12, fX5_restore_L12 x1 n_12 0 M_2 Q)
set_option maxHeartbeats 4000000 in
set_option maxRecDepth 100000 in
theorem ctX5_restore {l : Launch} {z : gZ} (hZ : gZc z) {x1 : Int}  {M : gMem} {Q : gMem → Prop} (h : fX5_restore x1 M Q) : gMV l z cL yX5_restore wX5_restore rmX5_restore [(vr z 22), (vi x1)] M Q := by
  refine g_metV (by decide) rfl rfl (gCat_all (And.intro rfl (And.intro rfl trivial))) (Nat.le_of_ble_eq_true rfl) ?_
  intro y hC hR
  replace h : ((0 ≤ x1 ∧ x1 < 8) ∧ ∀ M_2, M_2 = gSt M 3 x1 0 → ∃ n_12, fX5_restore_L12 x1 n_12 0 M_2 Q) := h
  refine g_lc (lc' := [some (vr z 22), some (vi x1), none, none]) rfl ?_
  refine g_aload_n hC dX5_restore_0 rfl rfl ?_
  refine g_getr (r := 1) hC rfl (gc_k5 hZ) iwX5 0 (by decide) rfl rfl (wc wd_185) dX5_restore_1 ?_
  refine g_getr (r := 3) hC rfl (gc_k2 hZ) iwX2 1 (by decide) rfl rfl (wc wd_71) dX5_restore_4 ?_
  refine g_iload_n hC dX5_restore_7 rfl rfl ?_
  refine g_iconst hC dX5_restore_8 ?_
  obtain ⟨hb_1, h⟩ := h
  obtain ⟨M_2, hM_2⟩ : ∃ M9, M9 = gSt M 3 x1 0 := ⟨_, rfl⟩
  replace h := h M_2 hM_2
  refine g_iast hC 0 rfl (c_t0 hZ) (by decide) hb_1 dX5_restore_9 hM_2 ?_
  refine g_iconst hC dX5_restore_10 ?_
  refine g_istore_n2 (lc' := [some (vr z 22), some (vi x1), some (vi 0), none]) hC dX5_restore_11 rfl (Nat.le_of_ble_eq_true rfl) rfl ?_
  obtain ⟨n_12, h⟩ := h
  refine g_subk (ctX5_restore_L12 hC hR hZ  n_12 0 M_2 h) (And.intro rfl (And.intro rfl (And.intro rfl trivial)))
abbrev wX5_countJumps : List Cond := Cond.code yX5_countJumps cX5_countJumps 4 (some .int) :: gTs
abbrev rmX5_countJumps : Room := { frames := 0, cells := 0, slots := 0, locals := 0 }
theorem kwX5_countJumps {c0 : Cond} {rm : Room} (h1 : rmX5_countJumps.frames + 1 ≤ rm.frames) (h2 : 8 + (4 + 11) + rmX5_countJumps.locals ≤ rm.locals) : gCw (c0 :: gTs) rm yX5_countJumps cX5_countJumps 4 (some .int) wX5_countJumps rmX5_countJumps 1 := gCw_of wd_608 wd_45 h1 h2 (by decide +kernel)
def fX5_countJumps_L4  (x1 : Int) (M : gMem) : Nat → Int → Int → (Int → Prop) → Prop
  | 0, _, _, _ => False
  | n4 + 1, x2, x3, Q =>
    ((0 ≤ x1 ∧ x1 < 8) ∧ (rg x3 ∧ rg (M 38 x1) ∧ (x3 < (M 38 x1) →
    (rg x3 ∧ (x3 = 0 →
      fX5_countJumps_L4 x1 M n4 (x2 + 1) (x3 + 1) Q) ∧
      (¬ x3 = 0 →
      ((0 ≤ x1 ∧ x1 < 8) ∧ ((0 ≤ x3 ∧ x3 < 600) ∧ ((0 ≤ x1 ∧ x1 < 8) ∧ ((0 ≤ (x3 - 1) ∧ (x3 - 1) < 600) ∧ (rg (M (29 + (x1).toNat) x3) ∧ rg ((M (29 + (x1).toNat) (x3 - 1)) + 1) ∧ ((M (29 + (x1).toNat) x3) = ((M (29 + (x1).toNat) (x3 - 1)) + 1) →
        fX5_countJumps_L4 x1 M n4 x2 (x3 + 1) Q) ∧
        (¬ (M (29 + (x1).toNat) x3) = ((M (29 + (x1).toNat) (x3 - 1)) + 1) →
        fX5_countJumps_L4 x1 M n4 (x2 + 1) (x3 + 1) Q))))))))) ∧
    (¬ x3 < (M 38 x1) →
    Q x2)))
set_option maxHeartbeats 4000000 in
set_option maxRecDepth 100000 in
theorem ctX5_countJumps_L4 {y : gY} {z : gZ} {l : Launch} {x1 : Int} {M : gMem} {Q : Int → Prop}  (hC : gC y z l cX5_countJumps RX5 4 wX5_countJumps rmX5_countJumps) (hR : gRI y z cL .int (fun r M' => M = M' ∧ Q r)) (hZ : gZc z)  :
    ∀ (n : Nat) (x2 : Int) (x3 : Int), fX5_countJumps_L4 x1 M n x2 x3 Q → gW y z cL 4 [some (vr z 22), some (vi x1), some (vi x2), some (vi x3)] [] M := by
  intro n
  induction n with
  | zero => intro x2 x3 h; exact False.elim h
  | succ n4 ih =>
    intro x2 x3 h
    replace h : ((0 ≤ x1 ∧ x1 < 8) ∧ (rg x3 ∧ rg (M 38 x1) ∧ (x3 < (M 38 x1) →
    (rg x3 ∧ (x3 = 0 →
      fX5_countJumps_L4 x1 M n4 (x2 + 1) (x3 + 1) Q) ∧
      (¬ x3 = 0 →
      ((0 ≤ x1 ∧ x1 < 8) ∧ ((0 ≤ x3 ∧ x3 < 600) ∧ ((0 ≤ x1 ∧ x1 < 8) ∧ ((0 ≤ (x3 - 1) ∧ (x3 - 1) < 600) ∧ (rg (M (29 + (x1).toNat) x3) ∧ rg ((M (29 + (x1).toNat) (x3 - 1)) + 1) ∧ ((M (29 + (x1).toNat) x3) = ((M (29 + (x1).toNat) (x3 - 1)) + 1) →
        fX5_countJumps_L4 x1 M n4 x2 (x3 + 1) Q) ∧
        (¬ (M (29 + (x1).toNat) x3) = ((M (29 + (x1).toNat) (x3 - 1)) + 1) →
        fX5_countJumps_L4 x1 M n4 (x2 + 1) (x3 + 1) Q))))))))) ∧
    (¬ x3 < (M 38 x1) →
    Q x2))) := h
    refine g_iload_n hC dX5_countJumps_4 rfl rfl ?_
    refine g_aload_n hC dX5_countJumps_5 rfl rfl ?_
    refine g_getr (r := 38) hC rfl (gc_k5 hZ) iwX5 7 (by decide) rfl rfl (wc wd_196) dX5_countJumps_6 ?_
    refine g_iload_n hC dX5_countJumps_9 rfl rfl ?_
    obtain ⟨hb_1, h⟩ := h
    refine g_iald hC 0 rfl (c_t0 hZ) (by decide) hb_1 dX5_countJumps_10 ?_
    obtain ⟨hr_2, hr_3, hA, hB⟩ := h
    refine g_cge hC 50 hr_2 hr_3 dX5_countJumps_11 (by decide) (fun hc_4 => ?_) (fun hc_4 => ?_)
    · replace h := hA hc_4
      clear hA hB
      refine g_iload_n hC dX5_countJumps_14 rfl rfl ?_
      obtain ⟨hr_5, hA, hB⟩ := h
      refine g_ieq hC 41 hr_5 dX5_countJumps_15 (by decide) (fun hc_6 => ?_) (fun hc_6 => ?_)
      · replace h := hA hc_6
        clear hA hB
        refine g_iinc2 (lc' := [some (vr z 22), some (vi x1), some (vi (x2 + 1)), some (vi x3)]) hC dX5_countJumps_41 rfl rfl ?_
        refine g_iinc2 (lc' := [some (vr z 22), some (vi x1), some (vi (x2 + 1)), some (vi (x3 + 1))]) hC dX5_countJumps_44 rfl rfl ?_
        refine g_goto hC 4 dX5_countJumps_47 (by decide) ?_
        exact g_subk (ih (x2 + 1) (x3 + 1) h) (And.intro rfl (And.intro rfl (And.intro rfl (And.intro rfl trivial))))
      · replace h := hB hc_6
        clear hA hB
        refine g_aload_n hC dX5_countJumps_18 rfl rfl ?_
        refine g_getr (r := 28) hC rfl (gc_k5 hZ) iwX5 6 (by decide) rfl rfl (wc wd_194) dX5_countJumps_19 ?_
        refine g_iload_n hC dX5_countJumps_22 rfl rfl ?_
        obtain ⟨hb_7, h⟩ := h
        refine g_aald hC 3 rfl (c_t4 hZ) rfl (by decide) hb_7 dX5_countJumps_23 ?_
        refine g_iload_n hC dX5_countJumps_24 rfl rfl ?_
        obtain ⟨hb_8, h⟩ := h
        refine g_iald hC 0 (lay_row (by omega)) (c_t0 hZ) (by decide) hb_8 dX5_countJumps_25 ?_
        refine g_aload_n hC dX5_countJumps_26 rfl rfl ?_
        refine g_getr (r := 28) hC rfl (gc_k5 hZ) iwX5 6 (by decide) rfl rfl (wc wd_194) dX5_countJumps_27 ?_
        refine g_iload_n hC dX5_countJumps_30 rfl rfl ?_
        obtain ⟨hb_9, h⟩ := h
        refine g_aald hC 3 rfl (c_t4 hZ) rfl (by decide) hb_9 dX5_countJumps_31 ?_
        refine g_iload_n hC dX5_countJumps_32 rfl rfl ?_
        refine g_iconst hC dX5_countJumps_33 ?_
        refine g_isub hC dX5_countJumps_34 ?_
        obtain ⟨hb_10, h⟩ := h
        refine g_iald hC 0 (lay_row (by omega)) (c_t0 hZ) (by decide) hb_10 dX5_countJumps_35 ?_
        refine g_iconst hC dX5_countJumps_36 ?_
        refine g_iadd hC dX5_countJumps_37 ?_
        obtain ⟨hr_11, hr_12, hA, hB⟩ := h
        refine g_ceq hC 44 hr_11 hr_12 dX5_countJumps_38 (by decide) (fun hc_13 => ?_) (fun hc_13 => ?_)
        · replace h := hA hc_13
          clear hA hB
          refine g_iinc2 (lc' := [some (vr z 22), some (vi x1), some (vi x2), some (vi (x3 + 1))]) hC dX5_countJumps_44 rfl rfl ?_
          refine g_goto hC 4 dX5_countJumps_47 (by decide) ?_
          exact g_subk (ih x2 (x3 + 1) h) (And.intro rfl (And.intro rfl (And.intro rfl (And.intro rfl trivial))))
        · replace h := hB hc_13
          clear hA hB
          refine g_iinc2 (lc' := [some (vr z 22), some (vi x1), some (vi (x2 + 1)), some (vi x3)]) hC dX5_countJumps_41 rfl rfl ?_
          refine g_iinc2 (lc' := [some (vr z 22), some (vi x1), some (vi (x2 + 1)), some (vi (x3 + 1))]) hC dX5_countJumps_44 rfl rfl ?_
          refine g_goto hC 4 dX5_countJumps_47 (by decide) ?_
          exact g_subk (ih (x2 + 1) (x3 + 1) h) (And.intro rfl (And.intro rfl (And.intro rfl (And.intro rfl trivial))))
    · replace h := hB hc_4
      clear hA hB
      refine g_iload_n hC dX5_countJumps_50 rfl rfl ?_
      exact g_iret hC hR dX5_countJumps_51 ⟨rfl, h⟩
def fX5_countJumps (x1 : Int) (M : gMem) (Q : Int → Prop) : Prop :=
  ∃ n_14, fX5_countJumps_L4 x1 M n_14 0 0 Q
set_option maxHeartbeats 4000000 in
set_option maxRecDepth 100000 in
theorem ctX5_countJumps {l : Launch} {z : gZ} (hZ : gZc z) {x1 : Int}  {M : gMem} {Q : Int → Prop} (h : fX5_countJumps x1 M Q) : gMI l z cL yX5_countJumps wX5_countJumps rmX5_countJumps [(vr z 22), (vi x1)] M (fun r M' => M = M' ∧ Q r) := by
  refine g_metI .int (by decide) rfl rfl (gCat_all (And.intro rfl (And.intro rfl trivial))) (Nat.le_of_ble_eq_true rfl) ?_
  intro y hC hR
  replace h : ∃ n_14, fX5_countJumps_L4 x1 M n_14 0 0 Q := h
  refine g_lc (lc' := [some (vr z 22), some (vi x1), none, none]) rfl ?_
  refine g_iconst hC dX5_countJumps_0 ?_
  refine g_istore_n2 (lc' := [some (vr z 22), some (vi x1), some (vi 0), none]) hC dX5_countJumps_1 rfl (Nat.le_of_ble_eq_true rfl) rfl ?_
  refine g_iconst hC dX5_countJumps_2 ?_
  refine g_istore_n2 (lc' := [some (vr z 22), some (vi x1), some (vi 0), some (vi 0)]) hC dX5_countJumps_3 rfl (Nat.le_of_ble_eq_true rfl) rfl ?_
  obtain ⟨n_14, h⟩ := h
  refine g_subk (ctX5_countJumps_L4 hC hR hZ  n_14 0 0 h) (And.intro rfl (And.intro rfl (And.intro rfl (And.intro rfl trivial))))
abbrev wX5_countNumbers : List Cond := Cond.code yX5_countNumbers cX5_countNumbers 3 (some .int) :: gTs
abbrev rmX5_countNumbers : Room := { frames := 1, cells := 0, slots := 0, locals := 21 }
theorem kwX5_countNumbers {c0 : Cond} {rm : Room} (h1 : rmX5_countNumbers.frames + 1 ≤ rm.frames) (h2 : 8 + (3 + 11) + rmX5_countNumbers.locals ≤ rm.locals) : gCw (c0 :: gTs) rm yX5_countNumbers cX5_countNumbers 3 (some .int) wX5_countNumbers rmX5_countNumbers 0 := gCw_of wd_624 wd_45 h1 h2 (by decide +kernel)
def fX5_countNumbers_L4  (M : gMem) : Nat → Int → Int → (Int → Prop) → Prop
  | 0, _, _, _ => False
  | n4 + 1, x1, x2, Q =>
    (rg x2 ∧ (x2 < 8 →
    ((0 ≤ x2 ∧ x2 < 8) ∧ (rg (M 38 x2) ∧ fX5_countNumbers_L4 M n4 (x1 + (max (M 38 x2) 0)) (x2 + 1) Q))) ∧
    (¬ x2 < 8 →
    Q x1))
set_option maxHeartbeats 4000000 in
set_option maxRecDepth 100000 in
theorem ctX5_countNumbers_L4 {y : gY} {z : gZ} {l : Launch}  {M : gMem} {Q : Int → Prop}  (hC : gC y z l cX5_countNumbers RX5 3 wX5_countNumbers rmX5_countNumbers) (hR : gRI y z cL .int (fun r M' => M = M' ∧ Q r)) (hZ : gZc z)  :
    ∀ (n : Nat) (x1 : Int) (x2 : Int), fX5_countNumbers_L4 M n x1 x2 Q → gW y z cL 4 [some (vr z 22), some (vi x1), some (vi x2)] [] M := by
  intro n
  induction n with
  | zero => intro x1 x2 h; exact False.elim h
  | succ n4 ih =>
    intro x1 x2 h
    replace h : (rg x2 ∧ (x2 < 8 →
    ((0 ≤ x2 ∧ x2 < 8) ∧ (rg (M 38 x2) ∧ fX5_countNumbers_L4 M n4 (x1 + (max (M 38 x2) 0)) (x2 + 1) Q))) ∧
    (¬ x2 < 8 →
    Q x1)) := h
    refine g_iload_n hC dX5_countNumbers_4 rfl rfl ?_
    refine g_bipush hC dX5_countNumbers_5 (by decide) ?_
    obtain ⟨hr_1, hA, hB⟩ := h
    refine g_cge hC 29 hr_1 (by decide) dX5_countNumbers_7 (by decide) (fun hc_2 => ?_) (fun hc_2 => ?_)
    · replace h := hA hc_2
      clear hA hB
      refine g_iload_n hC dX5_countNumbers_10 rfl rfl ?_
      refine g_aload_n hC dX5_countNumbers_11 rfl rfl ?_
      refine g_getr (r := 38) hC rfl (gc_k5 hZ) iwX5 7 (by decide) rfl rfl (wc wd_196) dX5_countNumbers_12 ?_
      refine g_iload_n hC dX5_countNumbers_15 rfl rfl ?_
      obtain ⟨hb_3, h⟩ := h
      refine g_iald hC 0 rfl (c_t0 hZ) (by decide) hb_3 dX5_countNumbers_16 ?_
      refine g_iconst hC dX5_countNumbers_17 ?_
      obtain ⟨hr_4, h⟩ := h
      refine g_max hC rfl hr_4 (by decide) (wc wd_625) (wc wd_466) (wc wd_51) (wc wd_467) (by decide) (Nat.le_of_ble_eq_true rfl) dX5_countNumbers_18 ?_
      refine g_iadd hC dX5_countNumbers_21 ?_
      refine g_istore_n2 (lc' := [some (vr z 22), some (vi (x1 + (max (M 38 x2) 0))), some (vi x2)]) hC dX5_countNumbers_22 rfl (Nat.le_of_ble_eq_true rfl) rfl ?_
      refine g_iinc2 (lc' := [some (vr z 22), some (vi (x1 + (max (M 38 x2) 0))), some (vi (x2 + 1))]) hC dX5_countNumbers_23 rfl rfl ?_
      refine g_goto hC 4 dX5_countNumbers_26 (by decide) ?_
      exact g_subk (ih (x1 + (max (M 38 x2) 0)) (x2 + 1) h) (And.intro rfl (And.intro rfl (And.intro rfl trivial)))
    · replace h := hB hc_2
      clear hA hB
      refine g_iload_n hC dX5_countNumbers_29 rfl rfl ?_
      exact g_iret hC hR dX5_countNumbers_30 ⟨rfl, h⟩
def fX5_countNumbers  (M : gMem) (Q : Int → Prop) : Prop :=
  ∃ n_5, fX5_countNumbers_L4 M n_5 0 0 Q
set_option maxHeartbeats 4000000 in
set_option maxRecDepth 100000 in
theorem ctX5_countNumbers {l : Launch} {z : gZ} (hZ : gZc z)   {M : gMem} {Q : Int → Prop} (h : fX5_countNumbers  M Q) : gMI l z cL yX5_countNumbers wX5_countNumbers rmX5_countNumbers [(vr z 22)] M (fun r M' => M = M' ∧ Q r) := by
  refine g_metI .int (by decide) rfl rfl (gCat_all (And.intro rfl trivial)) (Nat.le_of_ble_eq_true rfl) ?_
  intro y hC hR
  replace h : ∃ n_5, fX5_countNumbers_L4 M n_5 0 0 Q := h
  refine g_lc (lc' := [some (vr z 22), none, none]) rfl ?_
  refine g_iconst hC dX5_countNumbers_0 ?_
  refine g_istore_n2 (lc' := [some (vr z 22), some (vi 0), none]) hC dX5_countNumbers_1 rfl (Nat.le_of_ble_eq_true rfl) rfl ?_
  refine g_iconst hC dX5_countNumbers_2 ?_
  refine g_istore_n2 (lc' := [some (vr z 22), some (vi 0), some (vi 0)]) hC dX5_countNumbers_3 rfl (Nat.le_of_ble_eq_true rfl) rfl ?_
  obtain ⟨n_5, h⟩ := h
  refine g_subk (ctX5_countNumbers_L4 hC hR hZ  n_5 0 0 h) (And.intro rfl (And.intro rfl (And.intro rfl trivial)))
abbrev wX5_countKeptFiles : List Cond := Cond.code yX5_countKeptFiles cX5_countKeptFiles 3 (some .int) :: gTs
abbrev rmX5_countKeptFiles : Room := { frames := 0, cells := 0, slots := 0, locals := 0 }
theorem kwX5_countKeptFiles {c0 : Cond} {rm : Room} (h1 : rmX5_countKeptFiles.frames + 1 ≤ rm.frames) (h2 : 8 + (3 + 11) + rmX5_countKeptFiles.locals ≤ rm.locals) : gCw (c0 :: gTs) rm yX5_countKeptFiles cX5_countKeptFiles 3 (some .int) wX5_countKeptFiles rmX5_countKeptFiles 0 := gCw_of wd_629 wd_45 h1 h2 (by decide +kernel)
def fX5_countKeptFiles_L4  (M : gMem) : Nat → Int → Int → (Int → Prop) → Prop
  | 0, _, _, _ => False
  | n4 + 1, x1, x2, Q =>
    (rg x2 ∧ (x2 < 8 →
    ((0 ≤ x2 ∧ x2 < 8) ∧ (rg (M 38 x2) ∧ ((M 38 x2) = (-1) →
      fX5_countKeptFiles_L4 M n4 (x1 + 0) (x2 + 1) Q) ∧
      (¬ (M 38 x2) = (-1) →
      fX5_countKeptFiles_L4 M n4 (x1 + 1) (x2 + 1) Q)))) ∧
    (¬ x2 < 8 →
    Q x1))
set_option maxHeartbeats 4000000 in
set_option maxRecDepth 100000 in
theorem ctX5_countKeptFiles_L4 {y : gY} {z : gZ} {l : Launch}  {M : gMem} {Q : Int → Prop}  (hC : gC y z l cX5_countKeptFiles RX5 3 wX5_countKeptFiles rmX5_countKeptFiles) (hR : gRI y z cL .int (fun r M' => M = M' ∧ Q r)) (hZ : gZc z)  :
    ∀ (n : Nat) (x1 : Int) (x2 : Int), fX5_countKeptFiles_L4 M n x1 x2 Q → gW y z cL 4 [some (vr z 22), some (vi x1), some (vi x2)] [] M := by
  intro n
  induction n with
  | zero => intro x1 x2 h; exact False.elim h
  | succ n4 ih =>
    intro x1 x2 h
    replace h : (rg x2 ∧ (x2 < 8 →
    ((0 ≤ x2 ∧ x2 < 8) ∧ (rg (M 38 x2) ∧ ((M 38 x2) = (-1) →
      fX5_countKeptFiles_L4 M n4 (x1 + 0) (x2 + 1) Q) ∧
      (¬ (M 38 x2) = (-1) →
      fX5_countKeptFiles_L4 M n4 (x1 + 1) (x2 + 1) Q)))) ∧
    (¬ x2 < 8 →
    Q x1)) := h
    refine g_iload_n hC dX5_countKeptFiles_4 rfl rfl ?_
    refine g_bipush hC dX5_countKeptFiles_5 (by decide) ?_
    obtain ⟨hr_1, hA, hB⟩ := h
    refine g_cge hC 34 hr_1 (by decide) dX5_countKeptFiles_7 (by decide) (fun hc_2 => ?_) (fun hc_2 => ?_)
    · replace h := hA hc_2
      clear hA hB
      refine g_iload_n hC dX5_countKeptFiles_10 rfl rfl ?_
      refine g_aload_n hC dX5_countKeptFiles_11 rfl rfl ?_
      refine g_getr (r := 38) hC rfl (gc_k5 hZ) iwX5 7 (by decide) rfl rfl (wc wd_196) dX5_countKeptFiles_12 ?_
      refine g_iload_n hC dX5_countKeptFiles_15 rfl rfl ?_
      obtain ⟨hb_3, h⟩ := h
      refine g_iald hC 0 rfl (c_t0 hZ) (by decide) hb_3 dX5_countKeptFiles_16 ?_
      refine g_iconst hC dX5_countKeptFiles_17 ?_
      obtain ⟨hr_4, hA, hB⟩ := h
      refine g_cne hC 25 hr_4 (by decide) dX5_countKeptFiles_18 (by decide) (fun hc_5 => ?_) (fun hc_5 => ?_)
      · replace h := hA hc_5
        clear hA hB
        refine g_iconst hC dX5_countKeptFiles_21 ?_
        refine g_goto hC 26 dX5_countKeptFiles_22 (by decide) ?_
        refine g_iadd hC dX5_countKeptFiles_26 ?_
        refine g_istore_n2 (lc' := [some (vr z 22), some (vi (x1 + 0)), some (vi x2)]) hC dX5_countKeptFiles_27 rfl (Nat.le_of_ble_eq_true rfl) rfl ?_
        refine g_iinc2 (lc' := [some (vr z 22), some (vi (x1 + 0)), some (vi (x2 + 1))]) hC dX5_countKeptFiles_28 rfl rfl ?_
        refine g_goto hC 4 dX5_countKeptFiles_31 (by decide) ?_
        exact g_subk (ih (x1 + 0) (x2 + 1) h) (And.intro rfl (And.intro rfl (And.intro rfl trivial)))
      · replace h := hB hc_5
        clear hA hB
        refine g_iconst hC dX5_countKeptFiles_25 ?_
        refine g_iadd hC dX5_countKeptFiles_26 ?_
        refine g_istore_n2 (lc' := [some (vr z 22), some (vi (x1 + 1)), some (vi x2)]) hC dX5_countKeptFiles_27 rfl (Nat.le_of_ble_eq_true rfl) rfl ?_
        refine g_iinc2 (lc' := [some (vr z 22), some (vi (x1 + 1)), some (vi (x2 + 1))]) hC dX5_countKeptFiles_28 rfl rfl ?_
        refine g_goto hC 4 dX5_countKeptFiles_31 (by decide) ?_
        exact g_subk (ih (x1 + 1) (x2 + 1) h) (And.intro rfl (And.intro rfl (And.intro rfl trivial)))
    · replace h := hB hc_2
      clear hA hB
      refine g_iload_n hC dX5_countKeptFiles_34 rfl rfl ?_
      exact g_iret hC hR dX5_countKeptFiles_35 ⟨rfl, h⟩
def fX5_countKeptFiles  (M : gMem) (Q : Int → Prop) : Prop :=
  ∃ n_6, fX5_countKeptFiles_L4 M n_6 0 0 Q
set_option maxHeartbeats 4000000 in
set_option maxRecDepth 100000 in
theorem ctX5_countKeptFiles {l : Launch} {z : gZ} (hZ : gZc z)   {M : gMem} {Q : Int → Prop} (h : fX5_countKeptFiles  M Q) : gMI l z cL yX5_countKeptFiles wX5_countKeptFiles rmX5_countKeptFiles [(vr z 22)] M (fun r M' => M = M' ∧ Q r) := by
  refine g_metI .int (by decide) rfl rfl (gCat_all (And.intro rfl trivial)) (Nat.le_of_ble_eq_true rfl) ?_
  intro y hC hR
  replace h : ∃ n_6, fX5_countKeptFiles_L4 M n_6 0 0 Q := h
  refine g_lc (lc' := [some (vr z 22), none, none]) rfl ?_
  refine g_iconst hC dX5_countKeptFiles_0 ?_
  refine g_istore_n2 (lc' := [some (vr z 22), some (vi 0), none]) hC dX5_countKeptFiles_1 rfl (Nat.le_of_ble_eq_true rfl) rfl ?_
  refine g_iconst hC dX5_countKeptFiles_2 ?_
  refine g_istore_n2 (lc' := [some (vr z 22), some (vi 0), some (vi 0)]) hC dX5_countKeptFiles_3 rfl (Nat.le_of_ble_eq_true rfl) rfl ?_
  obtain ⟨n_6, h⟩ := h
  refine g_subk (ctX5_countKeptFiles_L4 hC hR hZ  n_6 0 0 h) (And.intro rfl (And.intro rfl (And.intro rfl trivial)))
abbrev wX6_clear : List Cond := Cond.code yX6_clear cX6_clear 1 none :: gTs
abbrev rmX6_clear : Room := { frames := 0, cells := 0, slots := 0, locals := 0 }
theorem kwX6_clear {c0 : Cond} {rm : Room} (h1 : rmX6_clear.frames + 1 ≤ rm.frames) (h2 : 8 + (1 + 11) + rmX6_clear.locals ≤ rm.locals) : gCw (c0 :: gTs) rm yX6_clear cX6_clear 1 none wX6_clear rmX6_clear 0 := gCw_of wd_641 wd_47 h1 h2 (by decide +kernel)
def fX6_clear  (M : gMem) (Q : gMem → Prop) : Prop :=
  (∀ M_1, M_1 = gSt M 39 1 0 → (∀ M_2, M_2 = gSt M_1 39 2 0 → (∀ M_3, M_3 = gSt M_2 39 7 0 → Q M_3)))
set_option maxHeartbeats 4000000 in
set_option maxRecDepth 100000 in
theorem ctX6_clear {l : Launch} {z : gZ} (hZ : gZc z)   {M : gMem} {Q : gMem → Prop} (h : fX6_clear  M Q) : gMV l z cL yX6_clear wX6_clear rmX6_clear [(vr z 39)] M Q := by
  refine g_metV (by decide) rfl rfl (gCat_all (And.intro rfl trivial)) (Nat.le_of_ble_eq_true rfl) ?_
  intro y hC hR
  replace h : (∀ M_1, M_1 = gSt M 39 1 0 → (∀ M_2, M_2 = gSt M_1 39 2 0 → (∀ M_3, M_3 = gSt M_2 39 7 0 → Q M_3))) := h
  refine g_lc (lc' := [some (vr z 39)]) rfl ?_
  refine g_aload_n hC dX6_clear_0 rfl rfl ?_
  refine g_iconst hC dX6_clear_1 ?_
  obtain ⟨M_1, hM_1⟩ : ∃ M9, M9 = gSt M 39 1 0 := ⟨_, rfl⟩
  replace h := h M_1 hM_1
  refine g_puti (ji := 1) hC rfl (gc_k6 hZ) iwX6 tyX6_ok nmX6 1 (by decide) rfl rfl (wc wd_271) rfl rfl dX6_clear_2 rfl hM_1 ?_
  refine g_aload_n hC dX6_clear_5 rfl rfl ?_
  refine g_iconst hC dX6_clear_6 ?_
  obtain ⟨M_2, hM_2⟩ : ∃ M9, M9 = gSt M_1 39 2 0 := ⟨_, rfl⟩
  replace h := h M_2 hM_2
  refine g_puti (ji := 2) hC rfl (gc_k6 hZ) iwX6 tyX6_ok nmX6 2 (by decide) rfl rfl (wc wd_272) rfl rfl dX6_clear_7 rfl hM_2 ?_
  refine g_aload_n hC dX6_clear_10 rfl rfl ?_
  refine g_iconst hC dX6_clear_11 ?_
  obtain ⟨M_3, hM_3⟩ : ∃ M9, M9 = gSt M_2 39 7 0 := ⟨_, rfl⟩
  replace h := h M_3 hM_3
  refine g_puti (ji := 7) hC rfl (gc_k6 hZ) iwX6 tyX6_ok nmX6 7 (by decide) rfl rfl (wc wd_280) rfl rfl dX6_clear_12 rfl hM_3 ?_
  exact g_vret hC hR dX6_clear_15 h
abbrev wX6_addRow : List Cond := Cond.code yX6_addRow cX6_addRow 3 none :: gTs
abbrev rmX6_addRow : Room := { frames := 1, cells := 0, slots := 0, locals := 26 }
theorem kwX6_addRow {c0 : Cond} {rm : Room} (h1 : rmX6_addRow.frames + 1 ≤ rm.frames) (h2 : 8 + (3 + 11) + rmX6_addRow.locals ≤ rm.locals) : gCw (c0 :: gTs) rm yX6_addRow cX6_addRow 3 none wX6_addRow rmX6_addRow 2 := gCw_of wd_645 wd_47 h1 h2 (by decide +kernel)
def fX6_addRow (k1 n1 : Nat) (x2 : Int) (M : gMem) (Q : gMem → Prop) : Prop :=
  (0 ≤ (0 : Int) ∧ 0 ≤ (M 39 1) ∧ 0 ≤ x2 ∧ (0 : Int) + x2 ≤ n1 ∧ (M 39 1) + x2 ≤ 4808 ∧ ∀ M_1, M_1 = gCp M k1 40 0 (M 39 1) x2 → (∀ M_7, M_7 = gSt M_1 39 1 ((M_1 39 1) + x2) → ((0 ≤ (M_7 39 1) ∧ (M_7 39 1) < 4808) ∧ ∀ M_9, M_9 = gSt M_7 40 (M_7 39 1) 0 → (∀ M_10, M_10 = gSt M_9 39 1 ((M_9 39 1) + 1) → (∀ M_11, M_11 = gSt M_10 39 2 ((M_10 39 2) + 1) → Q M_11)))))
set_option maxHeartbeats 4000000 in
set_option maxRecDepth 100000 in
theorem ctX6_addRow {l : Launch} {z : gZ} (hZ : gZc z) {k1 n1 : Nat} {x2 : Int} (h1 : cL[k1]? = some (.inl (0, n1))) (hn1 : n1 < 2147483648) {M : gMem} {Q : gMem → Prop} (h : fX6_addRow k1 n1 x2 M Q) : gMV l z cL yX6_addRow wX6_addRow rmX6_addRow [(vr z 39), (vr z k1), (vi x2)] M Q := by
  refine g_metV (by decide) rfl rfl (gCat_all (And.intro rfl (And.intro rfl (And.intro rfl trivial)))) (Nat.le_of_ble_eq_true rfl) ?_
  intro y hC hR
  replace h : (0 ≤ (0 : Int) ∧ 0 ≤ (M 39 1) ∧ 0 ≤ x2 ∧ (0 : Int) + x2 ≤ n1 ∧ (M 39 1) + x2 ≤ 4808 ∧ ∀ M_1, M_1 = gCp M k1 40 0 (M 39 1) x2 → (∀ M_7, M_7 = gSt M_1 39 1 ((M_1 39 1) + x2) → ((0 ≤ (M_7 39 1) ∧ (M_7 39 1) < 4808) ∧ ∀ M_9, M_9 = gSt M_7 40 (M_7 39 1) 0 → (∀ M_10, M_10 = gSt M_9 39 1 ((M_9 39 1) + 1) → (∀ M_11, M_11 = gSt M_10 39 2 ((M_10 39 2) + 1) → Q M_11))))) := h
  refine g_lc (lc' := [some (vr z 39), some (vr z k1), some (vi x2)]) rfl ?_
  refine g_aload_n hC dX6_addRow_0 rfl rfl ?_
  refine g_iconst hC dX6_addRow_1 ?_
  refine g_aload_n hC dX6_addRow_2 rfl rfl ?_
  refine g_getr (r := 40) hC rfl (gc_k6 hZ) iwX6 0 (by decide) rfl rfl (wc wd_270) dX6_addRow_3 ?_
  refine g_aload_n hC dX6_addRow_6 rfl rfl ?_
  refine g_geti (ji := 1) hC rfl (gc_k6 hZ) iwX6 1 (by decide) rfl rfl (wc wd_271) dX6_addRow_7 rfl ?_
  refine g_iload_n hC dX6_addRow_10 rfl rfl ?_
  obtain ⟨ha_2, ha_3, ha_4, ha_5, ha_6, h⟩ := h
  obtain ⟨M_1, hM_1⟩ : ∃ M9, M9 = gCp M k1 40 0 (M 39 1) x2 := ⟨_, rfl⟩
  replace h := h M_1 hM_1
  refine g_acopy hC rfl 0 (Or.inl ⟨rfl, rfl⟩) h1 rfl (c_t0 hZ) hn1 (by decide) ha_2 ha_3 ha_4 ha_5 ha_6 (wc wd_646) (wc wd_362) (wc wd_361) (wc wd_50) (by decide) (Nat.le_of_ble_eq_true rfl) dX6_addRow_11 hM_1 ?_
  refine g_aload_n hC dX6_addRow_14 rfl rfl ?_
  refine g_dup hC dX6_addRow_15 rfl ?_
  refine g_geti (ji := 1) hC rfl (gc_k6 hZ) iwX6 1 (by decide) rfl rfl (wc wd_271) dX6_addRow_16 rfl ?_
  refine g_iload_n hC dX6_addRow_19 rfl rfl ?_
  refine g_iadd hC dX6_addRow_20 ?_
  obtain ⟨M_7, hM_7⟩ : ∃ M9, M9 = gSt M_1 39 1 ((M_1 39 1) + x2) := ⟨_, rfl⟩
  replace h := h M_7 hM_7
  refine g_puti (ji := 1) hC rfl (gc_k6 hZ) iwX6 tyX6_ok nmX6 1 (by decide) rfl rfl (wc wd_271) rfl rfl dX6_addRow_21 rfl hM_7 ?_
  refine g_aload_n hC dX6_addRow_24 rfl rfl ?_
  refine g_getr (r := 40) hC rfl (gc_k6 hZ) iwX6 0 (by decide) rfl rfl (wc wd_270) dX6_addRow_25 ?_
  refine g_aload_n hC dX6_addRow_28 rfl rfl ?_
  refine g_geti (ji := 1) hC rfl (gc_k6 hZ) iwX6 1 (by decide) rfl rfl (wc wd_271) dX6_addRow_29 rfl ?_
  refine g_iconst hC dX6_addRow_32 ?_
  obtain ⟨hb_8, h⟩ := h
  obtain ⟨M_9, hM_9⟩ : ∃ M9, M9 = gSt M_7 40 (M_7 39 1) 0 := ⟨_, rfl⟩
  replace h := h M_9 hM_9
  refine g_iast hC 0 rfl (c_t0 hZ) (by decide) hb_8 dX6_addRow_33 hM_9 ?_
  refine g_aload_n hC dX6_addRow_34 rfl rfl ?_
  refine g_dup hC dX6_addRow_35 rfl ?_
  refine g_geti (ji := 1) hC rfl (gc_k6 hZ) iwX6 1 (by decide) rfl rfl (wc wd_271) dX6_addRow_36 rfl ?_
  refine g_iconst hC dX6_addRow_39 ?_
  refine g_iadd hC dX6_addRow_40 ?_
  obtain ⟨M_10, hM_10⟩ : ∃ M9, M9 = gSt M_9 39 1 ((M_9 39 1) + 1) := ⟨_, rfl⟩
  replace h := h M_10 hM_10
  refine g_puti (ji := 1) hC rfl (gc_k6 hZ) iwX6 tyX6_ok nmX6 1 (by decide) rfl rfl (wc wd_271) rfl rfl dX6_addRow_41 rfl hM_10 ?_
  refine g_aload_n hC dX6_addRow_44 rfl rfl ?_
  refine g_dup hC dX6_addRow_45 rfl ?_
  refine g_geti (ji := 2) hC rfl (gc_k6 hZ) iwX6 2 (by decide) rfl rfl (wc wd_272) dX6_addRow_46 rfl ?_
  refine g_iconst hC dX6_addRow_49 ?_
  refine g_iadd hC dX6_addRow_50 ?_
  obtain ⟨M_11, hM_11⟩ : ∃ M9, M9 = gSt M_10 39 2 ((M_10 39 2) + 1) := ⟨_, rfl⟩
  replace h := h M_11 hM_11
  refine g_puti (ji := 2) hC rfl (gc_k6 hZ) iwX6 tyX6_ok nmX6 2 (by decide) rfl rfl (wc wd_272) rfl rfl dX6_addRow_51 rfl hM_11 ?_
  exact g_vret hC hR dX6_addRow_54 h
abbrev wX6_countPairs : List Cond := Cond.code yX6_countPairs cX6_countPairs 5 none :: gTs
abbrev rmX6_countPairs : Room := { frames := 3, cells := 0, slots := 0, locals := 68 }
theorem kwX6_countPairs {c0 : Cond} {rm : Room} (h1 : rmX6_countPairs.frames + 1 ≤ rm.frames) (h2 : 8 + (5 + 11) + rmX6_countPairs.locals ≤ rm.locals) : gCw (c0 :: gTs) rm yX6_countPairs cX6_countPairs 5 none wX6_countPairs rmX6_countPairs 0 := gCw_of wd_654 wd_47 h1 h2 (by decide +kernel)
def fX6_countPairs_J69  (x2 : Int) (x3 : Int) (x4 : Int) (s0 : Int) (M : gMem) (K11 : Int → Int → gMem → Prop) (Q : gMem → Prop) : Prop :=
  (rg s0 ∧ (s0 = 0 →
  (rg x3 ∧ (x3 = 0 →
    K11 s0 (x2 + 1) M) ∧
    (¬ x3 = 0 →
    (rg x4 ∧ (x4 = 0 →
      K11 s0 (x2 + 1) M) ∧
      (¬ x4 = 0 →
      (fX3_addPair x3 x4 M (fun M_24 =>
        K11 s0 (x2 + 1) M_24))))))) ∧
  (¬ s0 = 0 →
  K11 s0 (x2 + 1) M))
set_option maxHeartbeats 4000000 in
set_option maxRecDepth 100000 in
theorem ctX6_countPairs_J69 {y : gY} {z : gZ} {l : Launch}  {Q : gMem → Prop} {K11 : Int → Int → gMem → Prop} (hC : gC y z l cX6_countPairs RX6 5 wX6_countPairs rmX6_countPairs) (hR : gRV y z cL Q) (hZ : gZc z)  (hK11 : ∀ (x1 : Int) (x2 : Int) (M : gMem), K11 x1 x2 M → gW y z cL 11 [some (vr z 39), some (vi x1), some (vi x2), none, none] [] M) :
    ∀ (x2 : Int) (x3 : Int) (x4 : Int) (s0 : Int) (M : gMem), fX6_countPairs_J69 x2 x3 x4 s0 M K11 Q → gW y z cL 69 [some (vr z 39), none, some (vi x2), some (vi x3), some (vi x4)] [(vi s0)] M := by
  intro x2 x3 x4 s0 M h
  replace h : (rg s0 ∧ (s0 = 0 →
  (rg x3 ∧ (x3 = 0 →
    K11 s0 (x2 + 1) M) ∧
    (¬ x3 = 0 →
    (rg x4 ∧ (x4 = 0 →
      K11 s0 (x2 + 1) M) ∧
      (¬ x4 = 0 →
      (fX3_addPair x3 x4 M (fun M_24 =>
        K11 s0 (x2 + 1) M_24))))))) ∧
  (¬ s0 = 0 →
  K11 s0 (x2 + 1) M)) := h
  refine g_istore_n2 (lc' := [some (vr z 39), some (vi s0), some (vi x2), some (vi x3), some (vi x4)]) hC dX6_countPairs_69 rfl (Nat.le_of_ble_eq_true rfl) rfl ?_
  refine g_iload_n hC dX6_countPairs_70 rfl rfl ?_
  obtain ⟨hr_18, hA, hB⟩ := h
  refine g_ine hC 93 hr_18 dX6_countPairs_71 (by decide) (fun hc_19 => ?_) (fun hc_19 => ?_)
  · replace h := hA hc_19
    clear hA hB
    refine g_iload_n hC dX6_countPairs_74 rfl rfl ?_
    obtain ⟨hr_20, hA, hB⟩ := h
    refine g_ieq hC 93 hr_20 dX6_countPairs_75 (by decide) (fun hc_21 => ?_) (fun hc_21 => ?_)
    · replace h := hA hc_21
      clear hA hB
      refine g_iinc2 (lc' := [some (vr z 39), some (vi s0), some (vi (x2 + 1)), some (vi x3), some (vi x4)]) hC dX6_countPairs_93 rfl rfl ?_
      refine g_goto hC 11 dX6_countPairs_96 (by decide) ?_
      exact g_subk (hK11 s0 (x2 + 1) M h) (And.intro rfl (And.intro rfl (And.intro rfl trivial)))
    · replace h := hB hc_21
      clear hA hB
      refine g_iload hC dX6_countPairs_78 rfl ?_
      obtain ⟨hr_22, hA, hB⟩ := h
      refine g_ieq hC 93 hr_22 dX6_countPairs_80 (by decide) (fun hc_23 => ?_) (fun hc_23 => ?_)
      · replace h := hA hc_23
        clear hA hB
        refine g_iinc2 (lc' := [some (vr z 39), some (vi s0), some (vi (x2 + 1)), some (vi x3), some (vi x4)]) hC dX6_countPairs_93 rfl rfl ?_
        refine g_goto hC 11 dX6_countPairs_96 (by decide) ?_
        exact g_subk (hK11 s0 (x2 + 1) M h) (And.intro rfl (And.intro rfl (And.intro rfl trivial)))
      · replace h := hB hc_23
        clear hA hB
        refine g_aload_n hC dX6_countPairs_83 rfl rfl ?_
        refine g_getr (r := 41) hC rfl (gc_k6 hZ) iwX6 3 (by decide) rfl rfl (wc wd_273) dX6_countPairs_84 ?_
        refine g_iload_n hC dX6_countPairs_87 rfl rfl ?_
        refine g_iload hC dX6_countPairs_88 rfl ?_
        refine g_callv (g_runV (As := [(vi x3), (vi x4)]) (rest := []) hC rfl (ctX3_addPair hZ  h) rfl (gc_k3 hZ) (kwX3_addPair (by decide) (by decide)) rfl (wc wd_659) (wc wd_660) (wc wd_661) rfl (Nat.le_of_ble_eq_true rfl) rfl dX6_countPairs_90) (fun M_24 h => ?_)
        refine g_iinc2 (lc' := [some (vr z 39), some (vi s0), some (vi (x2 + 1)), some (vi x3), some (vi x4)]) hC dX6_countPairs_93 rfl rfl ?_
        refine g_goto hC 11 dX6_countPairs_96 (by decide) ?_
        exact g_subk (hK11 s0 (x2 + 1) M_24 h) (And.intro rfl (And.intro rfl (And.intro rfl trivial)))
  · replace h := hB hc_19
    clear hA hB
    refine g_iinc2 (lc' := [some (vr z 39), some (vi s0), some (vi (x2 + 1)), some (vi x3), some (vi x4)]) hC dX6_countPairs_93 rfl rfl ?_
    refine g_goto hC 11 dX6_countPairs_96 (by decide) ?_
    exact g_subk (hK11 s0 (x2 + 1) M h) (And.intro rfl (And.intro rfl (And.intro rfl trivial)))
def fX6_countPairs_J68  (x2 : Int) (x3 : Int) (x4 : Int) (M : gMem) (K11 : Int → Int → gMem → Prop) (Q : gMem → Prop) : Prop :=
  fX6_countPairs_J69 x2 x3 x4 0 M (fun x1_28 x2_29 M_30 => K11 x1_28 x2_29 M_30) Q
set_option maxHeartbeats 4000000 in
set_option maxRecDepth 100000 in
theorem ctX6_countPairs_J68 {y : gY} {z : gZ} {l : Launch}  {Q : gMem → Prop} {K11 : Int → Int → gMem → Prop} (hC : gC y z l cX6_countPairs RX6 5 wX6_countPairs rmX6_countPairs) (hR : gRV y z cL Q) (hZ : gZc z)  (hK11 : ∀ (x1 : Int) (x2 : Int) (M : gMem), K11 x1 x2 M → gW y z cL 11 [some (vr z 39), some (vi x1), some (vi x2), none, none] [] M) :
    ∀ (x2 : Int) (x3 : Int) (x4 : Int) (M : gMem), fX6_countPairs_J68 x2 x3 x4 M K11 Q → gW y z cL 68 [some (vr z 39), none, some (vi x2), some (vi x3), some (vi x4)] [] M := by
  intro x2 x3 x4 M h
  replace h : fX6_countPairs_J69 x2 x3 x4 0 M (fun x1_28 x2_29 M_30 => K11 x1_28 x2_29 M_30) Q := h
  refine g_iconst hC dX6_countPairs_68 ?_
  refine g_subk (ctX6_countPairs_J69 hC hR hZ ?_ x2 x3 x4 0 M h) (And.intro rfl (And.intro rfl (And.intro rfl (And.intro rfl trivial))))
  · intro x1_28 x2_29 M_30 h
    exact g_subk (hK11 x1_28 x2_29 M_30 h) (And.intro rfl (And.intro rfl (And.intro rfl trivial)))
def fX6_countPairs_L11  : Nat → Int → Int → gMem → (gMem → Prop) → Prop
  | 0, _, _, _, _ => False
  | n11 + 1, x1, x2, M, Q =>
    (rg (x2 + 1) ∧ rg (M 39 1) ∧ ((x2 + 1) < (M 39 1) →
    ((0 ≤ x2 ∧ x2 < 4808) ∧ ((0 ≤ (x2 + 1) ∧ (x2 + 1) < 4808) ∧ (rg x1 ∧ (x1 = 0 →
      (rg x2 ∧ (0 < x2 →
        ((0 ≤ (x2 - 1) ∧ (x2 - 1) < 4808) ∧ (rg (M 40 (x2 - 1)) ∧ rg (M 40 x2) ∧ ((M 40 (x2 - 1)) = (M 40 x2) →
          (rg (M 40 x2) ∧ rg (M 40 (x2 + 1)) ∧ ((M 40 x2) = (M 40 (x2 + 1)) →
            fX6_countPairs_J69 x2 (M 40 x2) (M 40 (x2 + 1)) 1 M (fun x1_25 x2_26 M_27 => fX6_countPairs_L11 n11 x1_25 x2_26 M_27 Q) Q) ∧
            (¬ (M 40 x2) = (M 40 (x2 + 1)) →
            fX6_countPairs_J68 x2 (M 40 x2) (M 40 (x2 + 1)) M (fun x1_31 x2_32 M_33 => fX6_countPairs_L11 n11 x1_31 x2_32 M_33 Q) Q))) ∧
          (¬ (M 40 (x2 - 1)) = (M 40 x2) →
          fX6_countPairs_J68 x2 (M 40 x2) (M 40 (x2 + 1)) M (fun x1_34 x2_35 M_36 => fX6_countPairs_L11 n11 x1_34 x2_35 M_36 Q) Q)))) ∧
        (¬ 0 < x2 →
        fX6_countPairs_J68 x2 (M 40 x2) (M 40 (x2 + 1)) M (fun x1_37 x2_38 M_39 => fX6_countPairs_L11 n11 x1_37 x2_38 M_39 Q) Q))) ∧
      (¬ x1 = 0 →
      fX6_countPairs_J68 x2 (M 40 x2) (M 40 (x2 + 1)) M (fun x1_40 x2_41 M_42 => fX6_countPairs_L11 n11 x1_40 x2_41 M_42 Q) Q))))) ∧
    (¬ (x2 + 1) < (M 39 1) →
    Q M))
set_option maxHeartbeats 4000000 in
set_option maxRecDepth 100000 in
theorem ctX6_countPairs_L11 {y : gY} {z : gZ} {l : Launch}  {Q : gMem → Prop}  (hC : gC y z l cX6_countPairs RX6 5 wX6_countPairs rmX6_countPairs) (hR : gRV y z cL Q) (hZ : gZc z)  :
    ∀ (n : Nat) (x1 : Int) (x2 : Int) (M : gMem), fX6_countPairs_L11 n x1 x2 M Q → gW y z cL 11 [some (vr z 39), some (vi x1), some (vi x2), none, none] [] M := by
  intro n
  induction n with
  | zero => intro x1 x2 M h; exact False.elim h
  | succ n11 ih =>
    intro x1 x2 M h
    replace h : (rg (x2 + 1) ∧ rg (M 39 1) ∧ ((x2 + 1) < (M 39 1) →
    ((0 ≤ x2 ∧ x2 < 4808) ∧ ((0 ≤ (x2 + 1) ∧ (x2 + 1) < 4808) ∧ (rg x1 ∧ (x1 = 0 →
      (rg x2 ∧ (0 < x2 →
        ((0 ≤ (x2 - 1) ∧ (x2 - 1) < 4808) ∧ (rg (M 40 (x2 - 1)) ∧ rg (M 40 x2) ∧ ((M 40 (x2 - 1)) = (M 40 x2) →
          (rg (M 40 x2) ∧ rg (M 40 (x2 + 1)) ∧ ((M 40 x2) = (M 40 (x2 + 1)) →
            fX6_countPairs_J69 x2 (M 40 x2) (M 40 (x2 + 1)) 1 M (fun x1_25 x2_26 M_27 => fX6_countPairs_L11 n11 x1_25 x2_26 M_27 Q) Q) ∧
            (¬ (M 40 x2) = (M 40 (x2 + 1)) →
            fX6_countPairs_J68 x2 (M 40 x2) (M 40 (x2 + 1)) M (fun x1_31 x2_32 M_33 => fX6_countPairs_L11 n11 x1_31 x2_32 M_33 Q) Q))) ∧
          (¬ (M 40 (x2 - 1)) = (M 40 x2) →
          fX6_countPairs_J68 x2 (M 40 x2) (M 40 (x2 + 1)) M (fun x1_34 x2_35 M_36 => fX6_countPairs_L11 n11 x1_34 x2_35 M_36 Q) Q)))) ∧
        (¬ 0 < x2 →
        fX6_countPairs_J68 x2 (M 40 x2) (M 40 (x2 + 1)) M (fun x1_37 x2_38 M_39 => fX6_countPairs_L11 n11 x1_37 x2_38 M_39 Q) Q))) ∧
      (¬ x1 = 0 →
      fX6_countPairs_J68 x2 (M 40 x2) (M 40 (x2 + 1)) M (fun x1_40 x2_41 M_42 => fX6_countPairs_L11 n11 x1_40 x2_41 M_42 Q) Q))))) ∧
    (¬ (x2 + 1) < (M 39 1) →
    Q M)) := h
    refine g_iload_n hC dX6_countPairs_11 rfl rfl ?_
    refine g_iconst hC dX6_countPairs_12 ?_
    refine g_iadd hC dX6_countPairs_13 ?_
    refine g_aload_n hC dX6_countPairs_14 rfl rfl ?_
    refine g_geti (ji := 1) hC rfl (gc_k6 hZ) iwX6 1 (by decide) rfl rfl (wc wd_271) dX6_countPairs_15 rfl ?_
    obtain ⟨hr_2, hr_3, hA, hB⟩ := h
    refine g_cge hC 99 hr_2 hr_3 dX6_countPairs_18 (by decide) (fun hc_4 => ?_) (fun hc_4 => ?_)
    · replace h := hA hc_4
      clear hA hB
      refine g_aload_n hC dX6_countPairs_21 rfl rfl ?_
      refine g_getr (r := 40) hC rfl (gc_k6 hZ) iwX6 0 (by decide) rfl rfl (wc wd_270) dX6_countPairs_22 ?_
      refine g_iload_n hC dX6_countPairs_25 rfl rfl ?_
      obtain ⟨hb_5, h⟩ := h
      refine g_iald hC 0 rfl (c_t0 hZ) (by decide) hb_5 dX6_countPairs_26 ?_
      refine g_istore_n2 (lc' := [some (vr z 39), some (vi x1), some (vi x2), some (vi (M 40 x2)), none]) hC dX6_countPairs_27 rfl (Nat.le_of_ble_eq_true rfl) rfl ?_
      refine g_aload_n hC dX6_countPairs_28 rfl rfl ?_
      refine g_getr (r := 40) hC rfl (gc_k6 hZ) iwX6 0 (by decide) rfl rfl (wc wd_270) dX6_countPairs_29 ?_
      refine g_iload_n hC dX6_countPairs_32 rfl rfl ?_
      refine g_iconst hC dX6_countPairs_33 ?_
      refine g_iadd hC dX6_countPairs_34 ?_
      obtain ⟨hb_6, h⟩ := h
      refine g_iald hC 0 rfl (c_t0 hZ) (by decide) hb_6 dX6_countPairs_35 ?_
      refine g_istore2 (lc' := [some (vr z 39), some (vi x1), some (vi x2), some (vi (M 40 x2)), some (vi (M 40 (x2 + 1)))]) hC dX6_countPairs_36 (Nat.le_of_ble_eq_true rfl) rfl ?_
      refine g_iload_n hC dX6_countPairs_38 rfl rfl ?_
      obtain ⟨hr_7, hA, hB⟩ := h
      refine g_ine hC 68 hr_7 dX6_countPairs_39 (by decide) (fun hc_8 => ?_) (fun hc_8 => ?_)
      · replace h := hA hc_8
        clear hA hB
        refine g_iload_n hC dX6_countPairs_42 rfl rfl ?_
        obtain ⟨hr_9, hA, hB⟩ := h
        refine g_ile hC 68 hr_9 dX6_countPairs_43 (by decide) (fun hc_10 => ?_) (fun hc_10 => ?_)
        · replace h := hA hc_10
          clear hA hB
          refine g_aload_n hC dX6_countPairs_46 rfl rfl ?_
          refine g_getr (r := 40) hC rfl (gc_k6 hZ) iwX6 0 (by decide) rfl rfl (wc wd_270) dX6_countPairs_47 ?_
          refine g_iload_n hC dX6_countPairs_50 rfl rfl ?_
          refine g_iconst hC dX6_countPairs_51 ?_
          refine g_isub hC dX6_countPairs_52 ?_
          obtain ⟨hb_11, h⟩ := h
          refine g_iald hC 0 rfl (c_t0 hZ) (by decide) hb_11 dX6_countPairs_53 ?_
          refine g_iload_n hC dX6_countPairs_54 rfl rfl ?_
          obtain ⟨hr_12, hr_13, hA, hB⟩ := h
          refine g_cne hC 68 hr_12 hr_13 dX6_countPairs_55 (by decide) (fun hc_14 => ?_) (fun hc_14 => ?_)
          · replace h := hA hc_14
            clear hA hB
            refine g_iload_n hC dX6_countPairs_58 rfl rfl ?_
            refine g_iload hC dX6_countPairs_59 rfl ?_
            obtain ⟨hr_15, hr_16, hA, hB⟩ := h
            refine g_cne hC 68 hr_15 hr_16 dX6_countPairs_61 (by decide) (fun hc_17 => ?_) (fun hc_17 => ?_)
            · replace h := hA hc_17
              clear hA hB
              refine g_iconst hC dX6_countPairs_64 ?_
              refine g_goto hC 69 dX6_countPairs_65 (by decide) ?_
              refine g_subk (ctX6_countPairs_J69 hC hR hZ ?_ x2 (M 40 x2) (M 40 (x2 + 1)) 1 M h) (And.intro rfl (And.intro rfl (And.intro rfl (And.intro rfl trivial))))
              · intro x1_25 x2_26 M_27 h
                exact g_subk (ih x1_25 x2_26 M_27 h) (And.intro rfl (And.intro rfl (And.intro rfl trivial)))
            · replace h := hB hc_17
              clear hA hB
              refine g_subk (ctX6_countPairs_J68 hC hR hZ ?_ x2 (M 40 x2) (M 40 (x2 + 1)) M h) (And.intro rfl (And.intro rfl (And.intro rfl (And.intro rfl trivial))))
              · intro x1_31 x2_32 M_33 h
                exact g_subk (ih x1_31 x2_32 M_33 h) (And.intro rfl (And.intro rfl (And.intro rfl trivial)))
          · replace h := hB hc_14
            clear hA hB
            refine g_subk (ctX6_countPairs_J68 hC hR hZ ?_ x2 (M 40 x2) (M 40 (x2 + 1)) M h) (And.intro rfl (And.intro rfl (And.intro rfl (And.intro rfl trivial))))
            · intro x1_34 x2_35 M_36 h
              exact g_subk (ih x1_34 x2_35 M_36 h) (And.intro rfl (And.intro rfl (And.intro rfl trivial)))
        · replace h := hB hc_10
          clear hA hB
          refine g_subk (ctX6_countPairs_J68 hC hR hZ ?_ x2 (M 40 x2) (M 40 (x2 + 1)) M h) (And.intro rfl (And.intro rfl (And.intro rfl (And.intro rfl trivial))))
          · intro x1_37 x2_38 M_39 h
            exact g_subk (ih x1_37 x2_38 M_39 h) (And.intro rfl (And.intro rfl (And.intro rfl trivial)))
      · replace h := hB hc_8
        clear hA hB
        refine g_subk (ctX6_countPairs_J68 hC hR hZ ?_ x2 (M 40 x2) (M 40 (x2 + 1)) M h) (And.intro rfl (And.intro rfl (And.intro rfl (And.intro rfl trivial))))
        · intro x1_40 x2_41 M_42 h
          exact g_subk (ih x1_40 x2_41 M_42 h) (And.intro rfl (And.intro rfl (And.intro rfl trivial)))
    · replace h := hB hc_4
      clear hA hB
      exact g_vret hC hR dX6_countPairs_99 h
def fX6_countPairs  (M : gMem) (Q : gMem → Prop) : Prop :=
  (fX3_clear M (fun M_1 =>
  ∃ n_43, fX6_countPairs_L11 n_43 0 0 M_1 Q))
set_option maxHeartbeats 4000000 in
set_option maxRecDepth 100000 in
theorem ctX6_countPairs {l : Launch} {z : gZ} (hZ : gZc z)   {M : gMem} {Q : gMem → Prop} (h : fX6_countPairs  M Q) : gMV l z cL yX6_countPairs wX6_countPairs rmX6_countPairs [(vr z 39)] M Q := by
  refine g_metV (by decide) rfl rfl (gCat_all (And.intro rfl trivial)) (Nat.le_of_ble_eq_true rfl) ?_
  intro y hC hR
  replace h : (fX3_clear M (fun M_1 =>
  ∃ n_43, fX6_countPairs_L11 n_43 0 0 M_1 Q)) := h
  refine g_lc (lc' := [some (vr z 39), none, none, none, none]) rfl ?_
  refine g_aload_n hC dX6_countPairs_0 rfl rfl ?_
  refine g_getr (r := 41) hC rfl (gc_k6 hZ) iwX6 3 (by decide) rfl rfl (wc wd_273) dX6_countPairs_1 ?_
  refine g_callv (g_runV (As := []) (rest := []) hC rfl (ctX3_clear hZ  h) rfl (gc_k3 hZ) (kwX3_clear (by decide) (by decide)) rfl (wc wd_655) (wc wd_656) (wc wd_657) rfl (Nat.le_of_ble_eq_true rfl) rfl dX6_countPairs_4) (fun M_1 h => ?_)
  refine g_iconst hC dX6_countPairs_7 ?_
  refine g_istore_n2 (lc' := [some (vr z 39), some (vi 0), none, none, none]) hC dX6_countPairs_8 rfl (Nat.le_of_ble_eq_true rfl) rfl ?_
  refine g_iconst hC dX6_countPairs_9 ?_
  refine g_istore_n2 (lc' := [some (vr z 39), some (vi 0), some (vi 0), none, none]) hC dX6_countPairs_10 rfl (Nat.le_of_ble_eq_true rfl) rfl ?_
  obtain ⟨n_43, h⟩ := h
  refine g_subk (ctX6_countPairs_L11 hC hR hZ  n_43 0 0 M_1 h) (And.intro rfl (And.intro rfl (And.intro rfl trivial)))
