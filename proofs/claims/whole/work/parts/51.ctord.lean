abbrev wX0_init : List Cond := Cond.code yX0_init cX0_init 2 none :: gTs
abbrev rmX0_init : Room := { frames := 1, cells := 2, slots := 1201, locals := 20 }
def bwX0_init (h0 f1 : Nat) (u : bS) : va_W := [(h0, .inr (0, [.ref f1, .ref (u.1 0), .ref (u.1 1), .int 0, .int 0])), ((u.1 0), .inl ((u.2 0), 600, .inl (fun _ => 0))), ((u.1 1), .inl ((u.2 0), 601, .inl (fun _ => 0)))]
def bkX0_init (u : bS) : List (ClassId × FieldType) := [(u.2 0, .int)]
set_option maxHeartbeats 8000000 in
set_option maxRecDepth 100000 in
theorem ciX0_init {l : Launch} {dC : Nat → ClassId} {dI : Nat → Nat → Nat} (h0 f1 sz : Nat) : Met l yX0_init wX0_init rmX0_init (va_Pc [.ref h0, .ref f1] (bPre dC dI [(h0, .inr (0, [.null, .null, .null, .int 0, .int 0]))] sz)) (va_Qv (fun _ : bS => True) (bB dC dI (va_A [(h0, .inr (0, [.null, .null, .null, .int 0, .int 0]))] sz) (bwX0_init h0 f1) bkX0_init) (va_A [(h0, .inr (0, [.null, .null, .null, .int 0, .int 0]))] sz)) 2 1201 (va_A [(h0, .inr (0, [.null, .null, .null, .int 0, .int 0]))] sz) := by
  refine Met.ofW (cc := cX0_init) (maxL := 2) (ret := none) (by decide) rfl ?_
  intro p e s m args below meth c s₁ B hml hv
  obtain ⟨rfl, hsz, hP, hK, hN, hD0⟩ := hv
  have hx := B.exec
  have hb := B.bytes
  have hr := B.returns
  have hts := atoms_spec (ws := wX0_init) B.pre
  have hown : s.vm.findClass RX0 = some m.cls := findClass_of_methodNamed B.named
  have hlocks := B.notSynchronized
  have hin : meth.name = "<init>" := (name_of_methodNamed B.named B.method).1
  subst hsz
  have hD := hD0.self (sz := s.heap.size)
  generalize hAe : va_A [(h0, .inr (0, [.null, .null, .null, .int 0, .int 0]))] s.heap.size = A at hD ⊢
  have hA : ∀ q : Nat, s.heap.size ≤ q → A q := fun q h => by rw [← hAe]; exact Or.inr h
  have hS : va_S A s.heap s.heap [] := va_S.rf
  have hl := lv_entry ([.ref h0, .ref f1]) (n := 2) (Nat.le_of_ble_eq_true rfl)
  rw [lg_entry_eq]
  generalize (lg_sl ([.ref h0, .ref f1]) ++ List.replicate (2 - (lg_sl ([.ref h0, .ref f1])).length) Slot.unset).toArray = ls at hl ⊢
  have hl : lv_has ls 2 [(0, .ref h0), (1, .ref f1)] := hl
  refine lv_aload_n hx hb dX0_init_0 rfl (lv_at hl 0 rfl) ?_
  refine W.objInit hx hb hown (hts _ (wc wd_132)) (hts _ (wc wd_58)) (hts _ (wc wd_59)) rfl (by rw [hml]; exact hl.1) rfl dX0_init_1 (Nat.le_of_ble_eq_true rfl) (Nat.le_of_ble_eq_true rfl) ?_
  refine W.eq (g2 := F0 m 4 ls []) rfl ?_
  refine lv_aload_n hx hb dX0_init_4 rfl (lv_at hl 0 rfl) ?_
  refine lv_sipush (v := 600) hx hb dX0_init_5 (by decide) ?_
  refine va_newa (atype := .int) (ty := .int) (N' := 600) (a0 := (600, .inl (fun _ => 0))) hx hb (hts _ (wc wd_80)) rfl hK hP hD hS hA (bCellI 600) (by decide) (by decide) (by decide) (Nat.le_of_ble_eq_true rfl) (Nat.le_of_ble_eq_true rfl) dX0_init_8 (fun q1 c2 H hK hP hD hS => ?_)
  refine W.widen (k := 1) (n := 600) (Nat.le_of_ble_eq_true rfl) (Nat.le_of_ble_eq_true rfl) ?_
  have hK : va_K (dC, dI) vwCl [(c2, .int)] s := hK
  have hP : va_P (dC, dI) vwCl [(h0, .inr (0, [.null, .null, .null, .int 0, .int 0])), (q1, .inl (c2, 600, .inl (fun _ => 0)))] H := hP
  have hD : va_D A [(h0, .inr (0, [.null, .null, .null, .int 0, .int 0])), (q1, .inl (c2, 600, .inl (fun _ => 0)))] := hD
  refine va_putF (D := (dC, dI)) (ci := 0) (v := .ref q1) (ty := .array .int) (C := RX0) (T := TX0) (N := 5) hx hb hts iwX0 tyX0 tyX0_ok nmX0 hown hK hP hD hS 0 rfl rfl 1 (by decide) (hts _ (wc wd_134)) (fun _ h9 => h9) rfl hin rfl (by decide +kernel) rfl rfl (Nat.le_of_ble_eq_true rfl) dX0_init_10 (fun H locs hP hD hS => ?_)
  have hP : va_P (dC, dI) vwCl [(h0, .inr (0, [.null, .ref q1, .null, .int 0, .int 0])), (q1, .inl (c2, 600, .inl (fun _ => 0)))] H := hP
  have hD : va_D A [(h0, .inr (0, [.null, .ref q1, .null, .int 0, .int 0])), (q1, .inl (c2, 600, .inl (fun _ => 0)))] := hD
  refine lv_aload_n hx hb dX0_init_13 rfl (lv_at hl 0 rfl) ?_
  refine lv_sipush (v := 601) hx hb dX0_init_14 (by decide) ?_
  refine va_newa (atype := .int) (ty := .int) (N' := 601) (a0 := (601, .inl (fun _ => 0))) hx hb (hts _ (wc wd_80)) rfl hK hP hD hS hA (bCellI 601) (by decide) (by decide) (by decide) (Nat.le_of_ble_eq_true rfl) (Nat.le_of_ble_eq_true rfl) dX0_init_17 (fun q3 c4 H hK hP hD hS => ?_)
  refine W.widen (k := 2) (n := 1201) (Nat.le_of_ble_eq_true rfl) (Nat.le_of_ble_eq_true rfl) ?_
  obtain rfl : c2 = c4 := bEq (fun _ h => by cases h) (hK.2 0 _ rfl).2 (hK.2 1 _ rfl).2
  have hK := hK.sub (tys' := [(c2, .int)]) [0] rfl
  have hK : va_K (dC, dI) vwCl [(c2, .int)] s := hK
  have hP : va_P (dC, dI) vwCl [(h0, .inr (0, [.null, .ref q1, .null, .int 0, .int 0])), (q1, .inl (c2, 600, .inl (fun _ => 0))), (q3, .inl (c2, 601, .inl (fun _ => 0)))] H := hP
  have hD : va_D A [(h0, .inr (0, [.null, .ref q1, .null, .int 0, .int 0])), (q1, .inl (c2, 600, .inl (fun _ => 0))), (q3, .inl (c2, 601, .inl (fun _ => 0)))] := hD
  refine va_putF (D := (dC, dI)) (ci := 0) (v := .ref q3) (ty := .array .int) (C := RX0) (T := TX0) (N := 5) hx hb hts iwX0 tyX0 tyX0_ok nmX0 hown hK hP hD hS 0 rfl rfl 2 (by decide) (hts _ (wc wd_136)) (fun _ h9 => h9) rfl hin rfl (by decide +kernel) rfl rfl (Nat.le_of_ble_eq_true rfl) dX0_init_19 (fun H locs hP hD hS => ?_)
  have hP : va_P (dC, dI) vwCl [(h0, .inr (0, [.null, .ref q1, .ref q3, .int 0, .int 0])), (q1, .inl (c2, 600, .inl (fun _ => 0))), (q3, .inl (c2, 601, .inl (fun _ => 0)))] H := hP
  have hD : va_D A [(h0, .inr (0, [.null, .ref q1, .ref q3, .int 0, .int 0])), (q1, .inl (c2, 600, .inl (fun _ => 0))), (q3, .inl (c2, 601, .inl (fun _ => 0)))] := hD
  refine lv_aload_n hx hb dX0_init_22 rfl (lv_at hl 0 rfl) ?_
  refine lv_aload_n hx hb dX0_init_23 rfl (lv_at hl 1 rfl) ?_
  refine va_putF (D := (dC, dI)) (ci := 0) (v := .ref f1) (ty := .object "CutStore$Files") (C := RX0) (T := TX0) (N := 5) hx hb hts iwX0 tyX0 tyX0_ok nmX0 hown hK hP hD hS 0 rfl rfl 0 (by decide) (hts _ (wc wd_133)) (fun _ h9 => h9) rfl hin rfl (by decide +kernel) rfl rfl (Nat.le_of_ble_eq_true rfl) dX0_init_24 (fun H locs hP hD hS => ?_)
  have hP : va_P (dC, dI) vwCl [(h0, .inr (0, [.ref f1, .ref q1, .ref q3, .int 0, .int 0])), (q1, .inl (c2, 600, .inl (fun _ => 0))), (q3, .inl (c2, 601, .inl (fun _ => 0)))] H := hP
  have hD : va_D A [(h0, .inr (0, [.ref f1, .ref q1, .ref q3, .int 0, .int 0])), (q1, .inl (c2, 600, .inl (fun _ => 0))), (q3, .inl (c2, 601, .inl (fun _ => 0)))] := hD
  have hP9 : va_P (dC, dI) vwCl (bwX0_init h0 f1 ((fun k => ([q1, q3] : List Nat).getD k 0), (fun k => ([c2] : List ClassId).getD k c2))) H := hP
  have hD9 : va_D A (bwX0_init h0 f1 ((fun k => ([q1, q3] : List Nat).getD k 0), (fun k => ([c2] : List ClassId).getD k c2))) := hD
  have hK9 : va_K (dC, dI) vwCl (bkX0_init ((fun k => ([q1, q3] : List Nat).getD k 0), (fun k => ([c2] : List ClassId).getD k c2))) s := hK
  exact W.vret hx hb hr (fun t ht hW => ⟨⟨((fun k => ([q1, q3] : List Nat).getD k 0), (fun k => ([c2] : List ClassId).getD k c2)), rfl, trivial, by rw [ht]; exact hP9, va_K.moved hW.alike hK9, hD9⟩, hS.F ht⟩) hS.2.2 dX0_init_27
