abbrev wX2_init : List Cond := Cond.code yX2_init cX2_init 1 none :: gTs
abbrev rmX2_init : Room := { frames := 1, cells := 2, slots := 4808, locals := 20 }
def bwX2_init (h0 : Nat) (u : bS) : va_W := [(h0, .inr (2, [.ref (u.1 0), .ref (u.1 1)])), ((u.1 0), .inl ((u.2 0), 4800, .inl (fun _ => 0))), ((u.1 1), .inl ((u.2 1), 8, .inl (fun _ => 0)))]
def bkX2_init (u : bS) : List (ClassId × FieldType) := [(u.2 0, .byte), (u.2 1, .int)]
set_option maxHeartbeats 8000000 in
set_option maxRecDepth 100000 in
theorem ciX2_init {l : Launch} {dC : Nat → ClassId} {dI : Nat → Nat → Nat} (h0 sz : Nat) : Met l yX2_init wX2_init rmX2_init (va_Pc [.ref h0] (bPre dC dI [(h0, .inr (2, [.null, .null]))] sz)) (va_Qv (fun _ : bS => True) (bB dC dI (va_A [(h0, .inr (2, [.null, .null]))] sz) (bwX2_init h0 ) bkX2_init) (va_A [(h0, .inr (2, [.null, .null]))] sz)) 2 4808 (va_A [(h0, .inr (2, [.null, .null]))] sz) := by
  refine Met.ofW (cc := cX2_init) (maxL := 1) (ret := none) (by decide) rfl ?_
  intro p e s m args below meth c s₁ B hml hv
  obtain ⟨rfl, hsz, hP, hK, hN, hD0⟩ := hv
  have hx := B.exec
  have hb := B.bytes
  have hr := B.returns
  have hts := atoms_spec (ws := wX2_init) B.pre
  have hown : s.vm.findClass RX2 = some m.cls := findClass_of_methodNamed B.named
  have hlocks := B.notSynchronized
  have hin : meth.name = "<init>" := (name_of_methodNamed B.named B.method).1
  subst hsz
  have hD := hD0.self (sz := s.heap.size)
  generalize hAe : va_A [(h0, .inr (2, [.null, .null]))] s.heap.size = A at hD ⊢
  have hA : ∀ q : Nat, s.heap.size ≤ q → A q := fun q h => by rw [← hAe]; exact Or.inr h
  have hS : va_S A s.heap s.heap [] := va_S.rf
  have hl := lv_entry ([.ref h0]) (n := 1) (Nat.le_of_ble_eq_true rfl)
  rw [lg_entry_eq]
  generalize (lg_sl ([.ref h0]) ++ List.replicate (1 - (lg_sl ([.ref h0])).length) Slot.unset).toArray = ls at hl ⊢
  have hl : lv_has ls 1 [(0, .ref h0)] := hl
  refine lv_aload_n hx hb dX2_init_0 rfl (lv_at hl 0 rfl) ?_
  refine W.objInit hx hb hown (hts _ (wc wd_65)) (hts _ (wc wd_58)) (hts _ (wc wd_59)) rfl (by rw [hml]; exact hl.1) rfl dX2_init_1 (Nat.le_of_ble_eq_true rfl) (Nat.le_of_ble_eq_true rfl) ?_
  refine W.eq (g2 := F0 m 4 ls []) rfl ?_
  refine lv_aload_n hx hb dX2_init_4 rfl (lv_at hl 0 rfl) ?_
  refine lv_sipush (v := 4800) hx hb dX2_init_5 (by decide) ?_
  refine va_newa (atype := .byte) (ty := .byte) (N' := 4800) (a0 := (4800, .inl (fun _ => 0))) hx hb (hts _ (wc wd_79)) rfl hK hP hD hS hA (bCellB 4800) (by decide) (by decide) (by decide) (Nat.le_of_ble_eq_true rfl) (Nat.le_of_ble_eq_true rfl) dX2_init_8 (fun q1 c2 H hK hP hD hS => ?_)
  refine W.widen (k := 1) (n := 4800) (Nat.le_of_ble_eq_true rfl) (Nat.le_of_ble_eq_true rfl) ?_
  have hK : va_K (dC, dI) vwCl [(c2, .byte)] s := hK
  have hP : va_P (dC, dI) vwCl [(h0, .inr (2, [.null, .null])), (q1, .inl (c2, 4800, .inl (fun _ => 0)))] H := hP
  have hD : va_D A [(h0, .inr (2, [.null, .null])), (q1, .inl (c2, 4800, .inl (fun _ => 0)))] := hD
  refine va_putF (D := (dC, dI)) (ci := 2) (v := .ref q1) (ty := .array .byte) (C := RX2) (T := TX2) (N := 2) hx hb hts iwX2 tyX2 tyX2_ok nmX2 hown hK hP hD hS 0 rfl rfl 0 (by decide) (hts _ (wc wd_66)) (fun _ h9 => h9) rfl hin rfl (by decide +kernel) rfl rfl (Nat.le_of_ble_eq_true rfl) dX2_init_10 (fun H locs hP hD hS => ?_)
  have hP : va_P (dC, dI) vwCl [(h0, .inr (2, [.ref q1, .null])), (q1, .inl (c2, 4800, .inl (fun _ => 0)))] H := hP
  have hD : va_D A [(h0, .inr (2, [.ref q1, .null])), (q1, .inl (c2, 4800, .inl (fun _ => 0)))] := hD
  refine lv_aload_n hx hb dX2_init_13 rfl (lv_at hl 0 rfl) ?_
  refine lv_bipush (v := 8) hx hb dX2_init_14 (by decide) ?_
  refine va_newa (atype := .int) (ty := .int) (N' := 8) (a0 := (8, .inl (fun _ => 0))) hx hb (hts _ (wc wd_80)) rfl hK hP hD hS hA (bCellI 8) (by decide) (by decide) (by decide) (Nat.le_of_ble_eq_true rfl) (Nat.le_of_ble_eq_true rfl) dX2_init_16 (fun q3 c4 H hK hP hD hS => ?_)
  refine W.widen (k := 2) (n := 4808) (Nat.le_of_ble_eq_true rfl) (Nat.le_of_ble_eq_true rfl) ?_
  have hK : va_K (dC, dI) vwCl [(c2, .byte), (c4, .int)] s := hK
  have hP : va_P (dC, dI) vwCl [(h0, .inr (2, [.ref q1, .null])), (q1, .inl (c2, 4800, .inl (fun _ => 0))), (q3, .inl (c4, 8, .inl (fun _ => 0)))] H := hP
  have hD : va_D A [(h0, .inr (2, [.ref q1, .null])), (q1, .inl (c2, 4800, .inl (fun _ => 0))), (q3, .inl (c4, 8, .inl (fun _ => 0)))] := hD
  refine va_putF (D := (dC, dI)) (ci := 2) (v := .ref q3) (ty := .array .int) (C := RX2) (T := TX2) (N := 2) hx hb hts iwX2 tyX2 tyX2_ok nmX2 hown hK hP hD hS 0 rfl rfl 1 (by decide) (hts _ (wc wd_70)) (fun _ h9 => h9) rfl hin rfl (by decide +kernel) rfl rfl (Nat.le_of_ble_eq_true rfl) dX2_init_18 (fun H locs hP hD hS => ?_)
  have hP : va_P (dC, dI) vwCl [(h0, .inr (2, [.ref q1, .ref q3])), (q1, .inl (c2, 4800, .inl (fun _ => 0))), (q3, .inl (c4, 8, .inl (fun _ => 0)))] H := hP
  have hD : va_D A [(h0, .inr (2, [.ref q1, .ref q3])), (q1, .inl (c2, 4800, .inl (fun _ => 0))), (q3, .inl (c4, 8, .inl (fun _ => 0)))] := hD
  have hP9 : va_P (dC, dI) vwCl (bwX2_init h0  ((fun k => ([q1, q3] : List Nat).getD k 0), (fun k => ([c2, c4] : List ClassId).getD k c2))) H := hP
  have hD9 : va_D A (bwX2_init h0  ((fun k => ([q1, q3] : List Nat).getD k 0), (fun k => ([c2, c4] : List ClassId).getD k c2))) := hD
  have hK9 : va_K (dC, dI) vwCl (bkX2_init ((fun k => ([q1, q3] : List Nat).getD k 0), (fun k => ([c2, c4] : List ClassId).getD k c2))) s := hK
  exact W.vret hx hb hr (fun t ht hW => ⟨⟨((fun k => ([q1, q3] : List Nat).getD k 0), (fun k => ([c2, c4] : List ClassId).getD k c2)), rfl, trivial, by rw [ht]; exact hP9, va_K.moved hW.alike hK9, hD9⟩, hS.F ht⟩) hS.2.2 dX2_init_21
