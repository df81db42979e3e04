abbrev wX6_init : List Cond := Cond.code yX6_init cX6_init 1 none :: gTs
abbrev rmX6_init : Room := { frames := 2, cells := 8, slots := 29992, locals := 40 }
def bwX6_init (h0 : Nat) (u : bS) : va_W := [(h0, .inr (6, [.ref (u.1 0), .int 0, .int 0, .ref (u.1 1), .ref (u.1 5), .ref (u.1 6), .ref (u.1 7), .int 0])), ((u.1 0), .inl ((u.2 0), 4808, .inl (fun _ => 0))), ((u.1 1), .inr (3, [.ref (u.1 2), .ref (u.1 3), .ref (u.1 4), .int 0, .int 0, .int 0, .int 0, .int 0])), ((u.1 2), .inl ((u.2 0), 8192, .inl (fun _ => 0))), ((u.1 3), .inl ((u.2 0), 8192, .inl (fun _ => 0))), ((u.1 4), .inl ((u.2 0), 8192, .inl (fun _ => 0))), ((u.1 5), .inl ((u.2 0), 200, .inl (fun _ => 0))), ((u.1 6), .inl ((u.2 0), 200, .inl (fun _ => 0))), ((u.1 7), .inl ((u.2 0), 200, .inl (fun _ => 0)))]
def bkX6_init (u : bS) : List (ClassId × FieldType) := [(u.2 0, .int)]
set_option maxHeartbeats 8000000 in
set_option maxRecDepth 100000 in
theorem ciX6_init {l : Launch} {dC : Nat → ClassId} {dI : Nat → Nat → Nat} (h0 sz : Nat) : Met l yX6_init wX6_init rmX6_init (va_Pc [.ref h0] (bPre dC dI [(h0, .inr (6, [.null, .int 0, .int 0, .null, .null, .null, .null, .int 0]))] sz)) (va_Qv (fun _ : bS => True) (bB dC dI (va_A [(h0, .inr (6, [.null, .int 0, .int 0, .null, .null, .null, .null, .int 0]))] sz) (bwX6_init h0 ) bkX6_init) (va_A [(h0, .inr (6, [.null, .int 0, .int 0, .null, .null, .null, .null, .int 0]))] sz)) 8 29992 (va_A [(h0, .inr (6, [.null, .int 0, .int 0, .null, .null, .null, .null, .int 0]))] sz) := by
  refine Met.ofW (cc := cX6_init) (maxL := 1) (ret := none) (by decide) rfl ?_
  intro p e s m args below meth c s₁ B hml hv
  obtain ⟨rfl, hsz, hP, hK, hN, hD0⟩ := hv
  have hx := B.exec
  have hb := B.bytes
  have hr := B.returns
  have hts := atoms_spec (ws := wX6_init) B.pre
  have hown : s.vm.findClass RX6 = some m.cls := findClass_of_methodNamed B.named
  have hlocks := B.notSynchronized
  have hin : meth.name = "<init>" := (name_of_methodNamed B.named B.method).1
  subst hsz
  have hD := hD0.self (sz := s.heap.size)
  generalize hAe : va_A [(h0, .inr (6, [.null, .int 0, .int 0, .null, .null, .null, .null, .int 0]))] s.heap.size = A at hD ⊢
  have hA : ∀ q : Nat, s.heap.size ≤ q → A q := fun q h => by rw [← hAe]; exact Or.inr h
  have hS : va_S A s.heap s.heap [] := va_S.rf
  have hl := lv_entry ([.ref h0]) (n := 1) (Nat.le_of_ble_eq_true rfl)
  rw [lg_entry_eq]
  generalize (lg_sl ([.ref h0]) ++ List.replicate (1 - (lg_sl ([.ref h0])).length) Slot.unset).toArray = ls at hl ⊢
  have hl : lv_has ls 1 [(0, .ref h0)] := hl
  refine lv_aload_n hx hb dX6_init_0 rfl (lv_at hl 0 rfl) ?_
  refine W.objInit hx hb hown (hts _ (wc wd_235)) (hts _ (wc wd_58)) (hts _ (wc wd_59)) rfl (by rw [hml]; exact hl.1) rfl dX6_init_1 (Nat.le_of_ble_eq_true rfl) (Nat.le_of_ble_eq_true rfl) ?_
  refine W.eq (g2 := F0 m 4 ls []) rfl ?_
  refine lv_aload_n hx hb dX6_init_4 rfl (lv_at hl 0 rfl) ?_
  refine lv_sipush (v := 4808) hx hb dX6_init_5 (by decide) ?_
  refine va_newa (atype := .int) (ty := .int) (N' := 4808) (a0 := (4808, .inl (fun _ => 0))) hx hb (hts _ (wc wd_80)) rfl hK hP hD hS hA (bCellI 4808) (by decide) (by decide) (by decide) (Nat.le_of_ble_eq_true rfl) (Nat.le_of_ble_eq_true rfl) dX6_init_8 (fun q1 c2 H hK hP hD hS => ?_)
  refine W.widen (k := 1) (n := 4808) (Nat.le_of_ble_eq_true rfl) (Nat.le_of_ble_eq_true rfl) ?_
  have hK : va_K (dC, dI) vwCl [(c2, .int)] s := hK
  have hP : va_P (dC, dI) vwCl [(h0, .inr (6, [.null, .int 0, .int 0, .null, .null, .null, .null, .int 0])), (q1, .inl (c2, 4808, .inl (fun _ => 0)))] H := hP
  have hD : va_D A [(h0, .inr (6, [.null, .int 0, .int 0, .null, .null, .null, .null, .int 0])), (q1, .inl (c2, 4808, .inl (fun _ => 0)))] := hD
  refine va_putF (D := (dC, dI)) (ci := 6) (v := .ref q1) (ty := .array .int) (C := RX6) (T := TX6) (N := 8) hx hb hts iwX6 tyX6 tyX6_ok nmX6 hown hK hP hD hS 0 rfl rfl 0 (by decide) (hts _ (wc wd_270)) (fun _ h9 => h9) rfl hin rfl (by decide +kernel) rfl rfl (Nat.le_of_ble_eq_true rfl) dX6_init_10 (fun H locs hP hD hS => ?_)
  have hP : va_P (dC, dI) vwCl [(h0, .inr (6, [.ref q1, .int 0, .int 0, .null, .null, .null, .null, .int 0])), (q1, .inl (c2, 4808, .inl (fun _ => 0)))] H := hP
  have hD : va_D A [(h0, .inr (6, [.ref q1, .int 0, .int 0, .null, .null, .null, .null, .int 0])), (q1, .inl (c2, 4808, .inl (fun _ => 0)))] := hD
  refine lv_aload_n hx hb dX6_init_13 rfl (lv_at hl 0 rfl) ?_
  refine va_new (ci := 3) (fs := [.null, .null, .null, .int 0, .int 0, .int 0, .int 0, .int 0]) (C := RX3) (T := TX3) (N := 8) hx hb hts iwX3 tyX3 tyX3_ok hown (hts _ (wc wd_236)) (hts _ (wc wd_237)) (hts _ (wc wd_48)) hK hP hD hS hA rfl (fun j hj => by rcases (show j = 0 ∨ j = 1 ∨ j = 2 ∨ j = 3 ∨ j = 4 ∨ j = 5 ∨ j = 6 ∨ j = 7 by omega) with rfl | rfl | rfl | rfl | rfl | rfl | rfl | rfl <;> rfl) (Nat.le_of_ble_eq_true rfl) (Nat.le_of_ble_eq_true rfl) dX6_init_14 (fun q3 H hP hD hS => ?_)
  refine W.widen (k := 2) (n := 4816) (Nat.le_of_ble_eq_true rfl) (Nat.le_of_ble_eq_true rfl) ?_
  have hP : va_P (dC, dI) vwCl [(h0, .inr (6, [.ref q1, .int 0, .int 0, .null, .null, .null, .null, .int 0])), (q1, .inl (c2, 4808, .inl (fun _ => 0))), (q3, .inr (3, [.null, .null, .null, .int 0, .int 0, .int 0, .int 0, .int 0]))] H := hP
  have hD : va_D A [(h0, .inr (6, [.ref q1, .int 0, .int 0, .null, .null, .null, .null, .int 0])), (q1, .inl (c2, 4808, .inl (fun _ => 0))), (q3, .inr (3, [.null, .null, .null, .int 0, .int 0, .int 0, .int 0, .int 0]))] := hD
  refine lv_dup hx hb dX6_init_17 rfl ?_
  have hPc := hP.sub (ws' := [(q3, .inr (3, [.null, .null, .null, .int 0, .int 0, .int 0, .int 0, .int 0]))]) [2] rfl
  have hDc := hD.sub (ws' := [(q3, .inr (3, [.null, .null, .null, .int 0, .int 0, .int 0, .int 0, .int 0]))]) [2] (by decide) rfl
  have hKc := hK.sub (tys' := []) [] rfl
  have hFc := va_free (wc := [(q3, .inr (3, [.null, .null, .null, .int 0, .int 0, .int 0, .int 0, .int 0]))]) hD hS hA [2] rfl
  refine va_callv (va_runIN (As := []) (rest := [.ref q3, .ref h0]) ⟨hx, hb, hml, hown, hts⟩ (ciX3_init (l := l) (dC := dC) (dI := dI) q3 H.size) ⟨va_cnB (host := "CutStore") 0 hts (bGood (wd_240) rfl) rfl rfl rfl (hN.1 _ (List.mem_of_getElem? (i := 4) rfl)) (hts _ (wc wd_48)) (by decide +kernel) ⟨Nat.le_of_ble_eq_true rfl, Nat.le_of_ble_eq_true rfl⟩, rfl, hts _ (wc wd_239)⟩ ⟨bBlind, fun U hU hW => ⟨rfl, by rw [hU], by rw [hU]; exact hPc, va_K.moved hW.alike hKc, bN.warm hW hN, hDc.weaken (fun _ _ _ _ => trivial)⟩⟩ rfl rfl hl.1 rfl (lv_room (Nat.le_of_ble_eq_true rfl)) dX6_init_18 ⟨Nat.le_of_ble_eq_true rfl, Nat.le_of_ble_eq_true rfl⟩) hS (fun q _ h => hFc q h) hFc (fun u t H1 locs ht hvm hw hB hz1 hk1 hS => ?_)
  obtain ⟨Q4, C5⟩ := u
  obtain ⟨hP1, hK1, hD1⟩ := hB
  rw [ht] at hP1
  have hK1 := va_K.moved hvm.symm hK1
  obtain ⟨hP, hD⟩ := va_join (wr := [(h0, .inr (6, [.ref q1, .int 0, .int 0, .null, .null, .null, .null, .int 0])), (q1, .inl (c2, 4808, .inl (fun _ => 0)))]) (w1 := [(q3, .inr (3, [.ref (Q4 0), .ref (Q4 1), .ref (Q4 2), .int 0, .int 0, .int 0, .int 0, .int 0])), ((Q4 0), .inl ((C5 0), 8192, .inl (fun _ => 0))), ((Q4 1), .inl ((C5 0), 8192, .inl (fun _ => 0))), ((Q4 2), .inl ((C5 0), 8192, .inl (fun _ => 0)))]) hP hD [2] [0, 1] rfl rfl (by decide) (by decide) hk1 hFc hP1 hD1
  have hK := hK.app hK1
  have hc0 : (C5 0) = c2 := bEq (fun _ h => by cases h) (hK.2 1 _ rfl).2 (hK.2 0 _ rfl).2
  rw [hc0] at hP hD
  have hK := hK.sub (tys' := [(c2, .int)]) [0] rfl
  generalize H1 = H at hP hS ⊢
  refine W.widen (k := 5) (n := 29392) (Nat.le_of_ble_eq_true rfl) (Nat.le_of_ble_eq_true rfl) ?_
  have hP : va_P (dC, dI) vwCl [(h0, .inr (6, [.ref q1, .int 0, .int 0, .null, .null, .null, .null, .int 0])), (q1, .inl (c2, 4808, .inl (fun _ => 0))), (q3, .inr (3, [.ref (Q4 0), .ref (Q4 1), .ref (Q4 2), .int 0, .int 0, .int 0, .int 0, .int 0])), ((Q4 0), .inl (c2, 8192, .inl (fun _ => 0))), ((Q4 1), .inl (c2, 8192, .inl (fun _ => 0))), ((Q4 2), .inl (c2, 8192, .inl (fun _ => 0)))] H := hP
  have hD : va_D A [(h0, .inr (6, [.ref q1, .int 0, .int 0, .null, .null, .null, .null, .int 0])), (q1, .inl (c2, 4808, .inl (fun _ => 0))), (q3, .inr (3, [.ref (Q4 0), .ref (Q4 1), .ref (Q4 2), .int 0, .int 0, .int 0, .int 0, .int 0])), ((Q4 0), .inl (c2, 8192, .inl (fun _ => 0))), ((Q4 1), .inl (c2, 8192, .inl (fun _ => 0))), ((Q4 2), .inl (c2, 8192, .inl (fun _ => 0)))] := hD
  have hK : va_K (dC, dI) vwCl [(c2, .int)] s := hK
  refine va_putF (D := (dC, dI)) (ci := 6) (v := .ref q3) (ty := .object "CutStore$PairTable") (C := RX6) (T := TX6) (N := 8) hx hb hts iwX6 tyX6 tyX6_ok nmX6 hown hK hP hD hS 0 rfl rfl 3 (by decide) (hts _ (wc wd_273)) (fun _ h9 => h9) rfl hin rfl (by decide +kernel) rfl rfl (Nat.le_of_ble_eq_true rfl) dX6_init_21 (fun H locs hP hD hS => ?_)
  have hP : va_P (dC, dI) vwCl [(h0, .inr (6, [.ref q1, .int 0, .int 0, .ref q3, .null, .null, .null, .int 0])), (q1, .inl (c2, 4808, .inl (fun _ => 0))), (q3, .inr (3, [.ref (Q4 0), .ref (Q4 1), .ref (Q4 2), .int 0, .int 0, .int 0, .int 0, .int 0])), ((Q4 0), .inl (c2, 8192, .inl (fun _ => 0))), ((Q4 1), .inl (c2, 8192, .inl (fun _ => 0))), ((Q4 2), .inl (c2, 8192, .inl (fun _ => 0)))] H := hP
  have hD : va_D A [(h0, .inr (6, [.ref q1, .int 0, .int 0, .ref q3, .null, .null, .null, .int 0])), (q1, .inl (c2, 4808, .inl (fun _ => 0))), (q3, .inr (3, [.ref (Q4 0), .ref (Q4 1), .ref (Q4 2), .int 0, .int 0, .int 0, .int 0, .int 0])), ((Q4 0), .inl (c2, 8192, .inl (fun _ => 0))), ((Q4 1), .inl (c2, 8192, .inl (fun _ => 0))), ((Q4 2), .inl (c2, 8192, .inl (fun _ => 0)))] := hD
  refine lv_aload_n hx hb dX6_init_24 rfl (lv_at hl 0 rfl) ?_
  refine lv_sipush (v := 200) hx hb dX6_init_25 (by decide) ?_
  refine va_newa (atype := .int) (ty := .int) (N' := 200) (a0 := (200, .inl (fun _ => 0))) hx hb (hts _ (wc wd_80)) rfl hK hP hD hS hA (bCellI 200) (by decide) (by decide) (by decide) (Nat.le_of_ble_eq_true rfl) (Nat.le_of_ble_eq_true rfl) dX6_init_28 (fun q6 c7 H hK hP hD hS => ?_)
  refine W.widen (k := 6) (n := 29592) (Nat.le_of_ble_eq_true rfl) (Nat.le_of_ble_eq_true rfl) ?_
  obtain rfl : c2 = c7 := bEq (fun _ h => by cases h) (hK.2 0 _ rfl).2 (hK.2 1 _ rfl).2
  have hK := hK.sub (tys' := [(c2, .int)]) [0] rfl
  have hK : va_K (dC, dI) vwCl [(c2, .int)] s := hK
  have hP : va_P (dC, dI) vwCl [(h0, .inr (6, [.ref q1, .int 0, .int 0, .ref q3, .null, .null, .null, .int 0])), (q1, .inl (c2, 4808, .inl (fun _ => 0))), (q3, .inr (3, [.ref (Q4 0), .ref (Q4 1), .ref (Q4 2), .int 0, .int 0, .int 0, .int 0, .int 0])), ((Q4 0), .inl (c2, 8192, .inl (fun _ => 0))), ((Q4 1), .inl (c2, 8192, .inl (fun _ => 0))), ((Q4 2), .inl (c2, 8192, .inl (fun _ => 0))), (q6, .inl (c2, 200, .inl (fun _ => 0)))] H := hP
  have hD : va_D A [(h0, .inr (6, [.ref q1, .int 0, .int 0, .ref q3, .null, .null, .null, .int 0])), (q1, .inl (c2, 4808, .inl (fun _ => 0))), (q3, .inr (3, [.ref (Q4 0), .ref (Q4 1), .ref (Q4 2), .int 0, .int 0, .int 0, .int 0, .int 0])), ((Q4 0), .inl (c2, 8192, .inl (fun _ => 0))), ((Q4 1), .inl (c2, 8192, .inl (fun _ => 0))), ((Q4 2), .inl (c2, 8192, .inl (fun _ => 0))), (q6, .inl (c2, 200, .inl (fun _ => 0)))] := hD
  refine va_putF (D := (dC, dI)) (ci := 6) (v := .ref q6) (ty := .array .int) (C := RX6) (T := TX6) (N := 8) hx hb hts iwX6 tyX6 tyX6_ok nmX6 hown hK hP hD hS 0 rfl rfl 4 (by decide) (hts _ (wc wd_274)) (fun _ h9 => h9) rfl hin rfl (by decide +kernel) rfl rfl (Nat.le_of_ble_eq_true rfl) dX6_init_30 (fun H locs hP hD hS => ?_)
  have hP : va_P (dC, dI) vwCl [(h0, .inr (6, [.ref q1, .int 0, .int 0, .ref q3, .ref q6, .null, .null, .int 0])), (q1, .inl (c2, 4808, .inl (fun _ => 0))), (q3, .inr (3, [.ref (Q4 0), .ref (Q4 1), .ref (Q4 2), .int 0, .int 0, .int 0, .int 0, .int 0])), ((Q4 0), .inl (c2, 8192, .inl (fun _ => 0))), ((Q4 1), .inl (c2, 8192, .inl (fun _ => 0))), ((Q4 2), .inl (c2, 8192, .inl (fun _ => 0))), (q6, .inl (c2, 200, .inl (fun _ => 0)))] H := hP
  have hD : va_D A [(h0, .inr (6, [.ref q1, .int 0, .int 0, .ref q3, .ref q6, .null, .null, .int 0])), (q1, .inl (c2, 4808, .inl (fun _ => 0))), (q3, .inr (3, [.ref (Q4 0), .ref (Q4 1), .ref (Q4 2), .int 0, .int 0, .int 0, .int 0, .int 0])), ((Q4 0), .inl (c2, 8192, .inl (fun _ => 0))), ((Q4 1), .inl (c2, 8192, .inl (fun _ => 0))), ((Q4 2), .inl (c2, 8192, .inl (fun _ => 0))), (q6, .inl (c2, 200, .inl (fun _ => 0)))] := hD
  refine lv_aload_n hx hb dX6_init_33 rfl (lv_at hl 0 rfl) ?_
  refine lv_sipush (v := 200) hx hb dX6_init_34 (by decide) ?_
  refine va_newa (atype := .int) (ty := .int) (N' := 200) (a0 := (200, .inl (fun _ => 0))) hx hb (hts _ (wc wd_80)) rfl hK hP hD hS hA (bCellI 200) (by decide) (by decide) (by decide) (Nat.le_of_ble_eq_true rfl) (Nat.le_of_ble_eq_true rfl) dX6_init_37 (fun q8 c9 H hK hP hD hS => ?_)
  refine W.widen (k := 7) (n := 29792) (Nat.le_of_ble_eq_true rfl) (Nat.le_of_ble_eq_true rfl) ?_
  obtain rfl : c2 = c9 := bEq (fun _ h => by cases h) (hK.2 0 _ rfl).2 (hK.2 1 _ rfl).2
  have hK := hK.sub (tys' := [(c2, .int)]) [0] rfl
  have hK : va_K (dC, dI) vwCl [(c2, .int)] s := hK
  have hP : va_P (dC, dI) vwCl [(h0, .inr (6, [.ref q1, .int 0, .int 0, .ref q3, .ref q6, .null, .null, .int 0])), (q1, .inl (c2, 4808, .inl (fun _ => 0))), (q3, .inr (3, [.ref (Q4 0), .ref (Q4 1), .ref (Q4 2), .int 0, .int 0, .int 0, .int 0, .int 0])), ((Q4 0), .inl (c2, 8192, .inl (fun _ => 0))), ((Q4 1), .inl (c2, 8192, .inl (fun _ => 0))), ((Q4 2), .inl (c2, 8192, .inl (fun _ => 0))), (q6, .inl (c2, 200, .inl (fun _ => 0))), (q8, .inl (c2, 200, .inl (fun _ => 0)))] H := hP
  have hD : va_D A [(h0, .inr (6, [.ref q1, .int 0, .int 0, .ref q3, .ref q6, .null, .null, .int 0])), (q1, .inl (c2, 4808, .inl (fun _ => 0))), (q3, .inr (3, [.ref (Q4 0), .ref (Q4 1), .ref (Q4 2), .int 0, .int 0, .int 0, .int 0, .int 0])), ((Q4 0), .inl (c2, 8192, .inl (fun _ => 0))), ((Q4 1), .inl (c2, 8192, .inl (fun _ => 0))), ((Q4 2), .inl (c2, 8192, .inl (fun _ => 0))), (q6, .inl (c2, 200, .inl (fun _ => 0))), (q8, .inl (c2, 200, .inl (fun _ => 0)))] := hD
  refine va_putF (D := (dC, dI)) (ci := 6) (v := .ref q8) (ty := .array .int) (C := RX6) (T := TX6) (N := 8) hx hb hts iwX6 tyX6 tyX6_ok nmX6 hown hK hP hD hS 0 rfl rfl 5 (by decide) (hts _ (wc wd_276)) (fun _ h9 => h9) rfl hin rfl (by decide +kernel) rfl rfl (Nat.le_of_ble_eq_true rfl) dX6_init_39 (fun H locs hP hD hS => ?_)
  have hP : va_P (dC, dI) vwCl [(h0, .inr (6, [.ref q1, .int 0, .int 0, .ref q3, .ref q6, .ref q8, .null, .int 0])), (q1, .inl (c2, 4808, .inl (fun _ => 0))), (q3, .inr (3, [.ref (Q4 0), .ref (Q4 1), .ref (Q4 2), .int 0, .int 0, .int 0, .int 0, .int 0])), ((Q4 0), .inl (c2, 8192, .inl (fun _ => 0))), ((Q4 1), .inl (c2, 8192, .inl (fun _ => 0))), ((Q4 2), .inl (c2, 8192, .inl (fun _ => 0))), (q6, .inl (c2, 200, .inl (fun _ => 0))), (q8, .inl (c2, 200, .inl (fun _ => 0)))] H := hP
  have hD : va_D A [(h0, .inr (6, [.ref q1, .int 0, .int 0, .ref q3, .ref q6, .ref q8, .null, .int 0])), (q1, .inl (c2, 4808, .inl (fun _ => 0))), (q3, .inr (3, [.ref (Q4 0), .ref (Q4 1), .ref (Q4 2), .int 0, .int 0, .int 0, .int 0, .int 0])), ((Q4 0), .inl (c2, 8192, .inl (fun _ => 0))), ((Q4 1), .inl (c2, 8192, .inl (fun _ => 0))), ((Q4 2), .inl (c2, 8192, .inl (fun _ => 0))), (q6, .inl (c2, 200, .inl (fun _ => 0))), (q8, .inl (c2, 200, .inl (fun _ => 0)))] := hD
  refine lv_aload_n hx hb dX6_init_42 rfl (lv_at hl 0 rfl) ?_
  refine lv_sipush (v := 200) hx hb dX6_init_43 (by decide) ?_
  refine va_newa (atype := .int) (ty := .int) (N' := 200) (a0 := (200, .inl (fun _ => 0))) hx hb (hts _ (wc wd_80)) rfl hK hP hD hS hA (bCellI 200) (by decide) (by decide) (by decide) (Nat.le_of_ble_eq_true rfl) (Nat.le_of_ble_eq_true rfl) dX6_init_46 (fun q10 c11 H hK hP hD hS => ?_)
  refine W.widen (k := 8) (n := 29992) (Nat.le_of_ble_eq_true rfl) (Nat.le_of_ble_eq_true rfl) ?_
  obtain rfl : c2 = c11 := bEq (fun _ h => by cases h) (hK.2 0 _ rfl).2 (hK.2 1 _ rfl).2
  have hK := hK.sub (tys' := [(c2, .int)]) [0] rfl
  have hK : va_K (dC, dI) vwCl [(c2, .int)] s := hK
  have hP : va_P (dC, dI) vwCl [(h0, .inr (6, [.ref q1, .int 0, .int 0, .ref q3, .ref q6, .ref q8, .null, .int 0])), (q1, .inl (c2, 4808, .inl (fun _ => 0))), (q3, .inr (3, [.ref (Q4 0), .ref (Q4 1), .ref (Q4 2), .int 0, .int 0, .int 0, .int 0, .int 0])), ((Q4 0), .inl (c2, 8192, .inl (fun _ => 0))), ((Q4 1), .inl (c2, 8192, .inl (fun _ => 0))), ((Q4 2), .inl (c2, 8192, .inl (fun _ => 0))), (q6, .inl (c2, 200, .inl (fun _ => 0))), (q8, .inl (c2, 200, .inl (fun _ => 0))), (q10, .inl (c2, 200, .inl (fun _ => 0)))] H := hP
  have hD : va_D A [(h0, .inr (6, [.ref q1, .int 0, .int 0, .ref q3, .ref q6, .ref q8, .null, .int 0])), (q1, .inl (c2, 4808, .inl (fun _ => 0))), (q3, .inr (3, [.ref (Q4 0), .ref (Q4 1), .ref (Q4 2), .int 0, .int 0, .int 0, .int 0, .int 0])), ((Q4 0), .inl (c2, 8192, .inl (fun _ => 0))), ((Q4 1), .inl (c2, 8192, .inl (fun _ => 0))), ((Q4 2), .inl (c2, 8192, .inl (fun _ => 0))), (q6, .inl (c2, 200, .inl (fun _ => 0))), (q8, .inl (c2, 200, .inl (fun _ => 0))), (q10, .inl (c2, 200, .inl (fun _ => 0)))] := hD
  refine va_putF (D := (dC, dI)) (ci := 6) (v := .ref q10) (ty := .array .int) (C := RX6) (T := TX6) (N := 8) hx hb hts iwX6 tyX6 tyX6_ok nmX6 hown hK hP hD hS 0 rfl rfl 6 (by decide) (hts _ (wc wd_278)) (fun _ h9 => h9) rfl hin rfl (by decide +kernel) rfl rfl (Nat.le_of_ble_eq_true rfl) dX6_init_48 (fun H locs hP hD hS => ?_)
  have hP : va_P (dC, dI) vwCl [(h0, .inr (6, [.ref q1, .int 0, .int 0, .ref q3, .ref q6, .ref q8, .ref q10, .int 0])), (q1, .inl (c2, 4808, .inl (fun _ => 0))), (q3, .inr (3, [.ref (Q4 0), .ref (Q4 1), .ref (Q4 2), .int 0, .int 0, .int 0, .int 0, .int 0])), ((Q4 0), .inl (c2, 8192, .inl (fun _ => 0))), ((Q4 1), .inl (c2, 8192, .inl (fun _ => 0))), ((Q4 2), .inl (c2, 8192, .inl (fun _ => 0))), (q6, .inl (c2, 200, .inl (fun _ => 0))), (q8, .inl (c2, 200, .inl (fun _ => 0))), (q10, .inl (c2, 200, .inl (fun _ => 0)))] H := hP
  have hD : va_D A [(h0, .inr (6, [.ref q1, .int 0, .int 0, .ref q3, .ref q6, .ref q8, .ref q10, .int 0])), (q1, .inl (c2, 4808, .inl (fun _ => 0))), (q3, .inr (3, [.ref (Q4 0), .ref (Q4 1), .ref (Q4 2), .int 0, .int 0, .int 0, .int 0, .int 0])), ((Q4 0), .inl (c2, 8192, .inl (fun _ => 0))), ((Q4 1), .inl (c2, 8192, .inl (fun _ => 0))), ((Q4 2), .inl (c2, 8192, .inl (fun _ => 0))), (q6, .inl (c2, 200, .inl (fun _ => 0))), (q8, .inl (c2, 200, .inl (fun _ => 0))), (q10, .inl (c2, 200, .inl (fun _ => 0)))] := hD
  have hP9 : va_P (dC, dI) vwCl (bwX6_init h0  ((fun k => ([q1, q3, (Q4 0), (Q4 1), (Q4 2), q6, q8, q10] : List Nat).getD k 0), (fun k => ([c2] : List ClassId).getD k c2))) H := hP
  have hD9 : va_D A (bwX6_init h0  ((fun k => ([q1, q3, (Q4 0), (Q4 1), (Q4 2), q6, q8, q10] : List Nat).getD k 0), (fun k => ([c2] : List ClassId).getD k c2))) := hD
  have hK9 : va_K (dC, dI) vwCl (bkX6_init ((fun k => ([q1, q3, (Q4 0), (Q4 1), (Q4 2), q6, q8, q10] : List Nat).getD k 0), (fun k => ([c2] : List ClassId).getD k c2))) s := hK
  exact W.vret hx hb hr (fun t ht hW => ⟨⟨((fun k => ([q1, q3, (Q4 0), (Q4 1), (Q4 2), q6, q8, q10] : List Nat).getD k 0), (fun k => ([c2] : List ClassId).getD k c2)), rfl, trivial, by rw [ht]; exact hP9, va_K.moved hW.alike hK9, hD9⟩, hS.F ht⟩) hS.2.2 dX6_init_51
