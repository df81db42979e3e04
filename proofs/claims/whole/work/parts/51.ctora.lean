abbrev wX4_init : List Cond := Cond.code yX4_init cX4_init 1 none :: gTs
abbrev rmX4_init : Room := { frames := 1, cells := 0, slots := 0, locals := 20 }
def bwX4_init (h0 : Nat) (u : bS) : va_W := [(h0, .inr (4, [.int (-1), .int 0, .int 0, .int 0, .int 0, .int 0]))]
def bkX4_init (u : bS) : List (ClassId × FieldType) := []
set_option maxHeartbeats 8000000 in
set_option maxRecDepth 100000 in
theorem ciX4_init {l : Launch} {dC : Nat → ClassId} {dI : Nat → Nat → Nat} (h0 sz : Nat) : Met l yX4_init wX4_init rmX4_init (va_Pc [.ref h0] (bPre dC dI [(h0, .inr (4, [.int 0, .int 0, .int 0, .int 0, .int 0, .int 0]))] sz)) (va_Qv (fun _ : bS => True) (bB dC dI (va_A [(h0, .inr (4, [.int 0, .int 0, .int 0, .int 0, .int 0, .int 0]))] sz) (bwX4_init h0 ) bkX4_init) (va_A [(h0, .inr (4, [.int 0, .int 0, .int 0, .int 0, .int 0, .int 0]))] sz)) 0 0 (va_A [(h0, .inr (4, [.int 0, .int 0, .int 0, .int 0, .int 0, .int 0]))] sz) := by
  refine Met.ofW (cc := cX4_init) (maxL := 1) (ret := none) (by decide) rfl ?_
  intro p e s m args below meth c s₁ B hml hv
  obtain ⟨rfl, hsz, hP, hK, hN, hD0⟩ := hv
  have hx := B.exec
  have hb := B.bytes
  have hr := B.returns
  have hts := atoms_spec (ws := wX4_init) B.pre
  have hown : s.vm.findClass RX4 = some m.cls := findClass_of_methodNamed B.named
  have hlocks := B.notSynchronized
  have hin : meth.name = "<init>" := (name_of_methodNamed B.named B.method).1
  subst hsz
  have hD := hD0.self (sz := s.heap.size)
  generalize hAe : va_A [(h0, .inr (4, [.int 0, .int 0, .int 0, .int 0, .int 0, .int 0]))] s.heap.size = A at hD ⊢
  have hA : ∀ q : Nat, s.heap.size ≤ q → A q := fun q h => by rw [← hAe]; exact Or.inr h
  have hS : va_S A s.heap s.heap [] := va_S.rf
  have hl := lv_entry ([.ref h0]) (n := 1) (Nat.le_of_ble_eq_true rfl)
  rw [lg_entry_eq]
  generalize (lg_sl ([.ref h0]) ++ List.replicate (1 - (lg_sl ([.ref h0])).length) Slot.unset).toArray = ls at hl ⊢
  have hl : lv_has ls 1 [(0, .ref h0)] := hl
  refine lv_aload_n hx hb dX4_init_0 rfl (lv_at hl 0 rfl) ?_
  refine W.objInit hx hb hown (hts _ (wc wd_103)) (hts _ (wc wd_58)) (hts _ (wc wd_59)) rfl (by rw [hml]; exact hl.1) rfl dX4_init_1 (Nat.le_of_ble_eq_true rfl) (Nat.le_of_ble_eq_true rfl) ?_
  refine W.eq (g2 := F0 m 4 ls []) rfl ?_
  refine lv_aload_n hx hb dX4_init_4 rfl (lv_at hl 0 rfl) ?_
  refine lv_iconst (v := (-1)) hx hb dX4_init_5 (by decide) ?_
  refine va_put (D := (dC, dI)) (ci := 4) (v := .int (-1)) (ty := .int) (C := RX4) (T := TX4) (N := 6) hx hb hts iwX4 tyX4 tyX4_ok nmX4 hown hK hP hD hS 0 rfl rfl 0 (by decide) (hts _ (wc wd_104)) (fun _ h9 => h9) rfl (by decide +kernel) rfl rfl (Nat.le_of_ble_eq_true rfl) dX4_init_6 (fun H locs hP hD hS => ?_)
  have hP : va_P (dC, dI) vwCl [(h0, .inr (4, [.int (-1), .int 0, .int 0, .int 0, .int 0, .int 0]))] H := hP
  have hD : va_D A [(h0, .inr (4, [.int (-1), .int 0, .int 0, .int 0, .int 0, .int 0]))] := hD
  have hP9 : va_P (dC, dI) vwCl (bwX4_init h0  ((fun k => ([] : List Nat).getD k 0), (fun k => ([] : List ClassId).getD k (dC 0)))) H := hP
  have hD9 : va_D A (bwX4_init h0  ((fun k => ([] : List Nat).getD k 0), (fun k => ([] : List ClassId).getD k (dC 0)))) := hD
  have hK9 : va_K (dC, dI) vwCl (bkX4_init ((fun k => ([] : List Nat).getD k 0), (fun k => ([] : List ClassId).getD k (dC 0)))) s := hK
  exact W.vret hx hb hr (fun t ht hW => ⟨⟨((fun k => ([] : List Nat).getD k 0), (fun k => ([] : List ClassId).getD k (dC 0))), rfl, trivial, by rw [ht]; exact hP9, va_K.moved hW.alike hK9, hD9⟩, hS.F ht⟩) hS.2.2 dX4_init_9
