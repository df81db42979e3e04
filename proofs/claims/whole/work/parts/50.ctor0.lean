/-! THE CONSTRUCTORS, by the kit's rows -/
theorem bIdx {u U : State} (hvm : u.vm.Alike U.vm) (F : Class → Bool) (hF : ∀ vm : Vm, vm.bare.classes.findIdx? F = vm.classes.findIdx? F) : U.vm.classes.findIdx? F = u.vm.classes.findIdx? F := by
  rw [← hF U.vm, ← hF u.vm]
  first | rw [hvm.bare_eq] | rw [← hvm.bare_eq]
theorem va_AOA.moved2 {t : FieldType} {u U : State} (hvm : u.vm.Alike U.vm) (h : va_AOA t u) : va_AOA t U := by
  obtain ⟨comp, c, k, h1, h2, h3, h4, h5⟩ := arrayOverA_spec h
  obtain ⟨k', hk', he⟩ := hvm.2.2 _ _ h3
  have hi := (bIdx hvm _ (fun vm => by simp only [Vm.bare, Array.findIdx?_map]; rfl)).trans h2
  have hkind : k'.kind = .array comp (.array t) := by rw [he]; exact h4
  have f1 : U.vm.findClass (FieldType.array t).toString = some comp := by rw [hvm.findClass]; exact h1
  have f2 : U.vm.findClass ("[" ++ (FieldType.array t).toString) = some c := by rw [hvm.findClass]; exact h5
  unfold va_AOA Cond.before Cond.holds
  simp only [Cond.value]
  rw [f1, Option.bind_some]
  refine (congrArg (fun o : Option Nat => (o.bind (fun c => (U.vm.classes[c]?).map fun (k : Class) => match k.kind with | .array _ ty => decide (ty = FieldType.array t) && decide (U.vm.findClass ("[" ++ (FieldType.array t).toString) = some c) | _ => false) == some true)) hi).trans ?_
  simp [hk', hkind, f2]
abbrev bS : Type := (Nat → Nat) × (Nat → ClassId)
def bNl : List (String × Nat × MethodName × String) := [("CutStore", 11, yX2_init, "CutStore"), ("CutStore", 18, yX7_init, "CutStore"), ("CutStore", 29, yX4_init, "CutStore"), ("CutStore", 58, yX6_init, "CutStore"), ("CutStore$Supers", 17, yX3_init, "CutStore")]
def bN (U : State) : Prop := (∀ t ∈ bNl, va_Nw (.methodLinkNest t.1 t.2.1 t.2.2.1 t.2.2.2) U) ∧ va_AO "CutStore$Rule" U ∧ va_AOA .int U
theorem bN.same {U V : State} (h : U.vm = V.vm) (hN : bN U) : bN V := ⟨fun t ht => va_Nw.same rfl h (hN.1 t ht), va_AO.moved (by rw [h]; exact Vm.Alike.refl _) hN.2.1, va_AOA.moved2 (by rw [h]; exact Vm.Alike.refl _) hN.2.2⟩
theorem bN.warm {s U : State} (hW : s.WarmedH U.vm) (hN : bN s) : bN U := ⟨fun t ht => va_Nw.warmM hW (hN.1 t ht), va_AO.moved hW.alike hN.2.1, va_AOA.moved2 hW.alike hN.2.2⟩
theorem bEq {s : State} {c1 c2 : ClassId} {ty : FieldType} (ho : ∀ C, ty ≠ .object C) (h1 : va_RA s c1 ty) (h2 : va_RA s c2 ty) : c1 = c2 := by
  cases ty <;> first | exact absurd rfl (ho _) | exact Option.some.inj (Eq.trans (Eq.symm h1) h2)
def bPre (dC : Nat → ClassId) (dI : Nat → Nat → Nat) (ws : va_W) (sz : Nat) (U : State) : Prop := U.heap.size = sz ∧ va_P (dC, dI) vwCl ws U.heap ∧ va_K (dC, dI) vwCl [] U ∧ bN U ∧ va_D (fun _ => True) ws
theorem bBlind {dC : Nat → ClassId} {dI : Nat → Nat → Nat} {ws : va_W} {sz : Nat} {vs : List Value} : FrameBlind (va_Pc vs (bPre dC dI ws sz)) := fun a U g mk q => by
  obtain ⟨q1, q2, q3, q4, q5, q6⟩ := q
  exact ⟨q1, q2, q3, va_K.moved (u := U) (U := U.calling g mk a) (Vm.Alike.refl U.vm) q4, bN.same rfl q5, q6⟩
def bB (dC : Nat → ClassId) (dI : Nat → Nat → Nat) (A : Nat → Prop) (w : bS → va_W) (tys : bS → List (ClassId × FieldType)) (u : bS) (t : State) : Prop := va_P (dC, dI) vwCl (w u) t.heap ∧ va_K (dC, dI) vwCl (tys u) t ∧ va_D A (w u)
theorem bCellI (N : Nat) (cA : ClassId) : vp_cell cA (N, .inl (fun _ => 0)) = arrV cA N (fun _ => defaultValue .int) := rfl
theorem bCellB (N : Nat) (cA : ClassId) : vp_cell cA (N, .inl (fun _ => 0)) = arrV cA N (fun _ => defaultValue .byte) := rfl
theorem bCellZ (N : Nat) (cA : ClassId) : vp_cell cA (N, .inl (fun _ => 0)) = arrV cA N (fun _ => defaultValue .boolean) := rfl
theorem bRows {r : Nat → Nat} {f : Nat → va_E} {v : va_E} : va_pl ([] ++ (List.range 8).map r) (vr_up f ((List.range 8).map r) v) = [(r 0, v), (r 1, v), (r 2, v), (r 3, v), (r 4, v), (r 5, v), (r 6, v), (r 7, v)] := by
  have h : (List.range 8).map r = [r 0, r 1, r 2, r 3, r 4, r 5, r 6, r 7] := rfl
  rw [h]
  simp [va_pl, vr_up]
theorem bGood {c0 w1 : Cond} (h : w1 ∈ gTs) (hg : (w1.onTables && w1.keeps) = true) : GoodIn (c0 :: gTs) (w1 :: gTs) := fun w hw => by
  rcases List.mem_cons.mp hw with rfl | hw
  · exact ⟨wc h, Or.inl hg⟩
  · exact ⟨wc hw, good_of_word (List.mem_filter.mp hw).2⟩
