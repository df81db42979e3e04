/-! A FIXED WORLD: after the constructors no object is made; memory is one function M of a cell's number and a place;
    numbers are whole numbers of which an int holds the rest modulo 2^32 -/
abbrev gMem : Type := Nat → Int → Int
def gSt (M : gMem) (k : Nat) (i v : Int) : gMem := fun k' i' => if k' = k ∧ i' = i then v else M k' i'
def gCp (M : gMem) (a b : Nat) (sp dp n : Int) : gMem := fun k j => if k = b ∧ dp ≤ j ∧ j < dp + n then M a (sp + (j - dp)) else M k j
/-- a cell: an array of numbers (its type's place, length), an array of cells (type's place, length, the first one's number), an object (class, fields: none a number, some k the cell k) -/
abbrev gD : Type := (Nat × Nat) ⊕ ((Nat × Nat × Nat) ⊕ (Nat × List (Option Nat)))
abbrev gLay : Type := List gD
abbrev gY : Type := Program × Launch × Env × Room × State × MethodId × Array Value × List Frame × Method × Code × (State → Prop) × Nat × Nat
abbrev gZ : Type := va_G × List vw_C × List (ClassId × FieldType) × (Nat → Nat) × (Nat → ClassId) × List (String × Nat × MethodName × String)
abbrev vi (a : Int) : Value := .int (Int32.ofInt a)
abbrev vr (z : gZ) (k : Nat) : Value := .ref (z.2.2.2.1 k)
abbrev rg (a : Int) : Prop := -2147483648 ≤ a ∧ a < 2147483648
/-- what an array of the type's place t keeps of a number: 0 int, 1 byte, 2 boolean -/
def gEl (t : Nat) (v : Int) : Int := if t = 0 then v else if t = 1 then v.bmod 256 else v % 2
def gFs (z : gZ) (M : gMem) (k : Nat) : Nat → List (Option Nat) → List Value
  | _, [] => []
  | j, none :: r => vi (M k j) :: gFs z M k (j + 1) r
  | j, some c :: r => vr z c :: gFs z M k (j + 1) r
def gE (z : gZ) (M : gMem) (k : Nat) (d : gD) : va_E := match d with
  | .inl (t, n) => .inl (z.2.2.2.2.1 t, n, .inl (fun j => Int32.ofInt (gEl t (M k j))))
  | .inr (.inl (t, n, b)) => .inl (z.2.2.2.2.1 t, n, .inr (.inr (.inr (.inr (fun j => if j < n then some (z.2.2.2.1 (b + j)) else none)))))
  | .inr (.inr (ci, fs)) => .inr (ci, gFs z M k 0 fs)
def gWd (z : gZ) (L : gLay) (M : gMem) : va_W := L.mapIdx (fun k d => (z.2.2.2.1 k, gE z M k d))
def gAd (z : gZ) (L : gLay) (sz : Nat) : Nat → Prop := fun a => (∃ k, k < L.length ∧ a = z.2.2.2.1 k) ∨ sz ≤ a
def gNs (z : gZ) (U : State) : Prop := ∀ t ∈ z.2.2.2.2.2, va_Nw (.methodLinkNest t.1 t.2.1 t.2.2.1 t.2.2.2) U
def gH (z : gZ) (L : gLay) (A : Nat → Prop) (M : gMem) (H : Heap) : Prop := va_P z.1 z.2.1 (gWd z L M) H ∧ va_D A (gWd z L M)
def gPre (z : gZ) (L : gLay) (M : gMem) (sz : Nat) (U : State) : Prop := U.heap.size = sz ∧ va_K z.1 z.2.1 z.2.2.1 U ∧ gNs z U ∧ gH z L (fun _ => True) M U.heap
def gQI (z : gZ) (L : gLay) (P : Int → gMem → Prop) (sz : Nat) : Array Value → State → Outcome → State → Prop := va_Qi (fun r M' => ∃ v, r = Int32.ofInt v ∧ P v M') (fun M' t => gH z L (gAd z L sz) M' t.heap) (gAd z L sz)
def gQV (z : gZ) (L : gLay) (P : gMem → Prop) (sz : Nat) : Array Value → State → Outcome → State → Prop := va_Qv P (fun M' t => gH z L (gAd z L sz) M' t.heap) (gAd z L sz)
def gMI (l : Launch) (z : gZ) (L : gLay) (y : MethodName) (ws : List Cond) (rm : Room) (vs : List Value) (M : gMem) (P : Int → gMem → Prop) : Prop := ∀ sz, Met l y ws rm (va_Pc vs (gPre z L M sz)) (gQI z L P sz) 0 0 (gAd z L sz)
def gMV (l : Launch) (z : gZ) (L : gLay) (y : MethodName) (ws : List Cond) (rm : Room) (vs : List Value) (M : gMem) (P : gMem → Prop) : Prop := ∀ sz, Met l y ws rm (va_Pc vs (gPre z L M sz)) (gQV z L P sz) 0 0 (gAd z L sz)
/-! locals -/
def gPr : Nat → List (Option Value) → List (Nat × Value)
  | _, [] => []
  | i, none :: r => gPr (i + 1) r
  | i, some v :: r => (i, v) :: gPr (i + 1) r
theorem gPr_mem : ∀ (lc : List (Option Value)) (i j : Nat) (w : Value), (j, w) ∈ gPr i lc ↔ i ≤ j ∧ lc[j - i]? = some (some w)
  | [], i, j, w => by simp [gPr]
  | none :: r, i, j, w => by
    rw [gPr, gPr_mem r (i + 1) j w]
    constructor
    · rintro ⟨h1, h2⟩
      refine ⟨by omega, ?_⟩
      rw [show j - i = (j - (i + 1)) + 1 by omega]
      simpa using h2
    · rintro ⟨h1, h2⟩
      rcases Nat.lt_or_ge i j with h | h
      · refine ⟨h, ?_⟩
        rw [show j - i = (j - (i + 1)) + 1 by omega] at h2
        simpa using h2
      · rw [show j - i = 0 by omega] at h2
        simp at h2
  | some v :: r, i, j, w => by
    rw [gPr, List.mem_cons, gPr_mem r (i + 1) j w]
    constructor
    · rintro (h | ⟨h1, h2⟩)
      · cases h
        exact ⟨Nat.le_refl _, by simp⟩
      · refine ⟨by omega, ?_⟩
        rw [show j - i = (j - (i + 1)) + 1 by omega]
        simpa using h2
    · rintro ⟨h1, h2⟩
      rcases Nat.lt_or_ge i j with h | h
      · refine Or.inr ⟨h, ?_⟩
        rw [show j - i = (j - (i + 1)) + 1 by omega] at h2
        simpa using h2
      · have e : j = i := by omega
        subst e
        simp at h2
        exact Or.inl (by rw [h2])
def gLs (ls : Array Slot) (lc : List (Option Value)) : Prop := lv_has ls lc.length (gPr 0 lc) ∧ ∀ v, some v ∈ lc → v.category = 1
theorem gLs.at {ls : Array Slot} {lc : List (Option Value)} (h : gLs ls lc) {i : Nat} {v : Value} (hi : lc[i]? = some (some v)) : ls[i]? = some (.val v) :=
  h.1.2.2 (i, v) ((gPr_mem lc 0 i v).mpr ⟨Nat.zero_le _, hi⟩)
theorem gLs.set {ls ls' : Array Slot} {lc : List (Option Value)} (h : gLs ls lc) {i : Nat} {v : Value} (hv : v.category = 1)
    (h' : lv_has ls' lc.length ((i, v) :: (gPr 0 lc).filter (fun q => !(q.1 == i) && !(q.1 + 1 == i && q.2.category == 2)))) : gLs ls' (lc.set i (some v)) := by
  have hc : ∀ w, some w ∈ lc.set i (some v) → w.category = 1 := fun w hw => by
    rcases List.mem_or_eq_of_mem_set hw with g | g
    · exact h.2 w g
    · cases g; exact hv
  refine ⟨⟨by rw [List.length_set]; exact h'.1, h'.2.1, fun q hq => ?_⟩, hc⟩
  obtain ⟨j, w⟩ := q
  have g := ((gPr_mem _ 0 j w).mp hq).2
  rw [Nat.sub_zero, List.getElem?_set] at g
  refine h'.2.2 (j, w) ?_
  by_cases e : i = j
  · rw [if_pos e] at g
    split at g
    · cases g
      subst e
      exact List.mem_cons_self
    · cases g
  · rw [if_neg e] at g
    refine List.mem_cons_of_mem _ (List.mem_filter.mpr ⟨(gPr_mem lc 0 j w).mpr ⟨Nat.zero_le _, g⟩, ?_⟩)
    have hcw := h.2 w (List.mem_of_getElem? g)
    simp [hcw]
    exact fun q => e q.symm
def gLe : List (Option Value) → List (Option Value) → Prop
  | [], [] => True
  | none :: a, _ :: b => gLe a b
  | some v :: a, w :: b => w = some v ∧ gLe a b
  | _, _ => False
theorem gLe_spec : ∀ (a b : List (Option Value)), gLe a b → a.length = b.length ∧ ∀ (i : Nat) (v : Value), a[i]? = some (some v) → b[i]? = some (some v)
  | [], [], _ => ⟨rfl, fun i v h => by simp at h⟩
  | none :: a, _ :: b, h => by
    obtain ⟨h1, h2⟩ := gLe_spec a b h
    refine ⟨by simp [h1], fun i v hi => ?_⟩
    cases i with
    | zero => simp at hi
    | succ i => simpa using h2 i v (by simpa using hi)
  | some v :: a, w :: b, h => by
    obtain ⟨h0, h⟩ := h
    obtain ⟨h1, h2⟩ := gLe_spec a b h
    refine ⟨by simp [h1], fun i v hi => ?_⟩
    cases i with
    | zero => simp at hi ⊢; rw [h0, hi]
    | succ i => simpa using h2 i v (by simpa using hi)
  | [], _ :: _, h => h.elim
  | none :: _, [], h => h.elim
  | some _ :: _, [], h => h.elim
theorem gLs.sub {ls : Array Slot} {a b : List (Option Value)} (h : gLs ls b) (hs : gLe a b) : gLs ls a := by
  obtain ⟨h1, h2⟩ := gLe_spec a b hs
  refine ⟨⟨by rw [h1]; exact h.1.1, h.1.2.1, fun q hq => ?_⟩, fun v hv => ?_⟩
  · obtain ⟨j, w⟩ := q
    exact h.at (h2 j w (by simpa using ((gPr_mem a 0 j w).mp hq).2))
  · obtain ⟨i, hi⟩ := List.getElem?_of_mem hv
    exact h.2 v (List.mem_of_getElem? (h2 i v hi))
theorem gPr_args : ∀ (vs : List Value) (n i : Nat), (∀ v ∈ vs, v.category = 1) → gPr i (vs.map some ++ List.replicate n none) = lv_args i vs
  | [], n, i, _ => by
    have : ∀ n i, gPr i (List.replicate n none) = [] := fun n => by
      induction n with
      | zero => intro i; rfl
      | succ n ih => intro i; rw [List.replicate_succ, gPr, ih]
    simpa [lv_args] using this n i
  | v :: vs, n, i, h => by
    have hv := h v List.mem_cons_self
    rw [List.map_cons, List.cons_append, gPr, lv_args, if_neg (by rw [hv]; decide), gPr_args vs n (i + 1) (fun w hw => h w (List.mem_cons_of_mem _ hw))]
theorem gSl_len : ∀ (vs : List Value), (∀ v ∈ vs, v.category = 1) → (lg_sl vs).length = vs.length
  | [], _ => rfl
  | v :: vs, h => by
    have hv := h v List.mem_cons_self
    have ih := gSl_len vs (fun w hw => h w (List.mem_cons_of_mem _ hw))
    simp only [lg_sl, List.flatMap_cons, List.length_append] at ih ⊢
    rw [ih]
    simp [hv]
    omega
