/-! CELLS, CALLS, RETURNS over the fixed world -/
theorem gWd_at {z : gZ} {L : gLay} {M : gMem} {k : Nat} {d : gD} (h : L[k]? = some d) : (gWd z L M)[k]? = some (z.2.2.2.1 k, gE z M k d) := by
  simp [gWd, List.getElem?_mapIdx, h]
theorem gFs_congr {z : gZ} {M M' : gMem} {k : Nat} (h : M' k = M k) : ∀ (fs : List (Option Nat)) (j : Nat), gFs z M' k j fs = gFs z M k j fs
  | [], _ => rfl
  | none :: r, j => by rw [gFs, gFs, h, gFs_congr h r]
  | some c :: r, j => by rw [gFs, gFs, gFs_congr h r]
theorem gE_congr {z : gZ} {M M' : gMem} {k : Nat} (h : M' k = M k) (d : gD) : gE z M' k d = gE z M k d := by
  match d with
  | .inl (t, n) => simp only [gE, h]
  | .inr (.inl (t, n, b)) => rfl
  | .inr (.inr (ci, fs)) => simp only [gE, gFs_congr h]
theorem gWd_set {z : gZ} {L : gLay} {M M' : gMem} {k : Nat} {d : gD} {e : va_E} (hk : L[k]? = some d) (hM : ∀ k', k' ≠ k → M' k' = M k') (he : e = gE z M' k d) : (gWd z L M).set k (z.2.2.2.1 k, e) = gWd z L M' := by
  apply List.ext_getElem?
  intro j
  rw [List.getElem?_set]
  by_cases e1 : k = j
  · subst e1
    have hl : k < (gWd z L M).length := by
      have := (List.getElem?_eq_some_iff.mp hk).1
      simpa [gWd] using this
    rw [if_pos rfl, if_pos hl, gWd_at hk, he]
  · rw [if_neg e1]
    simp only [gWd, List.getElem?_mapIdx]
    cases hj : L[j]? with
    | none => rfl
    | some d' => simp only [Option.map_some, gE_congr (hM j (fun q => e1 q.symm))]
theorem gSt_ne (M : gMem) (k : Nat) (i v : Int) (k' : Nat) (h : k' ≠ k) : gSt M k i v k' = M k' := by
  funext j
  simp [gSt, h]
theorem gSt_at (M : gMem) (k : Nat) (i v j : Int) : gSt M k i v k j = if j = i then v else M k j := by simp [gSt]
theorem gCp_ne (M : gMem) (a b : Nat) (sp dp n : Int) (k' : Nat) (h : k' ≠ b) : gCp M a b sp dp n k' = M k' := by
  funext j
  simp [gCp, h]
theorem gFs_get {z : gZ} {M : gMem} {k : Nat} : ∀ (fs : List (Option Nat)) (j i : Nat), (gFs z M k j fs)[i]? = fs[i]?.map (fun f => match f with | none => vi (M k ((j + i : Nat))) | some c => vr z c)
  | [], _, _ => by simp [gFs]
  | none :: r, j, 0 => by simp [gFs]
  | some c :: r, j, 0 => by simp [gFs]
  | none :: r, j, i + 1 => by
    rw [gFs, List.getElem?_cons_succ, gFs_get r (j + 1) i, List.getElem?_cons_succ, show j + 1 + i = j + (i + 1) by omega]
  | some c :: r, j, i + 1 => by
    rw [gFs, List.getElem?_cons_succ, gFs_get r (j + 1) i, List.getElem?_cons_succ, show j + 1 + i = j + (i + 1) by omega]
theorem gFs_len {z : gZ} {M : gMem} {k : Nat} : ∀ (fs : List (Option Nat)) (j : Nat), (gFs z M k j fs).length = fs.length
  | [], _ => rfl
  | none :: r, j => by rw [gFs, List.length_cons, gFs_len r, List.length_cons]
  | some c :: r, j => by rw [gFs, List.length_cons, gFs_len r, List.length_cons]
theorem gFs_set {z : gZ} {M : gMem} {k : Nat} {fs : List (Option Nat)} {i : Nat} {v : Int} (h : fs[i]? = some none) : (gFs z M k 0 fs).set i (vi v) = gFs z (gSt M k i v) k 0 fs := by
  apply List.ext_getElem?
  intro j
  rw [List.getElem?_set, gFs_get, gFs_get]
  by_cases e : i = j
  · subst e
    have hl : i < fs.length := (List.getElem?_eq_some_iff.mp h).1
    rw [if_pos rfl, gFs_len, if_pos hl, h]
    simp [gSt_at]
  · rw [if_neg e]
    cases hj : fs[j]? with
    | none => rfl
    | some f =>
      cases f with
      | none =>
        have : ¬ ((j : Int) = (i : Int)) := by omega
        simp [gSt_at, this]
      | some c => rfl
theorem gIn {i : Int} {n : Nat} (hn : n < 2147483648) (hi : 0 ≤ i ∧ i < n) : vp_in (Int32.ofInt i) n ∧ (Int32.ofInt i).toNatClampNeg = i.toNat ∧ ((i.toNat : Nat) : Int) = i := by
  have e : (Int32.ofInt i).toNatClampNeg = i.toNat := Int32.toNatClampNeg_ofInt_of_le (by omega) (by omega)
  refine ⟨?_, e, by omega⟩
  rintro (h | h)
  · have := (gt_lt (b := 0) ⟨by omega, by omega⟩ (by decide)).mp h
    omega
  · rw [e] at h
    omega
theorem gAd_in {z : gZ} {L : gLay} {sz k : Nat} (h : k < L.length) : gAd z L sz (z.2.2.2.1 k) := Or.inl ⟨k, h, rfl⟩
theorem gWd_adr {z : gZ} {L : gLay} {M : gMem} {k : Nat} {q : Nat × va_E} (h : (gWd z L M)[k]? = some q) : k < L.length ∧ q.1 = z.2.2.2.1 k := by
  have hl : k < (gWd z L M).length := (List.getElem?_eq_some_iff.mp h).1
  have hl' : k < L.length := by simpa [gWd] using hl
  rw [gWd_at (List.getElem?_eq_getElem hl')] at h
  cases h
  exact ⟨hl', rfl⟩
theorem gH_D {z : gZ} {L : gLay} {A B : Nat → Prop} {M : gMem} {H : Heap} (h : gH z L A M H) (hB : ∀ k, k < L.length → B (z.2.2.2.1 k)) : gH z L B M H :=
  ⟨h.1, h.2.1, fun k q hq => by
    obtain ⟨h1, h2⟩ := gWd_adr hq
    rw [h2]
    exact hB k h1⟩
section GH
variable {y : gY} {z : gZ} {L : gLay} {l : Launch} {cc : ByteArray} {own : String} {nL : Nat} {Ts : List Cond} {rm : Room} {pc : Nat} {lc : List (Option Value)} {st : List Value} {M : gMem}
theorem g_iald (hC : gC y z l cc own nL Ts rm) {k : Nat} (t0 : Nat) {n : Nat} (hk : L[k]? = some (.inl (0, n))) (ht : z.2.2.1[t0]? = some (z.2.2.2.2.1 0, .int)) (hn : n < 2147483648) {i : Int} (hi : 0 ≤ i ∧ i < n) (hd : decode cc pc = .ok (.iaload, 1)) (kk : gW y z L (pc + 1) lc (vi (M k i) :: st) M) : gW y z L pc lc (vi i :: vr z k :: st) M := by
  obtain ⟨p, l', e, R, s, m, args, below, meth, c, Q, nc, ns⟩ := y
  obtain ⟨hx, hb, -, hown, hts, hK, -⟩ := hC
  intro H locs ls hH hS hl
  obtain ⟨h1, h2, h3⟩ := gIn hn hi
  refine va_iald hx hb hK hH.1 k t0 (gWd_at hk) ht h1 hd ?_
  rw [h2, h3]
  exact kk H locs ls hH hS hl
theorem g_bald (hC : gC y z l cc own nL Ts rm) {k : Nat} (t0 : Nat) {n : Nat} (hk : L[k]? = some (.inl (1, n))) (ht : z.2.2.1[t0]? = some (z.2.2.2.2.1 1, .byte)) (hn : n < 2147483648) {i : Int} (hi : 0 ≤ i ∧ i < n) (hd : decode cc pc = .ok (.baload, 1)) (kk : gW y z L (pc + 1) lc (vi ((M k i).bmod 256) :: st) M) : gW y z L pc lc (vi i :: vr z k :: st) M := by
  obtain ⟨p, l', e, R, s, m, args, below, meth, c, Q, nc, ns⟩ := y
  obtain ⟨hx, hb, -, hown, hts, hK, -⟩ := hC
  intro H locs ls hH hS hl
  obtain ⟨h1, h2, h3⟩ := gIn hn hi
  refine va_bald hx hb hK hH.1 k t0 (gWd_at hk) ht h1 hd ?_
  rw [h2, h3]
  exact kk H locs ls hH hS hl
theorem g_zald (hC : gC y z l cc own nL Ts rm) {k : Nat} (t0 : Nat) {n : Nat} (hk : L[k]? = some (.inl (2, n))) (ht : z.2.2.1[t0]? = some (z.2.2.2.2.1 2, .boolean)) (hn : n < 2147483648) {i : Int} (hi : 0 ≤ i ∧ i < n) (hd : decode cc pc = .ok (.baload, 1)) (kk : gW y z L (pc + 1) lc (vi (M k i % 2) :: st) M) : gW y z L pc lc (vi i :: vr z k :: st) M := by
  obtain ⟨p, l', e, R, s, m, args, below, meth, c, Q, nc, ns⟩ := y
  obtain ⟨hx, hb, -, hown, hts, hK, -⟩ := hC
  intro H locs ls hH hS hl
  obtain ⟨h1, h2, h3⟩ := gIn hn hi
  refine va_zald hx hb hK hH.1 k t0 (gWd_at hk) ht h1 hd ?_
  rw [h2, h3]
  exact kk H locs ls hH hS hl
theorem g_aald (hC : gC y z l cc own nL Ts rm) {k : Nat} (t0 : Nat) {t n b : Nat} {ty : FieldType} (hk : L[k]? = some (.inr (.inl (t, n, b)))) (ht : z.2.2.1[t0]? = some (z.2.2.2.2.1 t, ty)) (hty : ty.isReference = true) (hn : n < 2147483648) {i : Int} (hi : 0 ≤ i ∧ i < n) (hd : decode cc pc = .ok (.aaload, 1)) (kk : gW y z L (pc + 1) lc (vr z (b + i.toNat) :: st) M) : gW y z L pc lc (vi i :: vr z k :: st) M := by
  obtain ⟨p, l', e, R, s, m, args, below, meth, c, Q, nc, ns⟩ := y
  obtain ⟨hx, hb, -, hown, hts, hK, -⟩ := hC
  intro H locs ls hH hS hl
  obtain ⟨h1, h2, h3⟩ := gIn hn hi
  have hlt : i.toNat < n := by omega
  have hcell := hH.1 k _ (gWd_at hk)
  refine W.aald (v := vr z (b + i.toNat)) (ty := ty) hx hb hcell ((hK.2 t0 _ ht).1 n (fun j => va_rf (if j < n then some (z.2.2.2.1 (b + j)) else none))) hty (fun q => by cases q) (by show ¬ (_ < 0 ∨ (arrV _ _ _).slots.size ≤ _); rw [arrV_size]; exact h1) (by show (arrV _ _ _).slots[_]? = _; rw [h2, arrV_read _ _ hlt]; show some (va_rf (if i.toNat < n then some (z.2.2.2.1 (b + i.toNat)) else none)) = _; rw [if_pos hlt]; rfl) rfl rfl hd (kk H locs ls hH hS hl)
theorem gUp {f : Nat → Int32} {g : Nat → Int32} {i : Nat} {x : Int32} (h1 : g i = x) (h2 : ∀ j, j ≠ i → g j = f j) : upd f i x = g := by
  funext j
  by_cases e : j = i
  · subst e; simp [upd, h1]
  · simp [upd, e, h2 j e]
theorem g_iast (hC : gC y z l cc own nL Ts rm) {k : Nat} (t0 : Nat) {n : Nat} (hk : L[k]? = some (.inl (0, n))) (ht : z.2.2.1[t0]? = some (z.2.2.2.2.1 0, .int)) (hn : n < 2147483648) {i v : Int} (hi : 0 ≤ i ∧ i < n) (hd : decode cc pc = .ok (.iastore, 1)) {M' : gMem} (hM : M' = gSt M k i v) (kk : gW y z L (pc + 1) lc st M') : gW y z L pc lc (vi v :: vi i :: vr z k :: st) M := by
  subst hM
  obtain ⟨p, l', e, R, s, m, args, below, meth, c, Q, nc, ns⟩ := y
  obtain ⟨hx, hb, -, hown, hts, hK, -⟩ := hC
  intro H locs ls hH hS hl
  obtain ⟨h1, h2, h3⟩ := gIn hn hi
  have e := gWd_set (z := z) (M := M) (M' := gSt M k i v) (e := .inl (z.2.2.2.2.1 0, n, .inl (upd (fun j => Int32.ofInt (gEl 0 (M k j))) i.toNat (Int32.ofInt v)))) hk (gSt_ne M k i v) (by
    simp only [gE]
    rw [gUp (g := fun j => Int32.ofInt (gEl 0 (gSt M k i v k j))) (by simp [gSt_at, h3, gEl]) (fun j hj => by
      have : ¬ ((j : Int) = i) := by omega
      simp [gSt_at, this])])
  refine va_iast hx hb hK hH.1 hH.2 hS k t0 (gWd_at hk) ht h1 hd (fun H1 locs1 hP hD hS1 => kk H1 locs1 ls ⟨?_, ?_⟩ hS1 hl)
  · rw [h2, e] at hP; exact hP
  · rw [h2, e] at hD; exact hD
theorem g_bast (hC : gC y z l cc own nL Ts rm) {k : Nat} (t0 : Nat) {n : Nat} (hk : L[k]? = some (.inl (1, n))) (ht : z.2.2.1[t0]? = some (z.2.2.2.2.1 1, .byte)) (hn : n < 2147483648) {i v : Int} (hi : 0 ≤ i ∧ i < n) (hd : decode cc pc = .ok (.bastore, 1)) {M' : gMem} (hM : M' = gSt M k i v) (kk : gW y z L (pc + 1) lc st M') : gW y z L pc lc (vi v :: vi i :: vr z k :: st) M := by
  subst hM
  obtain ⟨p, l', e, R, s, m, args, below, meth, c, Q, nc, ns⟩ := y
  obtain ⟨hx, hb, -, hown, hts, hK, -⟩ := hC
  intro H locs ls hH hS hl
  obtain ⟨h1, h2, h3⟩ := gIn hn hi
  have e := gWd_set (z := z) (M := M) (M' := gSt M k i v) (e := .inl (z.2.2.2.2.1 1, n, .inl (upd (fun j => Int32.ofInt (gEl 1 (M k j))) i.toNat (vp_nar .byte (Int32.ofInt v))))) hk (gSt_ne M k i v) (by
    simp only [gE]
    rw [gUp (g := fun j => Int32.ofInt (gEl 1 (gSt M k i v k j))) (by rw [vp_nar_byte, gt_byte]; simp only [h3, gSt_at]; rfl) (fun j hj => by
      have : ¬ ((j : Int) = i) := by omega
      simp [gSt_at, this])])
  refine va_bast hx hb hK hH.1 hH.2 hS k t0 (gWd_at hk) ht h1 hd (fun H1 locs1 hP hD hS1 => kk H1 locs1 ls ⟨?_, ?_⟩ hS1 hl)
  · rw [h2, e] at hP; exact hP
  · rw [h2, e] at hD; exact hD
theorem g_zast (hC : gC y z l cc own nL Ts rm) {k : Nat} (t0 : Nat) {n : Nat} (hk : L[k]? = some (.inl (2, n))) (ht : z.2.2.1[t0]? = some (z.2.2.2.2.1 2, .boolean)) (hn : n < 2147483648) {i v : Int} (hv : v = 0 ∨ v = 1) (hi : 0 ≤ i ∧ i < n) (hd : decode cc pc = .ok (.bastore, 1)) {M' : gMem} (hM : M' = gSt M k i v) (kk : gW y z L (pc + 1) lc st M') : gW y z L pc lc (vi v :: vi i :: vr z k :: st) M := by
  subst hM
  obtain ⟨p, l', e, R, s, m, args, below, meth, c, Q, nc, ns⟩ := y
  obtain ⟨hx, hb, -, hown, hts, hK, -⟩ := hC
  intro H locs ls hH hS hl
  obtain ⟨h1, h2, h3⟩ := gIn hn hi
  have e := gWd_set (z := z) (M := M) (M' := gSt M k i v) (e := .inl (z.2.2.2.2.1 2, n, .inl (upd (fun j => Int32.ofInt (gEl 2 (M k j))) i.toNat (vp_nar .boolean (Int32.ofInt v))))) hk (gSt_ne M k i v) (by
    simp only [gE]
    rw [gUp (g := fun j => Int32.ofInt (gEl 2 (gSt M k i v k j))) (by rcases hv with rfl | rfl <;> simp [gSt_at, h3, gEl] <;> rfl) (fun j hj => by
      have : ¬ ((j : Int) = i) := by omega
      simp [gSt_at, this])])
  refine va_zast hx hb hK hH.1 hH.2 hS k t0 (gWd_at hk) ht h1 hd (fun H1 locs1 hP hD hS1 => kk H1 locs1 ls ⟨?_, ?_⟩ hS1 hl)
  · rw [h2, e] at hP; exact hP
  · rw [h2, e] at hD; exact hD
theorem g_alen (hC : gC y z l cc own nL Ts rm) {k : Nat} (t0 : Nat) {t n : Nat} {ty : FieldType} (hk : L[k]? = some (.inl (t, n))) (ht : z.2.2.1[t0]? = some (z.2.2.2.2.1 t, ty)) (hd : decode cc pc = .ok (.arraylength, 1)) (kk : gW y z L (pc + 1) lc (vi n :: st) M) : gW y z L pc lc (vr z k :: st) M := by
  obtain ⟨p, l', e, R, s, m, args, below, meth, c, Q, nc, ns⟩ := y
  obtain ⟨hx, hb, -, hown, hts, hK, -⟩ := hC
  intro H locs ls hH hS hl
  exact va_alen (v := Int32.ofInt n) hx hb hK hH.1 k t0 (gWd_at hk) ht (by simp only; exact (Int32.ofInt_eq_ofNat).symm) hd (kk H locs ls hH hS hl)
/-- a field: a number, or a cell -/
theorem g_geti (hC : gC y z l cc own nL Ts rm) {k : Nat} {ci : Nat} {fs : List (Option Nat)} {C : String} {T : u_T} {N ix : Nat} {ref : String} (hk : L[k]? = some (.inr (.inr (ci, fs)))) (hc : z.2.1[ci]? = some (C, T, N)) (hin : ∀ w ∈ u_ws C T N, w ∈ Ts) (j : Nat) (hj : j < N) (hf : fs[j]? = some none) (hr : (T j).1 = ref) (hw : Cond.fieldLink own ix ref (T j).2.1 (T j).2.2.1 ∈ Ts) (hd : decode cc pc = .ok (.getfield ix, 3)) {ji : Int} (hji : ((j : Nat) : Int) = ji) (kk : gW y z L (pc + 3) lc (vi (M k ji) :: st) M) : gW y z L pc lc (vr z k :: st) M := by
  subst hji
  obtain ⟨p, l', e, R, s, m, args, below, meth, c, Q, nc, ns⟩ := y
  obtain ⟨hx, hb, -, hown, hts, hK, -⟩ := hC
  intro H locs ls hH hS hl
  exact va_get (v := vi (M k j)) hx hb hts hin hown hK hH.1 k (gWd_at hk) hc j hj (hts _ hw) (fun x h => by rw [← hr]; exact h) (by rw [gFs_get, hf]; simp) hd (kk H locs ls hH hS hl)
theorem g_getr (hC : gC y z l cc own nL Ts rm) {k : Nat} {ci : Nat} {fs : List (Option Nat)} {C : String} {T : u_T} {N ix r : Nat} {ref : String} (hk : L[k]? = some (.inr (.inr (ci, fs)))) (hc : z.2.1[ci]? = some (C, T, N)) (hin : ∀ w ∈ u_ws C T N, w ∈ Ts) (j : Nat) (hj : j < N) (hf : fs[j]? = some (some r)) (hr : (T j).1 = ref) (hw : Cond.fieldLink own ix ref (T j).2.1 (T j).2.2.1 ∈ Ts) (hd : decode cc pc = .ok (.getfield ix, 3)) (kk : gW y z L (pc + 3) lc (vr z r :: st) M) : gW y z L pc lc (vr z k :: st) M := by
  obtain ⟨p, l', e, R, s, m, args, below, meth, c, Q, nc, ns⟩ := y
  obtain ⟨hx, hb, -, hown, hts, hK, -⟩ := hC
  intro H locs ls hH hS hl
  exact va_get (v := vr z r) hx hb hts hin hown hK hH.1 k (gWd_at hk) hc j hj (hts _ hw) (fun x h => by rw [← hr]; exact h) (by rw [gFs_get, hf]; simp) hd (kk H locs ls hH hS hl)
theorem g_puti (hC : gC y z l cc own nL Ts rm) {k : Nat} {ci : Nat} {fs : List (Option Nat)} {C : String} {T : u_T} {N ix : Nat} {ref : String} (hk : L[k]? = some (.inr (.inr (ci, fs)))) (hc : z.2.1[ci]? = some (C, T, N)) (hin : ∀ w ∈ u_ws C T N, w ∈ Ts) {ty0 : Nat → FieldType} (hty : ∀ k, k < N → parseFieldDescriptor (T k).2.2.1 = some (ty0 k)) (hnm : ∀ a, a < N → ∀ b, b < N → a ≠ b → (T a).2.1 ≠ (T b).2.1) (j : Nat) (hj : j < N) (hf : fs[j]? = some none) (hr : (T j).1 = ref) (hw : Cond.fieldLink own ix ref (T j).2.1 (T j).2.2.1 ∈ Ts) (hfin : (T j).2.2.2 = false) (hdI : (T j).2.2.1 = "I") (hd : decode cc pc = .ok (.putfield ix, 3)) {ji : Int} (hji : ((j : Nat) : Int) = ji) {v : Int} {M' : gMem} (hM : M' = gSt M k ji v) (kk : gW y z L (pc + 3) lc st M') : gW y z L pc lc (vi v :: vr z k :: st) M := by
  subst hji
  subst hM
  obtain ⟨p, l', e, R, s, m, args, below, meth, c, Q, nc, ns⟩ := y
  obtain ⟨hx, hb, -, hown, hts, hK, -⟩ := hC
  intro H locs ls hH hS hl
  have e := gWd_set (z := z) (M := M) (M' := gSt M k j v) (e := .inr (ci, (gFs z M k 0 fs).set j (vi v))) hk (gSt_ne M k j v) (by simp only [gE]; rw [gFs_set hf])
  refine va_put (v := vi v) (ty := .int) hx hb hts hin ty0 hty hnm hown hK hH.1 hH.2 hS k (gWd_at hk) hc j hj (hts _ hw) (fun x h => by rw [← hr]; exact h) hfin (by rw [hdI]; decide +kernel) rfl rfl (by rw [gFs_len]; exact (List.getElem?_eq_some_iff.mp hf).1) hd (fun H1 locs1 hP hD hS1 => kk H1 locs1 ls ⟨?_, ?_⟩ hS1 hl)
  · rw [e] at hP; exact hP
  · rw [e] at hD; exact hD
end GH
/-! contracts: a method's answer and memory come by P -/
def gRI (y : gY) (z : gZ) (L : gLay) (ty : FieldType) (P : Int → gMem → Prop) : Prop := match y with
  | (_, _, _, _, s, _, args, below, meth, _, Q, nc, ns) => nc = 0 ∧ ns = 0 ∧ meth.sig.returnType = some ty ∧ Q = MQ below (gQI z L P s.heap.size) args s 0 0 (gAd z L s.heap.size)
def gRV (y : gY) (z : gZ) (L : gLay) (P : gMem → Prop) : Prop := match y with
  | (_, _, _, _, s, _, args, below, meth, _, Q, nc, ns) => nc = 0 ∧ ns = 0 ∧ meth.sig.returnType = none ∧ Q = MQ below (gQV z L P s.heap.size) args s 0 0 (gAd z L s.heap.size)
theorem gEn {vs : List Value} {n : Nat} (hv : ∀ v ∈ vs, v.category = 1) (hn : vs.length ≤ n) : gLs ((lg_sl vs ++ List.replicate (n - (lg_sl vs).length) Slot.unset).toArray) (vs.map some ++ List.replicate (n - vs.length) none) := by
  have hl := gSl_len vs hv
  refine ⟨?_, fun v h => ?_⟩
  · rw [gPr_args vs _ 0 hv]
    have h := lv_entry vs (n := n) (by rw [hl]; exact hn)
    have e : (vs.map some ++ List.replicate (n - vs.length) (none : Option Value)).length = n := by simp; omega
    rw [e]
    exact h
  · rcases List.mem_append.mp h with g | g
    · obtain ⟨w, hw, e⟩ := List.mem_map.mp g
      injection e with e
      rw [← e]
      exact hv w hw
    · have := List.eq_of_mem_replicate g
      cases this
section GM
variable {z : gZ} {L : gLay} {l : Launch} {cc : ByteArray} {own : String} {nL : Nat} {Ts ws' : List Cond} {rm : Room} {M : gMem}
theorem g_metI {yn : MethodName} {vs : List Value} {P : Int → gMem → Prop} (ty : FieldType) (hy : plainName yn.cls = true) (hw : Ts = Cond.code yn cc nL (some ty) :: ws') (ho : yn.cls = own) (hv : ∀ v ∈ vs, v.category = 1) (hn : vs.length ≤ nL)
    (body : ∀ y : gY, gC y z l cc own nL Ts rm → gRI y z L ty P → gW y z L 0 (vs.map some ++ List.replicate (nL - vs.length) none) [] M) : gMI l z L yn Ts rm vs M P := by
  intro sz
  refine Met.ofW (cc := cc) (maxL := nL) (ret := some ty) hy hw ?_
  intro p e s m args below meth c s₁ B hml hv'
  obtain ⟨rfl, hsz, hK, hN, hH⟩ := hv'
  subst hsz
  have hC : gC (p, l, e, (headSpec Ts rm).room, s, m, vs.toArray, below, meth, c, MQ below (gQI z L P s.heap.size) vs.toArray s 0 0 (gAd z L s.heap.size), 0, 0) z l cc own nL Ts rm :=
    ⟨B.exec, B.bytes, hml, by rw [← ho]; exact findClass_of_methodNamed B.named, atoms_spec (ws := Ts) B.pre, hK, hN, rfl, B.notSynchronized, rfl, Nat.zero_le _, Nat.zero_le _⟩
  have h := body _ hC ⟨rfl, rfl, B.returns, rfl⟩
  rw [lg_entry_eq]
  exact h s.heap [] _ (gH_D hH (fun k hk => gAd_in hk)) va_S.rf (gEn hv hn)
theorem g_metV {yn : MethodName} {vs : List Value} {P : gMem → Prop} (hy : plainName yn.cls = true) (hw : Ts = Cond.code yn cc nL none :: ws') (ho : yn.cls = own) (hv : ∀ v ∈ vs, v.category = 1) (hn : vs.length ≤ nL)
    (body : ∀ y : gY, gC y z l cc own nL Ts rm → gRV y z L P → gW y z L 0 (vs.map some ++ List.replicate (nL - vs.length) none) [] M) : gMV l z L yn Ts rm vs M P := by
  intro sz
  refine Met.ofW (cc := cc) (maxL := nL) (ret := none) hy hw ?_
  intro p e s m args below meth c s₁ B hml hv'
  obtain ⟨rfl, hsz, hK, hN, hH⟩ := hv'
  subst hsz
  have hC : gC (p, l, e, (headSpec Ts rm).room, s, m, vs.toArray, below, meth, c, MQ below (gQV z L P s.heap.size) vs.toArray s 0 0 (gAd z L s.heap.size), 0, 0) z l cc own nL Ts rm :=
    ⟨B.exec, B.bytes, hml, by rw [← ho]; exact findClass_of_methodNamed B.named, atoms_spec (ws := Ts) B.pre, hK, hN, rfl, B.notSynchronized, rfl, Nat.zero_le _, Nat.zero_le _⟩
  have h := body _ hC ⟨rfl, rfl, B.returns, rfl⟩
  rw [lg_entry_eq]
  exact h s.heap [] _ (gH_D hH (fun k hk => gAd_in hk)) va_S.rf (gEn hv hn)
end GM
section GR
variable {y : gY} {z : gZ} {L : gLay} {l : Launch} {cc : ByteArray} {own : String} {nL : Nat} {Ts : List Cond} {rm : Room} {pc : Nat} {lc : List (Option Value)} {st : List Value} {M : gMem}
theorem g_iret {P : Int → gMem → Prop} (hC : gC y z l cc own nL Ts rm) (hR : gRI y z L .int P) {v : Int} (hd : decode cc pc = .ok (.ireturn, 1)) (hp : P v M) : gW y z L pc lc [vi v] M := by
  obtain ⟨p, l', e, R, s, m, args, below, meth, c, Q, nc, ns⟩ := y
  obtain ⟨hx, hb, -, -, -, -, -, -, hlk, -⟩ := hC
  obtain ⟨rfl, rfl, hr, rfl⟩ := hR
  intro H locs ls hH hS hl
  exact W.iret (v := Int32.ofInt v) hx hb hr (fun t ht hW => ⟨⟨_, M, rfl, ⟨v, rfl, hp⟩, by show gH z L (gAd z L s.heap.size) M t.heap; rw [ht]; exact hH⟩, hS.F ht⟩) hS.2.2 hd hlk
theorem g_zret {P : Int → gMem → Prop} (hC : gC y z l cc own nL Ts rm) (hR : gRI y z L .boolean P) {v : Int} (hv : v = 0 ∨ v = 1) (hd : decode cc pc = .ok (.ireturn, 1)) (hp : P v M) : gW y z L pc lc [vi v] M := by
  obtain ⟨p, l', e, R, s, m, args, below, meth, c, Q, nc, ns⟩ := y
  obtain ⟨hx, hb, -, -, -, -, -, -, hlk, -⟩ := hC
  obtain ⟨rfl, rfl, hr, rfl⟩ := hR
  intro H locs ls hH hS hl
  exact W.zret (v := Int32.ofInt v) hx hb hr (by rcases hv with rfl | rfl <;> rfl) (fun t ht hW => ⟨⟨_, M, rfl, ⟨v, rfl, hp⟩, by show gH z L (gAd z L s.heap.size) M t.heap; rw [ht]; exact hH⟩, hS.F ht⟩) hS.2.2 hd hlk
theorem g_vret {P : gMem → Prop} (hC : gC y z l cc own nL Ts rm) (hR : gRV y z L P) (hd : decode cc pc = .ok (.return_, 1)) (hp : P M) : gW y z L pc lc [] M := by
  obtain ⟨p, l', e, R, s, m, args, below, meth, c, Q, nc, ns⟩ := y
  obtain ⟨hx, hb, -, -, -, -, -, -, hlk, -⟩ := hC
  obtain ⟨rfl, rfl, hr, rfl⟩ := hR
  intro H locs ls hH hS hl
  exact W.vret hx hb hr (fun t ht hW => ⟨⟨M, rfl, hp, by show gH z L (gAd z L s.heap.size) M t.heap; rw [ht]; exact hH⟩, hS.F ht⟩) hS.2.2 hd hlk
/-- what a call needs of the tables and the room -/
def gCw (Ts : List Cond) (rm : Room) (yc : MethodName) (cb : ByteArray) (mL : Nat) (ret : Option FieldType) (ws : List Cond) (rc : Room) (n : Nat) : Prop :=
  GoodIn Ts ws ∧ (∃ ws', ws = Cond.code yc cb mL ret :: ws') ∧ rc.cells = 0 ∧ rc.slots = 0 ∧ rc.frames + 1 ≤ rm.frames ∧ 8 + (mL + 11) + rc.locals ≤ rm.locals ∧ (yc.cls ≠ "java/lang/invoke/MethodHandle" ∧ yc.cls ≠ "java/lang/invoke/VarHandle" ∧ (parseMethodDescriptor yc.desc).map (fun d => d.parameters.length) = some n) ∧ Cond.initialized yc.cls ∈ Ts
theorem gBlind {vs : List Value} {sz : Nat} : FrameBlind (va_Pc vs (gPre z L M sz)) := fun a U g mk q => by
  obtain ⟨q1, q2, q3, q4, q5⟩ := q
  exact ⟨q1, q2, va_K.moved (u := U) (U := U.calling g mk a) (Vm.Alike.refl U.vm) q3, fun t ht => va_Nw.same rfl rfl (q4 t ht), q5⟩
theorem gPreU {s U : State} {H : Heap} {A : Nat → Prop} (hK : va_K z.1 z.2.1 z.2.2.1 s) (hN : gNs z s) (hH : gH z L A M H) (hU : U.heap = H) (hW : s.WarmedH U.vm) : gPre z L M H.size U :=
  ⟨by rw [hU], va_K.moved hW.alike hK, fun t ht => va_Nw.warmM hW (hN t ht), by rw [hU]; exact gH_D hH (fun _ _ => trivial)⟩
theorem gRecv {s : State} {H : Heap} {A : Nat → Prop} {k ci : Nat} {fs : List (Option Nat)} {q : vw_C} (hK : va_K z.1 z.2.1 z.2.2.1 s) (hH : gH z L A M H) (hk : L[k]? = some (.inr (.inr (ci, fs)))) (hc : z.2.1[ci]? = some q) : ∃ cell : Cell, H[z.2.2.2.1 k]? = some cell ∧ cell.vm.isStatics = false ∧ s.vm.findClass q.1 = some cell.cls :=
  va_recv hK hH.1 hc (gWd_at hk)
theorem gAd_sub {s0 s1 : Nat} (h : s0 ≤ s1) (q : Nat) (hq : gAd z L s1 q) : gAd z L s0 q := by
  rcases hq with g | g
  · exact Or.inl g
  · exact Or.inr (Nat.le_trans h g)
/-- how a call is made -/
def gRun (y : gY) (z : gZ) (L : gLay) (pc : Nat) (lc : List (Option Value)) (st rest : List Value) (M : gMem) (Qa : Nat → Array Value → State → Outcome → State → Prop) (av : Array Value) : Prop := match y with
  | (p, l, e, R, s, m, args, below, meth, c, _, nc, ns) => ∀ (H : Heap) (locs : List Loc) (ls : Array Slot), gH z L (gAd z L s.heap.size) M H → va_S (gAd z L s.heap.size) s.heap H locs → gLs ls lc → va_Run p l e R s m args below meth c H locs nc ns 0 0 (F0 m pc ls st) rest (Qa H.size av) (gAd z L H.size)
theorem g_runV {yc : MethodName} {cb : ByteArray} {mL n ix k ci : Nat} {fs : List (Option Nat)} {ret : Option FieldType} {ws : List Cond} {rc : Room} {As rest : List Value} {q : vw_C} {Qa : Nat → Array Value → State → Outcome → State → Prop} (hC : gC y z l cc own nL Ts rm) (hnL : lc.length = nL)
    (hM : ∀ sz, Met l yc ws rc (va_Pc (vr z k :: As) (gPre z L M sz)) (Qa sz) 0 0 (gAd z L sz)) (hk : L[k]? = some (.inr (.inr (ci, fs)))) (hc : z.2.1[ci]? = some q) (hw : gCw Ts rm yc cb mL ret ws rc n) (hcl : yc.cls = q.1) (w1 : Cond.methodLink own ix yc ∈ Ts) (w2 : Cond.instanceMethod yc ∈ Ts) (w3 : Cond.selects q.1 yc yc ∈ Ts) (hl : As.length = n) (hrs : (rest.map fun v => v.category).sum ≤ 8) (hst : st = As.reverse ++ vr z k :: rest) (hd : decode cc pc = .ok (.invokevirtual ix, 3)) : gRun y z L pc lc st rest M Qa (vr z k :: As).toArray := by
  obtain ⟨p, l', e, R, s, m, args, below, meth, c, Q, nc, ns⟩ := y
  obtain ⟨hx, hb, hml, hown, hts, hK, hN, hR, hlk, hl', hnc, hns⟩ := hC
  subst hR
  subst hl'
  obtain ⟨g1, ⟨ws', g2⟩, g3, g4, g5, g6, g7, g8⟩ := hw
  intro H locs ls hH hS hls
  have hT : GoodIn Ts (wsV own ix q.1 yc ws) := fun w h => by
    unfold wsV at h
    rcases List.mem_append.mp h with h | h
    · simp only [List.mem_cons, List.not_mem_nil, or_false] at h
      rcases h with rfl | rfl | rfl | rfl
      · exact ⟨w1, Or.inl (by first | rfl | simp [Cond.onTables, Cond.keeps, Cond.steady])⟩
      · exact ⟨w2, Or.inl (by first | rfl | simp [Cond.onTables, Cond.keeps, Cond.steady])⟩
      · exact ⟨w3, Or.inl (by first | rfl | simp [Cond.onTables, Cond.keeps, Cond.steady])⟩
      · exact ⟨by rw [← hcl]; exact g8, Or.inl (by first | rfl | simp [Cond.onTables, Cond.keeps, Cond.steady])⟩
    · exact g1 w h
  exact va_runV (As := As) (rest := rest) (C := q.1) ⟨hx, hb, hml, hown, hts⟩ (hM H.size) (cwV n hts hT g2 g3 g4 ⟨hcl, g7⟩ ⟨g5, g6⟩) ⟨gBlind, gRecv hK hH hk hc, fun U hU hW => ⟨rfl, gPreU hK hN hH hU hW⟩⟩ rfl hl (hls.1.1.trans hnL) hst (lv_room hrs) hd ⟨hnc, hns⟩
theorem g_runS {yc : MethodName} {cb : ByteArray} {mL n ix : Nat} {ret : Option FieldType} {ws : List Cond} {rc : Room} {As rest : List Value} {Qa : Nat → Array Value → State → Outcome → State → Prop} (hC : gC y z l cc own nL Ts rm) (hnL : lc.length = nL)
    (hM : ∀ sz, Met l yc ws rc (va_Pc As (gPre z L M sz)) (Qa sz) 0 0 (gAd z L sz)) (hw : gCw Ts rm yc cb mL ret ws rc n) (w1 : Cond.methodLink own ix yc ∈ Ts) (w2 : Cond.static yc ∈ Ts) (hl : As.length = n) (hrs : (rest.map fun v => v.category).sum ≤ 8) (hst : st = As.reverse ++ rest) (hd : decode cc pc = .ok (.invokestatic ix, 3)) : gRun y z L pc lc st rest M Qa As.toArray := by
  obtain ⟨p, l', e, R, s, m, args, below, meth, c, Q, nc, ns⟩ := y
  obtain ⟨hx, hb, hml, hown, hts, hK, hN, hR, hlk, hl', hnc, hns⟩ := hC
  subst hR
  subst hl'
  obtain ⟨g1, ⟨ws', g2⟩, g3, g4, g5, g6, g7, g8⟩ := hw
  intro H locs ls hH hS hls
  exact va_runS (As := As) (rest := rest) ⟨hx, hb, hml, hown, hts⟩ (hM H.size) ⟨callB_of n hts g1 g2 g3 g4 (hts _ g8) (hts _ w1) g7 ⟨g5, g6⟩, hts _ w2⟩ ⟨gBlind, fun U hU hW => ⟨rfl, gPreU hK hN hH hU hW⟩⟩ rfl hl (hls.1.1.trans hnL) hst (lv_room hrs) hd ⟨hnc, hns⟩
theorem g_runSN {yc : MethodName} {cb : ByteArray} {mL n ix : Nat} {host : String} {ret : Option FieldType} {ws : List Cond} {rc : Room} {As rest : List Value} {Qa : Nat → Array Value → State → Outcome → State → Prop} (hC : gC y z l cc own nL Ts rm) (hnL : lc.length = nL)
    (hM : ∀ sz, Met l yc ws rc (va_Pc As (gPre z L M sz)) (Qa sz) 0 0 (gAd z L sz)) (hw : gCw Ts rm yc cb mL ret ws rc n) (w1 : (own, ix, yc, host) ∈ z.2.2.2.2.2) (w2 : Cond.static yc ∈ Ts) (hl : As.length = n) (hrs : (rest.map fun v => v.category).sum ≤ 8) (hst : st = As.reverse ++ rest) (hd : decode cc pc = .ok (.invokestatic ix, 3)) : gRun y z L pc lc st rest M Qa As.toArray := by
  obtain ⟨p, l', e, R, s, m, args, below, meth, c, Q, nc, ns⟩ := y
  obtain ⟨hx, hb, hml, hown, hts, hK, hN, hR, hlk, hl', hnc, hns⟩ := hC
  subst hR
  subst hl'
  obtain ⟨g1, ⟨ws', g2⟩, g3, g4, g5, g6, g7, g8⟩ := hw
  intro H locs ls hH hS hls
  exact va_runSN (As := As) (rest := rest) ⟨hx, hb, hml, hown, hts⟩ (hM H.size) ⟨va_cnB n hts g1 g2 g3 g4 (hN _ w1) (hts _ g8) g7 ⟨g5, g6⟩, hts _ w2, trivial⟩ ⟨gBlind, fun U hU hW => ⟨rfl, gPreU hK hN hH hU hW⟩⟩ rfl hl (hls.1.1.trans hnL) hst (lv_room hrs) hd ⟨hnc, hns⟩
theorem g_calli {rest : List Value} {av : Array Value} {P : Int → gMem → Prop} (hr : gRun y z L pc lc st rest M (gQI z L P) av) (kk : ∀ (r : Int) (M' : gMem), P r M' → gW y z L (pc + 3) lc (vi r :: rest) M') : gW y z L pc lc st M := by
  obtain ⟨p, l', e, R, s, m, args, below, meth, c, Q, nc, ns⟩ := y
  intro H locs ls hH hS hls
  refine va_calli (hr H locs ls hH hS hls) hS (fun q _ h => gAd_sub hS.1 q h) (fun q h => gAd_sub hS.1 q h) (fun r u t H1 locs1 ht _ hp hB _ _ hS1 => ?_)
  obtain ⟨v, rfl, hp⟩ := hp
  rw [ht] at hB
  exact kk v u hp H1 locs1 ls (gH_D hB (fun k hk => gAd_in hk)) hS1 hls
theorem g_callv {rest : List Value} {av : Array Value} {P : gMem → Prop} (hr : gRun y z L pc lc st rest M (gQV z L P) av) (kk : ∀ (M' : gMem), P M' → gW y z L (pc + 3) lc rest M') : gW y z L pc lc st M := by
  obtain ⟨p, l', e, R, s, m, args, below, meth, c, Q, nc, ns⟩ := y
  intro H locs ls hH hS hls
  refine va_callv (hr H locs ls hH hS hls) hS (fun q _ h => gAd_sub hS.1 q h) (fun q h => gAd_sub hS.1 q h) (fun u t H1 locs1 ht _ hp hB _ _ hS1 => ?_)
  rw [ht] at hB
  exact kk u hp H1 locs1 ls (gH_D hB (fun k hk => gAd_in hk)) hS1 hls
/-! System.arraycopy of ints or bytes; Math.max, Math.min -/
theorem gFit (t : Nat) (ty : FieldType) (v : Int) (h : (t = 0 ∧ ty = .int) ∨ (t = 1 ∧ ty = .byte)) : fits ty (.int (Int32.ofInt (gEl t v))) = true := by
  rcases h with ⟨rfl, rfl⟩ | ⟨rfl, rfl⟩
  · rfl
  · have : Int32.ofInt (gEl 1 v) = (Int32.ofInt v).toInt8.toInt32 := by rw [gt_byte]; rfl
    rw [this]
    exact pk_fb _
theorem g_acopy (hC : gC y z l cc own nL Ts rm) (hnL : lc.length = nL) {ka kb : Nat} (t0 : Nat) {t na nb ix : Nat} {ty : FieldType} (hty : (t = 0 ∧ ty = .int) ∨ (t = 1 ∧ ty = .byte)) (hka : L[ka]? = some (.inl (t, na))) (hkb : L[kb]? = some (.inl (t, nb))) (ht : z.2.2.1[t0]? = some (z.2.2.2.2.1 t, ty)) (hna : na < 2147483648) (hnb : nb < 2147483648) {sp dp n : Int} (h1 : 0 ≤ sp) (h2 : 0 ≤ dp) (h3 : 0 ≤ n) (h4 : sp + n ≤ na) (h5 : dp + n ≤ nb)
    (w1 : Cond.methodLink own ix arraycopyName ∈ Ts) (w2 : Cond.native arraycopyName ∈ Ts) (w3 : Cond.static arraycopyName ∈ Ts) (w4 : Cond.initialized "java/lang/System" ∈ Ts) (hf : 1 ≤ rm.frames) (hlo : (st.map fun v => v.category).sum + (nativeFrameWords "java/lang/System" "arraycopy" 5 + 11) ≤ rm.locals) (hd : decode cc pc = .ok (.invokestatic ix, 3)) {M' : gMem} (hM : M' = gCp M ka kb sp dp n) (kk : gW y z L (pc + 3) lc st M') : gW y z L pc lc (vi n :: vi dp :: vr z kb :: vi sp :: vr z ka :: st) M := by
  subst hM
  obtain ⟨p, l', e, R, s, m, args, below, meth, c, Q, nc, ns⟩ := y
  obtain ⟨hx, hb, hml, hown, hts, hK, -, hR, -, -, hnc, hns⟩ := hC
  subst hR
  intro H locs ls hH hS hl
  have nn : ∀ a : Int, rg a → 0 ≤ a → ¬ Int32.ofInt a < 0 := fun a ha h q => by
    have := (gt_lt (b := 0) ha (by decide)).mp q
    omega
  have tn : ∀ a : Int, rg a → (Int32.ofInt a).toNatClampNeg = a.toNat := fun a ha => Int32.toNatClampNeg_ofInt_of_le ha.1 ha.2
  have r1 : rg sp := ⟨by omega, by omega⟩
  have r2 : rg dp := ⟨by omega, by omega⟩
  have r3 : rg n := ⟨by omega, by omega⟩
  have e := gWd_set (z := z) (M := M) (M' := gCp M ka kb sp dp n) (e := .inl (z.2.2.2.2.1 t, nb, .inl (va_cpy (fun j => Int32.ofInt (gEl t (M ka j))) (fun j => Int32.ofInt (gEl t (M kb j))) sp.toNat dp.toNat n.toNat))) hkb (gCp_ne M ka kb sp dp n) (by
    simp only [gE]
    congr 4
    funext j
    simp only [va_cpy, gCp]
    by_cases h : dp.toNat ≤ j ∧ j < dp.toNat + n.toNat
    · rw [if_pos h, if_pos ⟨trivial, by omega, by omega⟩]
      rw [show ((sp.toNat + (j - dp.toNat) : Nat) : Int) = sp + ((j : Int) - dp) by omega]
    · rw [if_neg h, if_neg (by omega)])
  refine va_copyi hx hb (hml.trans (hnL.symm.trans hl.1.1.symm)) hown (hts _ w1) (hts _ w2) (hts _ w3) (hts _ w4) hK hH.1 hH.2 hS ka kb t0 t0 (gWd_at hka) (gWd_at hkb) ht ht (by rcases hty with ⟨-, rfl⟩ | ⟨-, rfl⟩ <;> rfl) (nn sp r1 h1) (nn dp r2 h2) (nn n r3 h3) (by rw [tn sp r1, tn n r3]; omega) (by rw [tn dp r2, tn n r3]; omega) (fun i _ => gFit t ty _ hty) hf hlo hd (fun H1 locs1 hP hD hS1 => kk H1 locs1 ls ⟨?_, ?_⟩ hS1 hl)
  · rw [tn sp r1, tn dp r2, tn n r3, e] at hP; exact hP
  · rw [tn sp r1, tn dp r2, tn n r3, e] at hD; exact hD
theorem g_max (hC : gC y z l cc own nL Ts rm) (hnL : lc.length = nL) {a b : Int} {ix : Nat} (ha : rg a) (hb' : rg b) (w1 : Cond.methodLink own ix Lib.Math.max.name ∈ Ts) (w2 : Cond.static Lib.Math.max.name ∈ Ts) (w3 : Cond.initialized "java/lang/Math" ∈ Ts) (w4 : Cond.code Lib.Math.max.name Lib.Math.max.code 2 (some .int) ∈ Ts) (hf : 1 ≤ rm.frames) (hlo : (st.map fun v => v.category).sum + 13 ≤ rm.locals) (hd : decode cc pc = .ok (.invokestatic ix, 3)) (k : gW y z L (pc + 3) lc (vi (max a b) :: st) M) : gW y z L pc lc (vi b :: vi a :: st) M := by
  obtain ⟨p, l', e, R, s, m, args, below, meth, c, Q, nc, ns⟩ := y
  obtain ⟨hx, hb, hml, hown, hts, hK, -, hR, -, -, hnc, hns⟩ := hC
  subst hR
  intro H locs ls hH hS hl
  refine va_mmax hx hb (hml.trans (hnL.symm.trans hl.1.1.symm)) hown (hts _ w1) (hts _ w2) (hts _ w3) (hts _ w4) hf hlo hnc hns hd ?_
  have e : (if Int32.ofInt a < Int32.ofInt b then Int32.ofInt b else Int32.ofInt a) = Int32.ofInt (max a b) := by
    by_cases h : a < b
    · rw [if_pos ((gt_lt ha hb').mpr h), Int.max_eq_right (Int.le_of_lt h)]
    · rw [if_neg (fun q => h ((gt_lt ha hb').mp q)), Int.max_eq_left (by omega)]
  rw [e]
  exact k H locs ls hH hS hl
theorem g_min (hC : gC y z l cc own nL Ts rm) (hnL : lc.length = nL) {a b : Int} {ix : Nat} (ha : rg a) (hb' : rg b) (w1 : Cond.methodLink own ix Lib.Math.min.name ∈ Ts) (w2 : Cond.static Lib.Math.min.name ∈ Ts) (w3 : Cond.initialized "java/lang/Math" ∈ Ts) (w4 : Cond.code Lib.Math.min.name Lib.Math.min.code 2 (some .int) ∈ Ts) (hf : 1 ≤ rm.frames) (hlo : (st.map fun v => v.category).sum + 13 ≤ rm.locals) (hd : decode cc pc = .ok (.invokestatic ix, 3)) (k : gW y z L (pc + 3) lc (vi (min a b) :: st) M) : gW y z L pc lc (vi b :: vi a :: st) M := by
  obtain ⟨p, l', e, R, s, m, args, below, meth, c, Q, nc, ns⟩ := y
  obtain ⟨hx, hb, hml, hown, hts, hK, -, hR, -, -, hnc, hns⟩ := hC
  subst hR
  intro H locs ls hH hS hl
  refine va_mmin hx hb (hml.trans (hnL.symm.trans hl.1.1.symm)) hown (hts _ w1) (hts _ w2) (hts _ w3) (hts _ w4) hf hlo hnc hns hd ?_
  have e : (if Int32.ofInt b < Int32.ofInt a then Int32.ofInt b else Int32.ofInt a) = Int32.ofInt (min a b) := by
    by_cases h : b < a
    · rw [if_pos ((gt_lt hb' ha).mpr h), Int.min_eq_right (Int.le_of_lt h)]
    · rw [if_neg (fun q => h ((gt_lt hb' ha).mp q)), Int.min_eq_left (by omega)]
  rw [e]
  exact k H locs ls hH hS hl
end GR
