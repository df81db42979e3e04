/-! ONE INSTRUCTION A ROW, over the fixed world -/
def gC (y : gY) (z : gZ) (l : Launch) (cc : ByteArray) (own : String) (nL : Nat) (Ts : List Cond) (rm : Room) : Prop := match y with
  | (p, l', _, R, s, m, args, _, meth, c, _, nc, ns) => p.tables.exec = Jvm.exec ∧ c.code = cc ∧ c.maxLocals = nL ∧ s.vm.findClass own = some m.cls ∧ (∀ w ∈ Ts, w.before args s = true) ∧ va_K z.1 z.2.1 z.2.2.1 s ∧ gNs z s ∧ R = rm ∧ meth.locks = false ∧ l' = l ∧ nc ≤ rm.cells ∧ ns ≤ rm.slots
def gW (y : gY) (z : gZ) (L : gLay) (pc : Nat) (lc : List (Option Value)) (st : List Value) (M : gMem) : Prop := match y with
  | (p, l, e, R, s, m, args, below, meth, c, Q, nc, ns) => ∀ (H : Heap) (locs : List Loc) (ls : Array Slot), gH z L (gAd z L s.heap.size) M H → va_S (gAd z L s.heap.size) s.heap H locs → gLs ls lc → W p l e R s m args below meth c H locs nc ns Q (F0 m pc ls st)
section GS
variable {y : gY} {z : gZ} {L : gLay} {l : Launch} {cc : ByteArray} {own : String} {nL : Nat} {Ts : List Cond} {rm : Room} {pc : Nat} {lc : List (Option Value)} {st : List Value} {M : gMem}
/-- a step that reads and writes no cell and no local -/
theorem g_go {pc' : Nat} {st' : List Value} (hC : gC y z l cc own nL Ts rm)
    (h : ∀ (p : Program) (l : Launch) (e : Env) (R : Room) (s : State) (m : MethodId) (args : Array Value) (below : List Frame) (meth : Method) (c : Code) (Q : State → Prop) (H : Heap) (locs : List Loc) (nc ns : Nat) (ls : Array Slot), p.tables.exec = Jvm.exec → c.code = cc → s.vm.findClass own = some m.cls → (∀ w ∈ Ts, w.before args s = true) → gLs ls lc → W p l e R s m args below meth c H locs nc ns Q (F0 m pc' ls st') → W p l e R s m args below meth c H locs nc ns Q (F0 m pc ls st))
    (k : gW y z L pc' lc st' M) : gW y z L pc lc st M := by
  obtain ⟨p, l', e, R, s, m, args, below, meth, c, Q, nc, ns⟩ := y
  obtain ⟨hx, hb, -, hown, hts, -⟩ := hC
  intro H locs ls hH hS hl
  exact h p l' e R s m args below meth c Q H locs nc ns ls hx hb hown hts hl (k H locs ls hH hS hl)
theorem g_br {pc1 pc2 : Nat} {st1 : List Value} {A : Prop} (hC : gC y z l cc own nL Ts rm)
    (h : ∀ (p : Program) (l : Launch) (e : Env) (R : Room) (s : State) (m : MethodId) (args : Array Value) (below : List Frame) (meth : Method) (c : Code) (Q : State → Prop) (H : Heap) (locs : List Loc) (nc ns : Nat) (ls : Array Slot), p.tables.exec = Jvm.exec → c.code = cc → (A → W p l e R s m args below meth c H locs nc ns Q (F0 m pc1 ls st1)) → (¬ A → W p l e R s m args below meth c H locs nc ns Q (F0 m pc2 ls st1)) → W p l e R s m args below meth c H locs nc ns Q (F0 m pc ls st))
    (k1 : A → gW y z L pc1 lc st1 M) (k2 : ¬ A → gW y z L pc2 lc st1 M) : gW y z L pc lc st M := by
  obtain ⟨p, l', e, R, s, m, args, below, meth, c, Q, nc, ns⟩ := y
  obtain ⟨hx, hb, -⟩ := hC
  intro H locs ls hH hS hl
  exact h p l' e R s m args below meth c Q H locs nc ns ls hx hb (fun q => k1 q H locs ls hH hS hl) (fun q => k2 q H locs ls hH hS hl)
theorem g_sub {lc' : List (Option Value)} (hs : gLe lc' lc) (k : gW y z L pc lc' st M) : gW y z L pc lc st M := by
  obtain ⟨p, l', e, R, s, m, args, below, meth, c, Q, nc, ns⟩ := y
  intro H locs ls hH hS hl
  exact k H locs ls hH hS (hl.sub hs)
theorem g_iconst (hC : gC y z l cc own nL Ts rm) {n : Int} (hd : decode cc pc = .ok (.iconst n, 1)) (k : gW y z L (pc + 1) lc (vi n :: st) M) : gW y z L pc lc st M :=
  g_go hC (fun _ _ _ _ _ _ _ _ _ _ _ _ _ _ _ _ hx hb _ _ _ w => lv_iconst hx hb hd rfl w) k
theorem g_bipush (hC : gC y z l cc own nL Ts rm) {n : Int} (hd : decode cc pc = .ok (.bipush n, 2)) (hv : (Int8.ofInt n).toInt32 = Int32.ofInt n) (k : gW y z L (pc + 2) lc (vi n :: st) M) : gW y z L pc lc st M :=
  g_go hC (fun _ _ _ _ _ _ _ _ _ _ _ _ _ _ _ _ hx hb _ _ _ w => lv_bipush hx hb hd hv w) k
theorem g_sipush (hC : gC y z l cc own nL Ts rm) {n : Int} (hd : decode cc pc = .ok (.sipush n, 3)) (hv : (Int16.ofInt n).toInt32 = Int32.ofInt n) (k : gW y z L (pc + 3) lc (vi n :: st) M) : gW y z L pc lc st M :=
  g_go hC (fun _ _ _ _ _ _ _ _ _ _ _ _ _ _ _ _ hx hb _ _ _ w => lv_sipush hx hb hd hv w) k
theorem g_ldc (hC : gC y z l cc own nL Ts rm) {ix : Nat} {v : Int32} {n : Int} (hd : decode cc pc = .ok (.ldc ix, 2)) (hw : Cond.constant own ix v ∈ Ts) (hv : v = Int32.ofInt n) (k : gW y z L (pc + 2) lc (vi n :: st) M) : gW y z L pc lc st M :=
  g_go hC (fun _ _ _ _ _ _ _ _ _ _ _ _ _ _ _ _ hx hb ho ht _ w => lv_ldc hx hb ho (ht _ hw) hd (by rw [hv]; exact w)) k
theorem g_ldcw (hC : gC y z l cc own nL Ts rm) {ix : Nat} {v : Int32} {n : Int} (hd : decode cc pc = .ok (.ldc_w ix, 3)) (hw : Cond.constant own ix v ∈ Ts) (hv : v = Int32.ofInt n) (k : gW y z L (pc + 3) lc (vi n :: st) M) : gW y z L pc lc st M :=
  g_go hC (fun _ _ _ _ _ _ _ _ _ _ _ _ _ _ _ _ hx hb ho ht _ w => lv_ldcw hx hb ho (ht _ hw) hd (by rw [hv]; exact w)) k
theorem g_iload (hC : gC y z l cc own nL Ts rm) {i : Nat} {a : Int} (hd : decode cc pc = .ok (.iload i, 2)) (hi : lc[i]? = some (some (vi a))) (k : gW y z L (pc + 2) lc (vi a :: st) M) : gW y z L pc lc st M :=
  g_go hC (fun _ _ _ _ _ _ _ _ _ _ _ _ _ _ _ _ hx hb _ _ hl w => lv_iload hx hb hd (hl.at hi) w) k
theorem g_iload_n (hC : gC y z l cc own nL Ts rm) {q : Fin 4} {i : Nat} {a : Int} (hd : decode cc pc = .ok (.iload_n q, 1)) (hq : (q : Nat) = i) (hi : lc[i]? = some (some (vi a))) (k : gW y z L (pc + 1) lc (vi a :: st) M) : gW y z L pc lc st M :=
  g_go hC (fun _ _ _ _ _ _ _ _ _ _ _ _ _ _ _ _ hx hb _ _ hl w => lv_iload_n hx hb hd hq (hl.at hi) w) k
theorem g_aload (hC : gC y z l cc own nL Ts rm) {i : Nat} {a : Nat} (hd : decode cc pc = .ok (.aload i, 2)) (hi : lc[i]? = some (some (vr z a))) (k : gW y z L (pc + 2) lc (vr z a :: st) M) : gW y z L pc lc st M :=
  g_go hC (fun _ _ _ _ _ _ _ _ _ _ _ _ _ _ _ _ hx hb _ _ hl w => lv_aload hx hb hd (hl.at hi) w) k
theorem g_aload_n (hC : gC y z l cc own nL Ts rm) {q : Fin 4} {i : Nat} {a : Nat} (hd : decode cc pc = .ok (.aload_n q, 1)) (hq : (q : Nat) = i) (hi : lc[i]? = some (some (vr z a))) (k : gW y z L (pc + 1) lc (vr z a :: st) M) : gW y z L pc lc st M :=
  g_go hC (fun _ _ _ _ _ _ _ _ _ _ _ _ _ _ _ _ hx hb _ _ hl w => lv_aload_n hx hb hd hq (hl.at hi) w) k
theorem g_istore (hC : gC y z l cc own nL Ts rm) {i : Nat} {a : Int} (hd : decode cc pc = .ok (.istore i, 2)) (hi : i < lc.length) (k : gW y z L (pc + 2) (lc.set i (some (vi a))) st M) : gW y z L pc lc (vi a :: st) M := by
  obtain ⟨p, l', e, R, s, m, args, below, meth, c, Q, nc, ns⟩ := y
  obtain ⟨hx, hb, -⟩ := hC
  intro H locs ls hH hS hl
  exact lv_istore hx hb hd hl.1 hi rfl (fun ls' h' => k H locs ls' hH hS (hl.set rfl h'))
theorem g_istore_n (hC : gC y z l cc own nL Ts rm) {q : Fin 4} {i : Nat} {a : Int} (hd : decode cc pc = .ok (.istore_n q, 1)) (hq : (q : Nat) = i) (hi : i < lc.length) (k : gW y z L (pc + 1) (lc.set i (some (vi a))) st M) : gW y z L pc lc (vi a :: st) M := by
  obtain ⟨p, l', e, R, s, m, args, below, meth, c, Q, nc, ns⟩ := y
  obtain ⟨hx, hb, -⟩ := hC
  intro H locs ls hH hS hl
  exact lv_istore_n hx hb hd hq hl.1 hi rfl (fun ls' h' => k H locs ls' hH hS (hl.set rfl h'))
theorem gPr_at {lc : List (Option Value)} {i : Nat} {v : Value} (h : lc[i]? = some (some v)) : ∃ j : Nat, (gPr 0 lc)[j]? = some (i, v) :=
  List.getElem?_of_mem ((gPr_mem lc 0 i v).mpr ⟨Nat.zero_le _, h⟩)
theorem g_iinc (hC : gC y z l cc own nL Ts rm) {i : Nat} {a n : Int} (hd : decode cc pc = .ok (.iinc i n, 3)) (hi : lc[i]? = some (some (vi a))) (k : gW y z L (pc + 3) (lc.set i (some (vi (a + n)))) st M) : gW y z L pc lc st M := by
  obtain ⟨p, l', e, R, s, m, args, below, meth, c, Q, nc, ns⟩ := y
  obtain ⟨hx, hb, -⟩ := hC
  intro H locs ls hH hS hl
  obtain ⟨j, hj⟩ := gPr_at hi
  exact lv_iinc (v := Int32.ofInt (a + n)) hx hb hd hl.1 hj (Int32.ofInt_add a n).symm (List.getElem?_eq_some_iff.mp hi).1 rfl (fun ls' h' => k H locs ls' hH hS (hl.set rfl h'))
theorem g_dup (hC : gC y z l cc own nL Ts rm) {v : Value} (hd : decode cc pc = .ok (.dup, 1)) (hv : v.category = 1) (k : gW y z L (pc + 1) lc (v :: v :: st) M) : gW y z L pc lc (v :: st) M :=
  g_go hC (fun _ _ _ _ _ _ _ _ _ _ _ _ _ _ _ _ hx hb _ _ _ w => lv_dup hx hb hd hv w) k
theorem g_dup2 (hC : gC y z l cc own nL Ts rm) {v u : Value} (hd : decode cc pc = .ok (.dup2, 1)) (hv : v.category = 1) (hu : u.category = 1) (k : gW y z L (pc + 1) lc (v :: u :: v :: u :: st) M) : gW y z L pc lc (v :: u :: st) M :=
  g_go hC (fun _ _ _ _ _ _ _ _ _ _ _ _ _ _ _ _ hx hb _ _ _ w => lv_dup2_11 hx hb hd hv hu w) k
theorem g_pop (hC : gC y z l cc own nL Ts rm) {v : Value} (hd : decode cc pc = .ok (.pop, 1)) (hv : v.category = 1) (k : gW y z L (pc + 1) lc st M) : gW y z L pc lc (v :: st) M :=
  g_go hC (fun _ _ _ _ _ _ _ _ _ _ _ _ _ _ _ _ hx hb _ _ _ w => lv_pop hx hb hd hv w) k
theorem g_goto (hC : gC y z l cc own nL Ts rm) {off : Int} (tgt : Nat) (hd : decode cc pc = .ok (.goto off, 3)) (ht : (pc : Int) + off = (tgt : Int)) (k : gW y z L tgt lc st M) : gW y z L pc lc st M :=
  g_go hC (fun _ _ _ _ _ _ _ _ _ _ _ _ _ _ _ _ hx hb _ _ _ w => lv_goto hx hb hd ht w) k
theorem g_iadd (hC : gC y z l cc own nL Ts rm) {a b : Int} (hd : decode cc pc = .ok (.iadd, 1)) (k : gW y z L (pc + 1) lc (vi (a + b) :: st) M) : gW y z L pc lc (vi b :: vi a :: st) M :=
  g_go hC (fun _ _ _ _ _ _ _ _ _ _ _ _ _ _ _ _ hx hb _ _ _ w => lv_iadd hx hb hd (by rw [← Int32.ofInt_add]; exact w)) k
theorem g_isub (hC : gC y z l cc own nL Ts rm) {a b : Int} (hd : decode cc pc = .ok (.isub, 1)) (k : gW y z L (pc + 1) lc (vi (a - b) :: st) M) : gW y z L pc lc (vi b :: vi a :: st) M :=
  g_go hC (fun _ _ _ _ _ _ _ _ _ _ _ _ _ _ _ _ hx hb _ _ _ w => lv_isub hx hb hd (by rw [← Int32.ofInt_sub]; exact w)) k
theorem g_imul (hC : gC y z l cc own nL Ts rm) {a b : Int} (hd : decode cc pc = .ok (.imul, 1)) (k : gW y z L (pc + 1) lc (vi (a * b) :: st) M) : gW y z L pc lc (vi b :: vi a :: st) M :=
  g_go hC (fun _ _ _ _ _ _ _ _ _ _ _ _ _ _ _ _ hx hb _ _ _ w => lv_imul hx hb hd (by rw [← Int32.ofInt_mul]; exact w)) k
/-! numbers -/
theorem gt {a : Int} (h : rg a) : (Int32.ofInt a).toInt = a := Int32.toInt_ofInt_of_le h.1 h.2
theorem gt_eq {a b : Int} (ha : rg a) (hb : rg b) : Int32.ofInt a = Int32.ofInt b ↔ a = b := ⟨fun h => by rw [← gt ha, ← gt hb, h], fun h => by rw [h]⟩
theorem gt_lt {a b : Int} (ha : rg a) (hb : rg b) : Int32.ofInt a < Int32.ofInt b ↔ a < b := by rw [Int32.lt_iff_toInt_lt, gt ha, gt hb]
theorem gt_le {a b : Int} (ha : rg a) (hb : rg b) : Int32.ofInt a ≤ Int32.ofInt b ↔ a ≤ b := by rw [Int32.le_iff_toInt_le, gt ha, gt hb]
def band (a b : Int) : Int := (Int32.ofInt a &&& Int32.ofInt b).toInt
theorem g_iand (hC : gC y z l cc own nL Ts rm) {a b : Int} (hd : decode cc pc = .ok (.iand, 1)) (k : gW y z L (pc + 1) lc (vi (band a b) :: st) M) : gW y z L pc lc (vi b :: vi a :: st) M :=
  g_go hC (fun _ _ _ _ _ _ _ _ _ _ _ _ _ _ _ _ hx hb _ _ _ w => lv_iand hx hb hd (by rw [← Int32.ofInt_toInt (Int32.ofInt a &&& Int32.ofInt b)]; exact w)) k
theorem gt_div {a b : Int} (ha : rg a) (hb : rg b) : Int32.ofInt a / Int32.ofInt b = Int32.ofInt (a.tdiv b) := by
  have e : Int32.maxValue.toInt = 2147483647 := rfl
  exact (Int32.ofInt_tdiv (by exact ha.1) (by rw [e]; have := ha.2; omega) (by exact hb.1) (by rw [e]; have := hb.2; omega)).symm
theorem g_idiv (hC : gC y z l cc own nL Ts rm) {a b : Int} (ha : rg a) (hb' : rg b) (h0 : b ≠ 0) (hd : decode cc pc = .ok (.idiv, 1)) (k : gW y z L (pc + 1) lc (vi (a.tdiv b) :: st) M) : gW y z L pc lc (vi b :: vi a :: st) M :=
  g_go hC (fun _ _ _ _ _ _ _ _ _ _ _ _ _ _ _ _ hx hb _ _ _ w => lv_idiv hx hb hd (fun q => h0 ((gt_eq (b := 0) hb' (by decide)).mp q)) (by rw [gt_div ha hb']; exact w)) k
theorem g_irem (hC : gC y z l cc own nL Ts rm) {a b : Int} (ha : rg a) (hb' : rg b) (h0 : b ≠ 0) (hd : decode cc pc = .ok (.irem, 1)) (k : gW y z L (pc + 1) lc (vi (a.tmod b) :: st) M) : gW y z L pc lc (vi b :: vi a :: st) M :=
  g_go hC (fun _ _ _ _ _ _ _ _ _ _ _ _ _ _ _ _ hx hb _ _ _ w => lv_irem hx hb hd (fun q => h0 ((gt_eq (b := 0) hb' (by decide)).mp q)) (by
    rw [gt_div ha hb', ← Int32.ofInt_mul, ← Int32.ofInt_sub, show a - a.tdiv b * b = a.tmod b by have := Int.tmod_add_tdiv_mul a b; omega]; exact w)) k
def shr (a n : Int) : Int := a / 2 ^ n.toNat
def ushr (a n : Int) : Int := (a % 4294967296) / 2 ^ n.toNat
def shl (a n : Int) : Int := a * 2 ^ n.toNat
theorem gt_amt : ∀ n : Nat, n < 32 → ((Int32.ofInt n &&& 31).toBitVec.smod 32).toNat = n := by decide
theorem gt_amu : ∀ n : Nat, n < 32 → (((Int32.ofInt n).toUInt32 &&& Int32.toUInt32 31).toBitVec % 32).toNat = n := by decide
theorem gt_nat (a : Int) : ((Int32.ofInt a).toBitVec.toNat : Int) = a % 4294967296 := by
  show ((BitVec.ofInt 32 a).toNat : Int) = _
  rw [BitVec.toNat_ofInt]
  omega
theorem gt_shr {a n : Int} (ha : rg a) (hn : 0 ≤ n ∧ n < 32) : Int32.ofInt a >>> (Int32.ofInt n &&& 31) = Int32.ofInt (shr a n) := by
  apply Int32.toInt_inj.mp
  obtain ⟨k, rfl⟩ := Int.eq_ofNat_of_zero_le hn.1
  have hk : k < 32 := by omega
  rw [pk_shr _ _ k (gt_amt k hk), gt ha]
  have e : shr a k = a >>> k := by rw [shr, Int.shiftRight_eq_div_pow]; simp
  have h0 : rg (shr a k) := by
    have h1 : (0 : Int) < 2 ^ k := Int.pow_pos (by decide)
    have e2 : shr a k = a / 2 ^ k := by rw [shr]; simp
    rw [e2]
    constructor
    · exact (Int.le_ediv_iff_mul_le h1).mpr (by
        have : (1 : Int) ≤ 2 ^ k := h1
        have := ha.1
        calc (-2147483648 : Int) * 2 ^ k ≤ -2147483648 * 1 := by
              apply Int.mul_le_mul_of_nonpos_left <;> omega
          _ ≤ a := by omega)
    · by_cases hp : 0 ≤ a
      · exact Int.lt_of_le_of_lt (Int.ediv_le_self _ hp) ha.2
      · exact Int.lt_trans (Int.ediv_neg_of_neg_of_pos (by omega) h1) (by decide)
  rw [gt h0, e]
theorem gt_shl {a n : Int} (hn : 0 ≤ n ∧ n < 32) : Int32.ofInt a <<< (Int32.ofInt n &&& 31) = Int32.ofInt (shl a n) := by
  obtain ⟨k, rfl⟩ := Int.eq_ofNat_of_zero_le hn.1
  have hk : k < 32 := by omega
  apply Int32.toBitVec_inj.mp
  apply BitVec.eq_of_toNat_eq
  rw [pk_shl _ _ k (gt_amt k hk)]
  apply Int.ofNat.inj
  show ((((Int32.ofInt a).toBitVec.toNat * 2 ^ k % 4294967296 : Nat)) : Int) = (((Int32.ofInt (shl a k)).toBitVec.toNat : Nat) : Int)
  rw [gt_nat (shl a k), Int.natCast_emod, Int.natCast_mul, gt_nat a, shl, Int.natCast_pow, Int.toNat_natCast]
  show (a % 4294967296 * 2 ^ k) % 4294967296 = (a * 2 ^ k) % 4294967296
  rw [Int.mul_emod, Int.emod_emod, ← Int.mul_emod]
theorem gt_ushr {a n : Int} (hn : 0 ≤ n ∧ n < 32) : ((Int32.ofInt a).toUInt32 >>> ((Int32.ofInt n).toUInt32 &&& Int32.toUInt32 31)).toInt32 = Int32.ofInt (ushr a n) := by
  obtain ⟨k, rfl⟩ := Int.eq_ofNat_of_zero_le hn.1
  have hk : k < 32 := by omega
  apply Int32.toBitVec_inj.mp
  apply BitVec.eq_of_toNat_eq
  rw [pk_ushr _ _ k (gt_amu k hk)]
  apply Int.ofNat.inj
  show ((((Int32.ofInt a).toBitVec.toNat / 2 ^ k : Nat)) : Int) = (((Int32.ofInt (ushr a k)).toBitVec.toNat : Nat) : Int)
  rw [gt_nat (ushr a k), Int.natCast_ediv, gt_nat a, ushr, Int.natCast_pow]
  have h1 : (0 : Int) < 2 ^ k := Int.pow_pos (by decide)
  have h2 : 0 ≤ a % 4294967296 := by omega
  have h3 : a % 4294967296 < 4294967296 := by omega
  have h4 := Int.ediv_le_self (2 ^ k) h2
  have h5 := Int.ediv_nonneg h2 (Int.le_of_lt h1)
  simp only [Int.toNat_natCast]
  rw [Int.emod_eq_of_lt h5 (by omega)]
  rfl
theorem g_ishr (hC : gC y z l cc own nL Ts rm) {a n : Int} (ha : rg a) (hn : 0 ≤ n ∧ n < 32) (hd : decode cc pc = .ok (.ishr, 1)) (k : gW y z L (pc + 1) lc (vi (shr a n) :: st) M) : gW y z L pc lc (vi n :: vi a :: st) M :=
  g_go hC (fun _ _ _ _ _ _ _ _ _ _ _ _ _ _ _ _ hx hb _ _ _ w => lv_ishr hx hb hd (by rw [gt_shr ha hn]; exact w)) k
theorem g_ishl (hC : gC y z l cc own nL Ts rm) {a n : Int} (hn : 0 ≤ n ∧ n < 32) (hd : decode cc pc = .ok (.ishl, 1)) (k : gW y z L (pc + 1) lc (vi (shl a n) :: st) M) : gW y z L pc lc (vi n :: vi a :: st) M :=
  g_go hC (fun _ _ _ _ _ _ _ _ _ _ _ _ _ _ _ _ hx hb _ _ _ w => lv_ishl hx hb hd (by rw [gt_shl hn]; exact w)) k
theorem g_iushr (hC : gC y z l cc own nL Ts rm) {a n : Int} (hn : 0 ≤ n ∧ n < 32) (hd : decode cc pc = .ok (.iushr, 1)) (k : gW y z L (pc + 1) lc (vi (ushr a n) :: st) M) : gW y z L pc lc (vi n :: vi a :: st) M :=
  g_go hC (fun _ _ _ _ _ _ _ _ _ _ _ _ _ _ _ _ hx hb _ _ _ w => lv_iushr hx hb hd (gt_ushr hn) w) k
theorem gt_byte (a : Int) : (Int32.ofInt a).toInt8.toInt32 = Int32.ofInt (a.bmod 256) := by
  apply Int32.toInt_inj.mp
  have h1 := Int.le_bmod (x := a) (m := 256) (by decide)
  have h2 := Int.bmod_lt (x := a) (m := 256) (by decide)
  rw [gt ⟨by omega, by omega⟩]
  rw [Int8.toInt_toInt32, Int32.toInt_toInt8, Int32.toInt_ofInt]
  exact Int.bmod_bmod_of_dvd (by decide)
theorem g_i2b (hC : gC y z l cc own nL Ts rm) {a : Int} (hd : decode cc pc = .ok (.i2b, 1)) (k : gW y z L (pc + 1) lc (vi (a.bmod 256) :: st) M) : gW y z L pc lc (vi a :: st) M :=
  g_go hC (fun _ _ _ _ _ _ _ _ _ _ _ _ _ _ _ _ hx hb _ _ _ w => lv_i2b hx hb hd (gt_byte a) w) k
/-! branches: the condition is always a = b, or a < b (of two numbers, or of one and 0) -/
theorem g_00 : (0 : Int32) = Int32.ofInt 0 := rfl
theorem g_ceq (hC : gC y z l cc own nL Ts rm) {a b off : Int} (tgt : Nat) (ha : rg a) (hb' : rg b) (hd : decode cc pc = .ok (.if_icmp .eq off, 3)) (ht : (pc : Int) + off = (tgt : Int)) (k1 : a = b → gW y z L tgt lc st M) (k2 : ¬ a = b → gW y z L (pc + 3) lc st M) : gW y z L pc lc (vi b :: vi a :: st) M :=
  g_br hC (fun _ _ _ _ _ _ _ _ _ _ _ _ _ _ _ _ hx hb w1 w2 => lv_icmp_eq hx hb hd ht (fun q => w1 ((gt_eq ha hb').mp q)) (fun q => w2 (fun r => q ((gt_eq ha hb').mpr r)))) k1 k2
theorem g_cne (hC : gC y z l cc own nL Ts rm) {a b off : Int} (tgt : Nat) (ha : rg a) (hb' : rg b) (hd : decode cc pc = .ok (.if_icmp .ne off, 3)) (ht : (pc : Int) + off = (tgt : Int)) (k1 : a = b → gW y z L (pc + 3) lc st M) (k2 : ¬ a = b → gW y z L tgt lc st M) : gW y z L pc lc (vi b :: vi a :: st) M :=
  g_br hC (fun _ _ _ _ _ _ _ _ _ _ _ _ _ _ _ _ hx hb w1 w2 => lv_icmp_ne hx hb hd ht (fun q => w2 (fun r => q ((gt_eq ha hb').mpr r))) (fun q => w1 ((gt_eq ha hb').mp q))) k1 k2
theorem g_clt (hC : gC y z l cc own nL Ts rm) {a b off : Int} (tgt : Nat) (ha : rg a) (hb' : rg b) (hd : decode cc pc = .ok (.if_icmp .lt off, 3)) (ht : (pc : Int) + off = (tgt : Int)) (k1 : a < b → gW y z L tgt lc st M) (k2 : ¬ a < b → gW y z L (pc + 3) lc st M) : gW y z L pc lc (vi b :: vi a :: st) M :=
  g_br hC (fun _ _ _ _ _ _ _ _ _ _ _ _ _ _ _ _ hx hb w1 w2 => lv_icmp_lt hx hb hd ht (fun q => w1 (by first | exact (gt_lt ha hb').mp q | exact (gt_lt ha hb').mp (Int32.not_le.mp q) | exact fun r => q ((gt_lt ha hb').mpr r) | exact fun r => Int32.not_lt.mpr q ((gt_lt ha hb').mpr r))) (fun q => w2 (by first | exact (gt_lt ha hb').mp q | exact (gt_lt ha hb').mp (Int32.not_le.mp q) | exact fun r => q ((gt_lt ha hb').mpr r) | exact fun r => Int32.not_lt.mpr q ((gt_lt ha hb').mpr r)))) k1 k2
theorem g_cge (hC : gC y z l cc own nL Ts rm) {a b off : Int} (tgt : Nat) (ha : rg a) (hb' : rg b) (hd : decode cc pc = .ok (.if_icmp .ge off, 3)) (ht : (pc : Int) + off = (tgt : Int)) (k1 : a < b → gW y z L (pc + 3) lc st M) (k2 : ¬ a < b → gW y z L tgt lc st M) : gW y z L pc lc (vi b :: vi a :: st) M :=
  g_br hC (fun _ _ _ _ _ _ _ _ _ _ _ _ _ _ _ _ hx hb w1 w2 => lv_icmp_ge hx hb hd ht (fun q => w2 (by first | exact (gt_lt ha hb').mp q | exact (gt_lt ha hb').mp (Int32.not_le.mp q) | exact fun r => q ((gt_lt ha hb').mpr r) | exact fun r => Int32.not_lt.mpr q ((gt_lt ha hb').mpr r))) (fun q => w1 (by first | exact (gt_lt ha hb').mp q | exact (gt_lt ha hb').mp (Int32.not_le.mp q) | exact fun r => q ((gt_lt ha hb').mpr r) | exact fun r => Int32.not_lt.mpr q ((gt_lt ha hb').mpr r)))) k1 k2
theorem g_cgt (hC : gC y z l cc own nL Ts rm) {a b off : Int} (tgt : Nat) (ha : rg a) (hb' : rg b) (hd : decode cc pc = .ok (.if_icmp .gt off, 3)) (ht : (pc : Int) + off = (tgt : Int)) (k1 : b < a → gW y z L tgt lc st M) (k2 : ¬ b < a → gW y z L (pc + 3) lc st M) : gW y z L pc lc (vi b :: vi a :: st) M :=
  g_br hC (fun _ _ _ _ _ _ _ _ _ _ _ _ _ _ _ _ hx hb w1 w2 => lv_icmp_gt hx hb hd ht (fun q => w1 (by first | exact (gt_lt hb' ha).mp q | exact (gt_lt hb' ha).mp (Int32.not_le.mp q) | exact fun r => q ((gt_lt hb' ha).mpr r) | exact fun r => Int32.not_lt.mpr q ((gt_lt hb' ha).mpr r))) (fun q => w2 (by first | exact (gt_lt hb' ha).mp q | exact (gt_lt hb' ha).mp (Int32.not_le.mp q) | exact fun r => q ((gt_lt hb' ha).mpr r) | exact fun r => Int32.not_lt.mpr q ((gt_lt hb' ha).mpr r)))) k1 k2
theorem g_cle (hC : gC y z l cc own nL Ts rm) {a b off : Int} (tgt : Nat) (ha : rg a) (hb' : rg b) (hd : decode cc pc = .ok (.if_icmp .le off, 3)) (ht : (pc : Int) + off = (tgt : Int)) (k1 : b < a → gW y z L (pc + 3) lc st M) (k2 : ¬ b < a → gW y z L tgt lc st M) : gW y z L pc lc (vi b :: vi a :: st) M :=
  g_br hC (fun _ _ _ _ _ _ _ _ _ _ _ _ _ _ _ _ hx hb w1 w2 => lv_icmp_le hx hb hd ht (fun q => w2 (by first | exact (gt_lt hb' ha).mp q | exact (gt_lt hb' ha).mp (Int32.not_le.mp q) | exact fun r => q ((gt_lt hb' ha).mpr r) | exact fun r => Int32.not_lt.mpr q ((gt_lt hb' ha).mpr r))) (fun q => w1 (by first | exact (gt_lt hb' ha).mp q | exact (gt_lt hb' ha).mp (Int32.not_le.mp q) | exact fun r => q ((gt_lt hb' ha).mpr r) | exact fun r => Int32.not_lt.mpr q ((gt_lt hb' ha).mpr r)))) k1 k2
theorem g_ieq (hC : gC y z l cc own nL Ts rm) {a off : Int} (tgt : Nat) (ha : rg a) (hd : decode cc pc = .ok (.ifCond .eq off, 3)) (ht : (pc : Int) + off = (tgt : Int)) (k1 : a = 0 → gW y z L tgt lc st M) (k2 : ¬ a = 0 → gW y z L (pc + 3) lc st M) : gW y z L pc lc (vi a :: st) M :=
  g_br hC (fun _ _ _ _ _ _ _ _ _ _ _ _ _ _ _ _ hx hb w1 w2 => lv_if_eq hx hb hd ht (fun q => w1 ((gt_eq (b := 0) ha (by decide)).mp q)) (fun q => w2 (fun r => q ((gt_eq (b := 0) ha (by decide)).mpr r)))) k1 k2
theorem g_ine (hC : gC y z l cc own nL Ts rm) {a off : Int} (tgt : Nat) (ha : rg a) (hd : decode cc pc = .ok (.ifCond .ne off, 3)) (ht : (pc : Int) + off = (tgt : Int)) (k1 : a = 0 → gW y z L (pc + 3) lc st M) (k2 : ¬ a = 0 → gW y z L tgt lc st M) : gW y z L pc lc (vi a :: st) M :=
  g_br hC (fun _ _ _ _ _ _ _ _ _ _ _ _ _ _ _ _ hx hb w1 w2 => lv_if_ne hx hb hd ht (fun q => w2 (fun r => q ((gt_eq (b := 0) ha (by decide)).mpr r))) (fun q => w1 ((gt_eq (b := 0) ha (by decide)).mp q))) k1 k2
theorem g_ilt (hC : gC y z l cc own nL Ts rm) {a off : Int} (tgt : Nat) (ha : rg a) (hd : decode cc pc = .ok (.ifCond .lt off, 3)) (ht : (pc : Int) + off = (tgt : Int)) (k1 : a < 0 → gW y z L tgt lc st M) (k2 : ¬ a < 0 → gW y z L (pc + 3) lc st M) : gW y z L pc lc (vi a :: st) M :=
  g_br hC (fun _ _ _ _ _ _ _ _ _ _ _ _ _ _ _ _ hx hb w1 w2 => lv_if_lt hx hb hd ht (fun q => w1 ((gt_lt (b := 0) ha (by decide)).mp q)) (fun q => w2 (fun r => by have q2 := (gt_lt ha (b := 0) (by decide)).mpr r; first | exact q q2 | exact Int32.not_lt.mpr q q2))) k1 k2
theorem g_ige (hC : gC y z l cc own nL Ts rm) {a off : Int} (tgt : Nat) (ha : rg a) (hd : decode cc pc = .ok (.ifCond .ge off, 3)) (ht : (pc : Int) + off = (tgt : Int)) (k1 : a < 0 → gW y z L (pc + 3) lc st M) (k2 : ¬ a < 0 → gW y z L tgt lc st M) : gW y z L pc lc (vi a :: st) M :=
  g_br hC (fun _ _ _ _ _ _ _ _ _ _ _ _ _ _ _ _ hx hb w1 w2 => lv_if_ge hx hb hd ht (fun q => w2 (fun r => by have q2 := (gt_lt ha (b := 0) (by decide)).mpr r; first | exact q q2 | exact Int32.not_lt.mpr q q2)) (fun q => w1 (by first | exact (gt_lt ha (b := 0) (by decide)).mp q | exact (gt_lt ha (b := 0) (by decide)).mp (Int32.not_le.mp q)))) k1 k2
theorem g_igt (hC : gC y z l cc own nL Ts rm) {a off : Int} (tgt : Nat) (ha : rg a) (hd : decode cc pc = .ok (.ifCond .gt off, 3)) (ht : (pc : Int) + off = (tgt : Int)) (k1 : 0 < a → gW y z L tgt lc st M) (k2 : ¬ 0 < a → gW y z L (pc + 3) lc st M) : gW y z L pc lc (vi a :: st) M :=
  g_br hC (fun _ _ _ _ _ _ _ _ _ _ _ _ _ _ _ _ hx hb w1 w2 => lv_if_gt hx hb hd ht (fun q => w1 ((gt_lt (a := 0) (by decide) ha).mp q)) (fun q => w2 (fun r => by have q2 := (gt_lt (a := 0) (by decide) ha).mpr r; first | exact q q2 | exact Int32.not_lt.mpr q q2))) k1 k2
theorem g_ile (hC : gC y z l cc own nL Ts rm) {a off : Int} (tgt : Nat) (ha : rg a) (hd : decode cc pc = .ok (.ifCond .le off, 3)) (ht : (pc : Int) + off = (tgt : Int)) (k1 : 0 < a → gW y z L (pc + 3) lc st M) (k2 : ¬ 0 < a → gW y z L tgt lc st M) : gW y z L pc lc (vi a :: st) M :=
  g_br hC (fun _ _ _ _ _ _ _ _ _ _ _ _ _ _ _ _ hx hb w1 w2 => lv_if_le hx hb hd ht (fun q => w2 (fun r => by have q2 := (gt_lt (a := 0) (by decide) ha).mpr r; first | exact q q2 | exact Int32.not_lt.mpr q q2)) (fun q => w1 (by first | exact (gt_lt (a := 0) (by decide) ha).mp q | exact (gt_lt (a := 0) (by decide) ha).mp (Int32.not_le.mp q)))) k1 k2
theorem g_tswOut (hC : gC y z l cc own nL Ts rm) {dflt lo hi : Int} {offs : Array Int} {len : Nat} {a : Int} (tgt : Nat) (ha : rg a) (hd : decode cc pc = .ok (.tableswitch dflt lo hi offs, len)) (h : a < lo ∨ hi < a) (ht : (pc : Int) + dflt = (tgt : Int)) (k : gW y z L tgt lc st M) : gW y z L pc lc (vi a :: st) M :=
  g_go hC (fun _ _ _ _ _ _ _ _ _ _ _ _ _ _ _ _ hx hb _ _ _ w => lv_tableOut hx hb hd (by rw [gt ha]; exact h) ht w) k
theorem g_tswIn (hC : gC y z l cc own nL Ts rm) {dflt lo hi : Int} {offs : Array Int} {len : Nat} {a off : Int} (tgt : Nat) (ha : rg a) (hd : decode cc pc = .ok (.tableswitch dflt lo hi offs, len)) (h1 : ¬ a < lo) (h2 : ¬ hi < a) (ho : offs[(a - lo).toNat]? = some off) (ht : (pc : Int) + off = (tgt : Int)) (k : gW y z L tgt lc st M) : gW y z L pc lc (vi a :: st) M :=
  g_go hC (fun _ _ _ _ _ _ _ _ _ _ _ _ _ _ _ _ hx hb _ _ _ w => lv_tableIn hx hb hd (by rw [gt ha]; exact h1) (by rw [gt ha]; exact h2) (by rw [gt ha]; exact ho) ht w) k
end GS
