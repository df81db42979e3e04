/-! THE LAW over both memories -/
def lC (y : gY) (l : Launch) (cc : ByteArray) (own : String) (nL : Nat) (Ts : List Cond) (rm : Room) : Prop := match y with
  | (p, l', _, R, s, m, args, _, meth, c, _, nc, ns) => p.tables.exec = Jvm.exec ∧ c.code = cc ∧ c.maxLocals = nL ∧ s.vm.findClass own = some m.cls ∧ (∀ w ∈ Ts, w.before args s = true) ∧ R = rm ∧ meth.locks = false ∧ l' = l ∧ nc ≤ rm.cells ∧ ns ≤ rm.slots
def lW (y : gY) (A : Nat → Prop) (I : Heap → Prop) (pc : Nat) (lc : List (Option Value)) (st : List Value) : Prop := match y with
  | (p, l, e, R, s, m, args, below, meth, c, Q, nc, ns) => ∀ (H : Heap) (locs : List Loc) (ls : Array Slot), I H → va_S A s.heap H locs → gLs ls lc → W p l e R s m args below meth c H locs nc ns Q (F0 m pc ls st)
section LS
variable {y : gY} {l : Launch} {cc : ByteArray} {own : String} {nL : Nat} {Ts : List Cond} {rm : Room} {pc : Nat} {lc : List (Option Value)} {st : List Value} {A : Nat → Prop} {I : Heap → Prop}
theorem l_go {pc' : Nat} {st' : List Value} (hC : lC y l cc own nL Ts rm)
    (h : ∀ (p : Program) (l : Launch) (e : Env) (R : Room) (s : State) (m : MethodId) (args : Array Value) (below : List Frame) (meth : Method) (c : Code) (Q : State → Prop) (H : Heap) (locs : List Loc) (nc ns : Nat) (ls : Array Slot), p.tables.exec = Jvm.exec → c.code = cc → s.vm.findClass own = some m.cls → (∀ w ∈ Ts, w.before args s = true) → gLs ls lc → W p l e R s m args below meth c H locs nc ns Q (F0 m pc' ls st') → W p l e R s m args below meth c H locs nc ns Q (F0 m pc ls st))
    (k : lW y A I pc' lc st') : lW y A I pc lc st := by
  obtain ⟨p, l', e, R, s, m, args, below, meth, c, Q, nc, ns⟩ := y
  obtain ⟨hx, hb, -, hown, hts, -⟩ := hC
  intro H locs ls hH hS hl
  exact h p l' e R s m args below meth c Q H locs nc ns ls hx hb hown hts hl (k H locs ls hH hS hl)
theorem l_br {pc1 pc2 : Nat} {st1 : List Value} {B : Prop} (hC : lC y l cc own nL Ts rm)
    (h : ∀ (p : Program) (l : Launch) (e : Env) (R : Room) (s : State) (m : MethodId) (args : Array Value) (below : List Frame) (meth : Method) (c : Code) (Q : State → Prop) (H : Heap) (locs : List Loc) (nc ns : Nat) (ls : Array Slot), p.tables.exec = Jvm.exec → c.code = cc → (B → W p l e R s m args below meth c H locs nc ns Q (F0 m pc1 ls st1)) → (¬ B → W p l e R s m args below meth c H locs nc ns Q (F0 m pc2 ls st1)) → W p l e R s m args below meth c H locs nc ns Q (F0 m pc ls st))
    (k1 : B → lW y A I pc1 lc st1) (k2 : ¬ B → lW y A I pc2 lc st1) : lW y A I pc lc st := by
  obtain ⟨p, l', e, R, s, m, args, below, meth, c, Q, nc, ns⟩ := y
  obtain ⟨hx, hb, -⟩ := hC
  intro H locs ls hH hS hl
  exact h p l' e R s m args below meth c Q H locs nc ns ls hx hb (fun q => k1 q H locs ls hH hS hl) (fun q => k2 q H locs ls hH hS hl)
theorem l_iconst (hC : lC y l cc own nL Ts rm) {n : Int} (hd : decode cc pc = .ok (.iconst n, 1)) (k : lW y A I (pc + 1) lc (vi n :: st)) : lW y A I pc lc st :=
  l_go hC (fun _ _ _ _ _ _ _ _ _ _ _ _ _ _ _ _ hx hb _ _ _ w => lv_iconst hx hb hd rfl w) k
theorem l_bipush (hC : lC y l cc own nL Ts rm) {n : Int} (hd : decode cc pc = .ok (.bipush n, 2)) (hv : (Int8.ofInt n).toInt32 = Int32.ofInt n) (k : lW y A I (pc + 2) lc (vi n :: st)) : lW y A I pc lc st :=
  l_go hC (fun _ _ _ _ _ _ _ _ _ _ _ _ _ _ _ _ hx hb _ _ _ w => lv_bipush hx hb hd hv w) k
theorem l_iload_n (hC : lC y l cc own nL Ts rm) {q : Fin 4} {i : Nat} {a : Int} (hd : decode cc pc = .ok (.iload_n q, 1)) (hq : (q : Nat) = i) (hi : lc[i]? = some (some (vi a))) (k : lW y A I (pc + 1) lc (vi a :: st)) : lW y A I pc lc st :=
  l_go hC (fun _ _ _ _ _ _ _ _ _ _ _ _ _ _ _ _ hx hb _ _ hl w => lv_iload_n hx hb hd hq (hl.at hi) w) k
theorem l_goto (hC : lC y l cc own nL Ts rm) {off : Int} (tgt : Nat) (hd : decode cc pc = .ok (.goto off, 3)) (ht : (pc : Int) + off = (tgt : Int)) (k : lW y A I tgt lc st) : lW y A I pc lc st :=
  l_go hC (fun _ _ _ _ _ _ _ _ _ _ _ _ _ _ _ _ hx hb _ _ _ w => lv_goto hx hb hd ht w) k
theorem l_iadd (hC : lC y l cc own nL Ts rm) {a b : Int} (hd : decode cc pc = .ok (.iadd, 1)) (k : lW y A I (pc + 1) lc (vi (a + b) :: st)) : lW y A I pc lc (vi b :: vi a :: st) :=
  l_go hC (fun _ _ _ _ _ _ _ _ _ _ _ _ _ _ _ _ hx hb _ _ _ w => lv_iadd hx hb hd (by rw [← Int32.ofInt_add]; exact w)) k
theorem l_isub (hC : lC y l cc own nL Ts rm) {a b : Int} (hd : decode cc pc = .ok (.isub, 1)) (k : lW y A I (pc + 1) lc (vi (a - b) :: st)) : lW y A I pc lc (vi b :: vi a :: st) :=
  l_go hC (fun _ _ _ _ _ _ _ _ _ _ _ _ _ _ _ _ hx hb _ _ _ w => lv_isub hx hb hd (by rw [← Int32.ofInt_sub]; exact w)) k
theorem l_iand (hC : lC y l cc own nL Ts rm) {a b : Int} (hd : decode cc pc = .ok (.iand, 1)) (k : lW y A I (pc + 1) lc (vi (band a b) :: st)) : lW y A I pc lc (vi b :: vi a :: st) :=
  l_go hC (fun _ _ _ _ _ _ _ _ _ _ _ _ _ _ _ _ hx hb _ _ _ w => lv_iand hx hb hd (by rw [← Int32.ofInt_toInt (Int32.ofInt a &&& Int32.ofInt b)]; exact w)) k
theorem l_ceq (hC : lC y l cc own nL Ts rm) {a b off : Int} (tgt : Nat) (ha : rg a) (hb' : rg b) (hd : decode cc pc = .ok (.if_icmp .eq off, 3)) (ht : (pc : Int) + off = (tgt : Int)) (k1 : a = b → lW y A I tgt lc st) (k2 : ¬ a = b → lW y A I (pc + 3) lc st) : lW y A I pc lc (vi b :: vi a :: st) :=
  l_br hC (fun _ _ _ _ _ _ _ _ _ _ _ _ _ _ _ _ hx hb w1 w2 => lv_icmp_eq hx hb hd ht (fun q => w1 ((gt_eq ha hb').mp q)) (fun q => w2 (fun r => q ((gt_eq ha hb').mpr r)))) k1 k2
theorem l_cgt (hC : lC y l cc own nL Ts rm) {a b off : Int} (tgt : Nat) (ha : rg a) (hb' : rg b) (hd : decode cc pc = .ok (.if_icmp .gt off, 3)) (ht : (pc : Int) + off = (tgt : Int)) (k1 : b < a → lW y A I tgt lc st) (k2 : ¬ b < a → lW y A I (pc + 3) lc st) : lW y A I pc lc (vi b :: vi a :: st) :=
  l_br hC (fun _ _ _ _ _ _ _ _ _ _ _ _ _ _ _ _ hx hb w1 w2 => lv_icmp_gt hx hb hd ht (fun q => w1 (by first | exact (gt_lt hb' ha).mp q | exact (gt_lt hb' ha).mp (Int32.not_le.mp q) | exact fun r => q ((gt_lt hb' ha).mpr r) | exact fun r => Int32.not_lt.mpr q ((gt_lt hb' ha).mpr r))) (fun q => w2 (by first | exact (gt_lt hb' ha).mp q | exact (gt_lt hb' ha).mp (Int32.not_le.mp q) | exact fun r => q ((gt_lt hb' ha).mpr r) | exact fun r => Int32.not_lt.mpr q ((gt_lt hb' ha).mpr r)))) k1 k2
theorem l_ieq (hC : lC y l cc own nL Ts rm) {a off : Int} (tgt : Nat) (ha : rg a) (hd : decode cc pc = .ok (.ifCond .eq off, 3)) (ht : (pc : Int) + off = (tgt : Int)) (k1 : a = 0 → lW y A I tgt lc st) (k2 : ¬ a = 0 → lW y A I (pc + 3) lc st) : lW y A I pc lc (vi a :: st) :=
  l_br hC (fun _ _ _ _ _ _ _ _ _ _ _ _ _ _ _ _ hx hb w1 w2 => lv_if_eq hx hb hd ht (fun q => w1 ((gt_eq (b := 0) ha (by decide)).mp q)) (fun q => w2 (fun r => q ((gt_eq (b := 0) ha (by decide)).mpr r)))) k1 k2
theorem l_tswOut (hC : lC y l cc own nL Ts rm) {dflt lo hi : Int} {offs : Array Int} {len : Nat} {a : Int} (tgt : Nat) (ha : rg a) (hd : decode cc pc = .ok (.tableswitch dflt lo hi offs, len)) (h : a < lo ∨ hi < a) (ht : (pc : Int) + dflt = (tgt : Int)) (k : lW y A I tgt lc st) : lW y A I pc lc (vi a :: st) :=
  l_go hC (fun _ _ _ _ _ _ _ _ _ _ _ _ _ _ _ _ hx hb _ _ _ w => lv_tableOut hx hb hd (by rw [gt ha]; exact h) ht w) k
theorem l_tswIn (hC : lC y l cc own nL Ts rm) {dflt lo hi : Int} {offs : Array Int} {len : Nat} {a off : Int} (tgt : Nat) (ha : rg a) (hd : decode cc pc = .ok (.tableswitch dflt lo hi offs, len)) (h1 : ¬ a < lo) (h2 : ¬ hi < a) (ho : offs[(a - lo).toNat]? = some off) (ht : (pc : Int) + off = (tgt : Int)) (k : lW y A I tgt lc st) : lW y A I pc lc (vi a :: st) :=
  l_go hC (fun _ _ _ _ _ _ _ _ _ _ _ _ _ _ _ _ hx hb _ _ _ w => lv_tableIn hx hb hd (by rw [gt ha]; exact h1) (by rw [gt ha]; exact h2) (by rw [gt ha]; exact ho) ht w) k
theorem l_iinc (hC : lC y l cc own nL Ts rm) {i : Nat} {a n : Int} (hd : decode cc pc = .ok (.iinc i n, 3)) (hi : lc[i]? = some (some (vi a))) (k : lW y A I (pc + 3) (lc.set i (some (vi (a + n)))) st) : lW y A I pc lc st := by
  obtain ⟨p, l', e, R, s, m, args, below, meth, c, Q, nc, ns⟩ := y
  obtain ⟨hx, hb, -⟩ := hC
  intro H locs ls hH hS hl
  obtain ⟨j, hj⟩ := gPr_at hi
  exact lv_iinc (v := Int32.ofInt (a + n)) hx hb hd hl.1 hj (Int32.ofInt_add a n).symm (List.getElem?_eq_some_iff.mp hi).1 rfl (fun ls' h' => k H locs ls' hH hS (hl.set rfl h'))
theorem l_iinc2 {lc' : List (Option Value)} (hC : lC y l cc own nL Ts rm) {i : Nat} {a n : Int} (hd : decode cc pc = .ok (.iinc i n, 3)) (hi : lc[i]? = some (some (vi a))) (hl : lc.set i (some (vi (a + n))) = lc') (k : lW y A I (pc + 3) lc' st) : lW y A I pc lc st := l_iinc hC hd hi (by rw [hl]; exact k)
theorem l_aload_n (hC : lC y l cc own nL Ts rm) {q : Fin 4} {i : Nat} {a : Nat} (hd : decode cc pc = .ok (.aload_n q, 1)) (hq : (q : Nat) = i) (hi : lc[i]? = some (some (.ref a))) (k : lW y A I (pc + 1) lc (.ref a :: st)) : lW y A I pc lc st :=
  l_go hC (fun _ _ _ _ _ _ _ _ _ _ _ _ _ _ _ _ hx hb _ _ hl w => lv_aload_n hx hb hd hq (hl.at hi) w) k
/-- what the law knows of its start -/
def lE (y : gY) (z1 z2 : gZ) (A : Nat → Prop) (b Ln : Nat) (xs : Nat → Int32) : Prop := match y with
  | (_, _, _, _, s, _, _, _, _, _, _, _, _) => (va_K z1.1 z1.2.1 z1.2.2.1 s ∧ gNs z1 s) ∧ (va_K z2.1 z2.2.1 z2.2.2.1 s ∧ gNs z2 s) ∧ (∀ j k, j < cL.length → k < mL.length → z1.2.2.2.1 j ≠ z2.2.2.2.1 k) ∧ (∀ k, k < cL.length → A (z1.2.2.2.1 k)) ∧ (∀ k, k < mL.length → A (z2.2.2.2.1 k)) ∧ (∀ q, s.heap.size ≤ q → A q) ∧ va_X b Ln xs s s.heap ∧ b < s.heap.size ∧ ¬ A b ∧ Ln ≤ 4096
def lI (z1 z2 : gZ) (A : Nat → Prop) (M N : gMem) (H : Heap) : Prop := gH z1 cL A M H ∧ gH z2 mL A N H
def lSc (xs : Nat → Int32) (i : Int) : Int := (xs i.toNat).toInt
theorem lSc_rg (xs : Nat → Int32) (i : Int) : rg (lSc xs i) := ⟨Int32.le_toInt _, Int32.toInt_lt _⟩
theorem l_sld {z1 z2 : gZ} {b Ln : Nat} {xs : Nat → Int32} (hC : lC y l cc own nL Ts rm) (hE : lE y z1 z2 A b Ln xs) {i : Int} (hi : 0 ≤ i ∧ i < Ln) (hd : decode cc pc = .ok (.iaload, 1)) (k : lW y A I (pc + 1) lc (vi (lSc xs i) :: st)) : lW y A I pc lc (vi i :: .ref b :: st) := by
  obtain ⟨p, l', e, R, s, m, args, below, meth, c, Q, nc, ns⟩ := y
  obtain ⟨hx, hb, -⟩ := hC
  obtain ⟨-, -, -, -, -, -, hX, hbl, hbA, hLn⟩ := hE
  intro H locs ls hH hS hl
  obtain ⟨h1, h2, h3⟩ := gIn (n := Ln) (by omega) hi
  refine va_sld hx hb hX hbl hbA hS h1 hd ?_
  rw [h2]
  have h := k H locs ls hH hS hl
  rw [show vi (lSc xs i) = Value.int (xs i.toNat) from congrArg Value.int (Int32.ofInt_toInt _)] at h
  exact h
theorem l_slen {z1 z2 : gZ} {b Ln : Nat} {xs : Nat → Int32} (hC : lC y l cc own nL Ts rm) (hE : lE y z1 z2 A b Ln xs) (hd : decode cc pc = .ok (.arraylength, 1)) (k : lW y A I (pc + 1) lc (vi (Ln : Int) :: st)) : lW y A I pc lc (.ref b :: st) := by
  obtain ⟨p, l', e, R, s, m, args, below, meth, c, Q, nc, ns⟩ := y
  obtain ⟨hx, hb, -⟩ := hC
  obtain ⟨-, -, -, -, -, -, hX, hbl, hbA, hLn⟩ := hE
  intro H locs ls hH hS hl
  refine va_slen hx hb hX hbl hbA hS hd ?_
  have h := k H locs ls hH hS hl
  rw [show vi (Ln : Int) = Value.int (Int32.ofNat Ln) from congrArg Value.int Int32.ofInt_eq_ofNat] at h
  exact h
theorem gKeep {z : gZ} {L : gLay} {A : Nat → Prop} {M : gMem} {H H1 : Heap} (h : gH z L A M H) (hk : ∀ k, k < L.length → z.2.2.2.1 k < H.size → H1[z.2.2.2.1 k]? = H[z.2.2.2.1 k]?) : gH z L A M H1 :=
  ⟨fun k q hq => by
    have h1 := h.1 k q hq
    obtain ⟨h2, h3⟩ := gWd_adr hq
    have h4 := h1.lt
    rw [h3] at h4
    exact h1.kept (by rw [h3]; exact hk k h2 h4), h.2⟩
theorem l_call1 {z1 z2 : gZ} {b Ln : Nat} {xs : Nat → Int32} {yc : MethodName} {cb : ByteArray} {mLc n ix : Nat} {ret : Option FieldType} {ws : List Cond} {rc : Room} {As rest : List Value} {M N : gMem} {P : Int → gMem → Prop} (hC : lC y l cc own nL Ts rm) (hE : lE y z1 z2 A b Ln xs) (hZ : gZc z1) (hnL : lc.length = nL)
    (hM : gMI l z1 cL yc ws rc (vr z1 0 :: As) M P) (hw : gCw Ts rm yc cb mLc ret ws rc n) (hcl : yc.cls = RX8) (w1 : Cond.methodLink own ix yc ∈ Ts) (w2 : Cond.instanceMethod yc ∈ Ts) (w3 : Cond.selects RX8 yc yc ∈ Ts) (hl : As.length = n) (hrs : (rest.map fun v => v.category).sum ≤ 8) (hst : st = As.reverse ++ vr z1 0 :: rest) (hd : decode cc pc = .ok (.invokevirtual ix, 3))
    (kk : ∀ (r : Int) (M' : gMem), P r M' → lW y A (lI z1 z2 A M' N) (pc + 3) lc (vi r :: rest)) : lW y A (lI z1 z2 A M N) pc lc st := by
  obtain ⟨p, l', e, R, s, m, args, below, meth, c, Q, nc, ns⟩ := y
  obtain ⟨hx, hb, hml, hown, hts, hR, hlk, hl', hnc, hns⟩ := hC
  subst hR
  subst hl'
  obtain ⟨⟨hK, hN⟩, -, hX, hA1, hA2, hA3, -⟩ := hE
  obtain ⟨g1, ⟨ws', g2⟩, g3, g4, g5, g6, g7, g8⟩ := hw
  intro H locs ls hH hS hls
  have hT : GoodIn Ts (wsV own ix RX8 yc ws) := fun w h => by
    unfold wsV at h
    rcases List.mem_append.mp h with h | h
    · simp only [List.mem_cons, List.not_mem_nil, or_false] at h
      rcases h with rfl | rfl | rfl | rfl
      · exact ⟨w1, Or.inl (by first | rfl | simp [Cond.onTables, Cond.keeps, Cond.steady])⟩
      · exact ⟨w2, Or.inl (by first | rfl | simp [Cond.onTables, Cond.keeps, Cond.steady])⟩
      · exact ⟨w3, Or.inl (by first | rfl | simp [Cond.onTables, Cond.keeps, Cond.steady])⟩
      · exact ⟨by rw [← hcl]; exact g8, Or.inl (by first | rfl | simp [Cond.onTables, Cond.keeps, Cond.steady])⟩
    · exact g1 w h
  have hr := va_runV (g := F0 m pc ls st) (locs := locs) (below := below) (meth := meth) (cells := nc) (slots := ns) (e := e) (As := As) (rest := rest) (C := RX8) ⟨hx, hb, hml, hown, hts⟩ (hM H.size) (cwV n hts hT g2 g3 g4 ⟨hcl, g7⟩ ⟨g5, g6⟩) ⟨gBlind, gRecv hK hH.1 (k := 0) rfl (gc_k8 hZ), fun U hU hW => ⟨rfl, gPreU hK hN hH.1 hU hW⟩⟩ rfl hl (hls.1.1.trans hnL) hst (lv_room hrs) hd ⟨hnc, hns⟩
  refine va_calli hr hS (fun q _ h => ?_) (fun q h => ?_) (fun r u t H1 locs1 ht _ hp hB _ hfr hS1 => ?_)
  · rcases h with ⟨k, hk, rfl⟩ | h
    · exact hA1 k hk
    · exact hA3 q (Nat.le_trans hS.1 h)
  · rcases h with ⟨k, hk, rfl⟩ | h
    · exact hA1 k hk
    · exact hA3 q (Nat.le_trans hS.1 h)
  · obtain ⟨v, rfl, hp⟩ := hp
    have hB' : gH z1 cL (gAd z1 cL H.size) u t.heap := hB
    rw [ht] at hB'
    refine kk v u hp H1 locs1 ls ⟨gH_D hB' hA1, gKeep hH.2 (fun k hk hlt => hfr _ hlt ?_)⟩ hS1 hls
    rintro (⟨j, hj, e⟩ | h)
    · exact hX j k hj hk e.symm
    · omega
theorem l_call2 {z1 z2 : gZ} {b Ln : Nat} {xs : Nat → Int32} {yc : MethodName} {cb : ByteArray} {mLc n ix : Nat} {ret : Option FieldType} {ws : List Cond} {rc : Room} {As rest : List Value} {M N : gMem} {P : Int → gMem → Prop} (hC : lC y l cc own nL Ts rm) (hE : lE y z1 z2 A b Ln xs) (hZ : gZm z2) (hnL : lc.length = nL)
    (hM : gMI l z2 mL yc ws rc (vr z2 0 :: As) N P) (hw : gCw Ts rm yc cb mLc ret ws rc n) (hcl : yc.cls = RX9) (w1 : Cond.methodLink own ix yc ∈ Ts) (w2 : Cond.instanceMethod yc ∈ Ts) (w3 : Cond.selects RX9 yc yc ∈ Ts) (hl : As.length = n) (hrs : (rest.map fun v => v.category).sum ≤ 8) (hst : st = As.reverse ++ vr z2 0 :: rest) (hd : decode cc pc = .ok (.invokevirtual ix, 3))
    (kk : ∀ (r : Int) (N' : gMem), P r N' → lW y A (lI z1 z2 A M N') (pc + 3) lc (vi r :: rest)) : lW y A (lI z1 z2 A M N) pc lc st := by
  obtain ⟨p, l', e, R, s, m, args, below, meth, c, Q, nc, ns⟩ := y
  obtain ⟨hx, hb, hml, hown, hts, hR, hlk, hl', hnc, hns⟩ := hC
  subst hR
  subst hl'
  obtain ⟨-, ⟨hK, hN⟩, hX, hA1, hA2, hA3, -⟩ := hE
  obtain ⟨g1, ⟨ws', g2⟩, g3, g4, g5, g6, g7, g8⟩ := hw
  intro H locs ls hH hS hls
  have hT : GoodIn Ts (wsV own ix RX9 yc ws) := fun w h => by
    unfold wsV at h
    rcases List.mem_append.mp h with h | h
    · simp only [List.mem_cons, List.not_mem_nil, or_false] at h
      rcases h with rfl | rfl | rfl | rfl
      · exact ⟨w1, Or.inl (by first | rfl | simp [Cond.onTables, Cond.keeps, Cond.steady])⟩
      · exact ⟨w2, Or.inl (by first | rfl | simp [Cond.onTables, Cond.keeps, Cond.steady])⟩
      · exact ⟨w3, Or.inl (by first | rfl | simp [Cond.onTables, Cond.keeps, Cond.steady])⟩
      · exact ⟨by rw [← hcl]; exact g8, Or.inl (by first | rfl | simp [Cond.onTables, Cond.keeps, Cond.steady])⟩
    · exact g1 w h
  have hr := va_runV (g := F0 m pc ls st) (locs := locs) (below := below) (meth := meth) (cells := nc) (slots := ns) (e := e) (As := As) (rest := rest) (C := RX9) ⟨hx, hb, hml, hown, hts⟩ (hM H.size) (cwV n hts hT g2 g3 g4 ⟨hcl, g7⟩ ⟨g5, g6⟩) ⟨gBlind, gRecv hK hH.2 (k := 0) rfl (gm_k9 hZ), fun U hU hW => ⟨rfl, gPreU hK hN hH.2 hU hW⟩⟩ rfl hl (hls.1.1.trans hnL) hst (lv_room hrs) hd ⟨hnc, hns⟩
  refine va_calli hr hS (fun q _ h => ?_) (fun q h => ?_) (fun r u t H1 locs1 ht _ hp hB _ hfr hS1 => ?_)
  · rcases h with ⟨k, hk, rfl⟩ | h
    · exact hA2 k hk
    · exact hA3 q (Nat.le_trans hS.1 h)
  · rcases h with ⟨k, hk, rfl⟩ | h
    · exact hA2 k hk
    · exact hA3 q (Nat.le_trans hS.1 h)
  · obtain ⟨v, rfl, hp⟩ := hp
    have hB' : gH z2 mL (gAd z2 mL H.size) u t.heap := hB
    rw [ht] at hB'
    refine kk v u hp H1 locs1 ls ⟨gKeep hH.1 (fun k hk hlt => hfr _ hlt ?_), gH_D hB' hA2⟩ hS1 hls
    rintro (⟨j, hj, e⟩ | h)
    · exact hX k j hk hj e
    · omega
end LS
theorem lT {w : Cond} (h : w ∈ gTs) : w ∈ lw_tbl := (List.mem_filter.mp h).1
theorem gCw_law {rc : Room} {yc : MethodName} {cb : ByteArray} {mL n : Nat} {ret : Option FieldType} (w1 : Cond.code yc cb mL ret ∈ gTs) (w2 : Cond.initialized yc.cls ∈ gTs) (h1 : rc.frames + 1 ≤ room_1.frames) (h2 : 8 + (mL + 11) + rc.locals ≤ room_1.locals) (hd : (yc.cls ≠ "java/lang/invoke/MethodHandle" ∧ yc.cls ≠ "java/lang/invoke/VarHandle" ∧ (parseMethodDescriptor yc.desc).map (fun d => d.parameters.length) = some n) ∧ rc.cells = 0 ∧ rc.slots = 0) : gCw lw_tbl room_1 yc cb mL ret (Cond.code yc cb mL ret :: gTs) rc n :=
  ⟨fun w h => by
    rcases List.mem_cons.mp h with rfl | h
    · exact ⟨lT w1, Or.inl (by first | rfl | simp [Cond.onTables, Cond.keeps, Cond.steady])⟩
    · exact ⟨lT h, good_of_word (List.mem_filter.mp h).2⟩, ⟨_, rfl⟩, hd.2.1, hd.2.2, h1, h2, hd.1, lT w2⟩
def bz (v : Int) : Int := if v = 0 then 0 else 1
