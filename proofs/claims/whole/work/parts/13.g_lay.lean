/-! THE TWO LAYOUTS: cL of the class, mL of the reference -/
def cL : gLay := [.inr (.inr (8, [some 1, some 4, some 6, some 13, some 16, some 19, some 22, some 39, none, none])), .inr (.inr (2, [some 2, some 3])), .inl (1, 4800), .inl (0, 8), .inr (.inr (7, [some 5, none])), .inl (1, 400), .inr (.inl (3, 6, 7)), .inr (.inr (4, [none, none, none, none, none, none])), .inr (.inr (4, [none, none, none, none, none, none])), .inr (.inr (4, [none, none, none, none, none, none])), .inr (.inr (4, [none, none, none, none, none, none])), .inr (.inr (4, [none, none, none, none, none, none])), .inr (.inr (4, [none, none, none, none, none, none])), .inr (.inr (0, [some 1, some 14, some 15, none, none])), .inl (0, 600), .inl (0, 601), .inr (.inr (0, [some 1, some 17, some 18, none, none])), .inl (0, 600), .inl (0, 601), .inr (.inr (1, [some 1, some 20, some 21, none])), .inl (0, 8192), .inl (0, 8192), .inr (.inr (5, [some 1, some 23, some 24, some 25, some 26, some 27, some 28, some 38, some 37, none, none, none])), .inl (1, 5400), .inl (0, 301), .inl (0, 301), .inl (0, 301), .inl (0, 301), .inr (.inl (4, 8, 29)), .inl (0, 600), .inl (0, 600), .inl (0, 600), .inl (0, 600), .inl (0, 600), .inl (0, 600), .inl (0, 600), .inl (0, 600), .inl (0, 600), .inl (0, 8), .inr (.inr (6, [some 40, none, none, some 41, some 45, some 46, some 47, none])), .inl (0, 4808), .inr (.inr (3, [some 42, some 43, some 44, none, none, none, none, none])), .inl (0, 8192), .inl (0, 8192), .inl (0, 8192), .inl (0, 200), .inl (0, 200), .inl (0, 200)]
def mL : gLay := [.inr (.inr (9, [some 1, some 2, some 3, none, some 4, some 5, some 6, some 7, some 8, some 9, none, some 10, some 11, none, none, none, some 12, some 13, some 14, some 15, some 16, some 17, some 18, some 19, some 20, some 21, some 22, none, some 23, some 24, some 25, some 26, some 27, none, some 28, some 29, some 30])), .inl (0, 8), .inl (0, 4800), .inl (0, 400), .inl (0, 6), .inl (0, 6), .inl (0, 6), .inl (0, 6), .inl (0, 6), .inl (0, 6), .inl (0, 601), .inl (0, 601), .inl (0, 4800), .inl (0, 4800), .inl (0, 4800), .inl (0, 4800), .inl (0, 301), .inl (0, 60200), .inl (0, 301), .inl (0, 301), .inl (2, 8), .inl (0, 8), .inl (0, 4800), .inl (0, 600), .inl (0, 4800), .inl (0, 8), .inl (0, 262144), .inl (0, 262144), .inl (0, 200), .inl (0, 200), .inl (0, 200)]
theorem lay_rule {k : Nat} (h : 7 ≤ k ∧ k < 13) : cL[k]? = some (.inr (.inr (4, [none, none, none, none, none, none]))) := by
  rcases (by omega : k = 7 ∨ k = 8 ∨ k = 9 ∨ k = 10 ∨ k = 11 ∨ k = 12) with rfl | rfl | rfl | rfl | rfl | rfl <;> rfl
theorem lay_cut {k : Nat} (h : k = 13 ∨ k = 16) : cL[k]? = some (.inr (.inr (0, [some 1, some (k + 1), some (k + 2), none, none]))) := by
  rcases h with rfl | rfl <;> rfl
theorem lay_cut1 {k : Nat} (h : k = 13 ∨ k = 16) : cL[k + 1]? = some (.inl (0, 600)) := by
  rcases h with rfl | rfl <;> rfl
theorem lay_cut2 {k : Nat} (h : k = 13 ∨ k = 16) : cL[k + 2]? = some (.inl (0, 601)) := by
  rcases h with rfl | rfl <;> rfl
theorem lay_row {k : Nat} (h : 29 ≤ k ∧ k < 37) : cL[k]? = some (.inl (0, 600)) := by
  rcases (by omega : k = 29 ∨ k = 30 ∨ k = 31 ∨ k = 32 ∨ k = 33 ∨ k = 34 ∨ k = 35 ∨ k = 36) with rfl | rfl | rfl | rfl | rfl | rfl | rfl | rfl <;> rfl
def gZc (z : gZ) : Prop := z.2.1 = vwCl ∧ z.2.2.1 = [(z.2.2.2.2.1 0, .int), (z.2.2.2.2.1 1, .byte), (z.2.2.2.2.1 3, .object "CutStore$Rule"), (z.2.2.2.2.1 4, .array .int)] ∧ z.2.2.2.2.2 = [("CutStore$Distinct", 58, yX8_areAlike, "CutStore"), ("CutStore$Distinct", 62, yX8_spread, "CutStore"), ("CutStore$PairTable", 41, yX8_spread, "CutStore"), ("CutStore$Store", 107, yX8_areAlike, "CutStore")]
def gZm (z : gZ) : Prop := z.2.1 = vwCl ∧ z.2.2.1 = [(z.2.2.2.2.1 0, .int), (z.2.2.2.2.1 2, .boolean)] ∧ z.2.2.2.2.2 = []
theorem c_t0 {z : gZ} (h : gZc z) : z.2.2.1[0]? = some (z.2.2.2.2.1 0, .int) := by rw [h.2.1]; rfl
theorem c_t1 {z : gZ} (h : gZc z) : z.2.2.1[1]? = some (z.2.2.2.2.1 1, .byte) := by rw [h.2.1]; rfl
theorem c_t3 {z : gZ} (h : gZc z) : z.2.2.1[2]? = some (z.2.2.2.2.1 3, .object "CutStore$Rule") := by rw [h.2.1]; rfl
theorem c_t4 {z : gZ} (h : gZc z) : z.2.2.1[3]? = some (z.2.2.2.2.1 4, .array .int) := by rw [h.2.1]; rfl
theorem m_t0 {z : gZ} (h : gZm z) : z.2.2.1[0]? = some (z.2.2.2.2.1 0, .int) := by rw [h.2.1]; rfl
theorem m_t2 {z : gZ} (h : gZm z) : z.2.2.1[1]? = some (z.2.2.2.2.1 2, .boolean) := by rw [h.2.1]; rfl
theorem gc_k0 {z : gZ} (h : gZc z) : z.2.1[0]? = some (RX0, TX0, 5) := by rw [h.1]; rfl
theorem gm_k0 {z : gZ} (h : gZm z) : z.2.1[0]? = some (RX0, TX0, 5) := by rw [h.1]; rfl
theorem iwX0 {c0 : Cond} : ∀ w ∈ u_ws RX0 TX0 5, w ∈ c0 :: gTs := fun w h => List.mem_cons_of_mem _ (inX0 w h)
theorem gc_k1 {z : gZ} (h : gZc z) : z.2.1[1]? = some (RX1, TX1, 4) := by rw [h.1]; rfl
theorem gm_k1 {z : gZ} (h : gZm z) : z.2.1[1]? = some (RX1, TX1, 4) := by rw [h.1]; rfl
theorem iwX1 {c0 : Cond} : ∀ w ∈ u_ws RX1 TX1 4, w ∈ c0 :: gTs := fun w h => List.mem_cons_of_mem _ (inX1 w h)
theorem gc_k2 {z : gZ} (h : gZc z) : z.2.1[2]? = some (RX2, TX2, 2) := by rw [h.1]; rfl
theorem gm_k2 {z : gZ} (h : gZm z) : z.2.1[2]? = some (RX2, TX2, 2) := by rw [h.1]; rfl
theorem iwX2 {c0 : Cond} : ∀ w ∈ u_ws RX2 TX2 2, w ∈ c0 :: gTs := fun w h => List.mem_cons_of_mem _ (inX2 w h)
theorem gc_k3 {z : gZ} (h : gZc z) : z.2.1[3]? = some (RX3, TX3, 8) := by rw [h.1]; rfl
theorem gm_k3 {z : gZ} (h : gZm z) : z.2.1[3]? = some (RX3, TX3, 8) := by rw [h.1]; rfl
theorem iwX3 {c0 : Cond} : ∀ w ∈ u_ws RX3 TX3 8, w ∈ c0 :: gTs := fun w h => List.mem_cons_of_mem _ (inX3 w h)
theorem gc_k4 {z : gZ} (h : gZc z) : z.2.1[4]? = some (RX4, TX4, 6) := by rw [h.1]; rfl
theorem gm_k4 {z : gZ} (h : gZm z) : z.2.1[4]? = some (RX4, TX4, 6) := by rw [h.1]; rfl
theorem iwX4 {c0 : Cond} : ∀ w ∈ u_ws RX4 TX4 6, w ∈ c0 :: gTs := fun w h => List.mem_cons_of_mem _ (inX4 w h)
theorem gc_k5 {z : gZ} (h : gZc z) : z.2.1[5]? = some (RX5, TX5, 12) := by rw [h.1]; rfl
theorem gm_k5 {z : gZ} (h : gZm z) : z.2.1[5]? = some (RX5, TX5, 12) := by rw [h.1]; rfl
theorem iwX5 {c0 : Cond} : ∀ w ∈ u_ws RX5 TX5 12, w ∈ c0 :: gTs := fun w h => List.mem_cons_of_mem _ (inX5 w h)
theorem gc_k6 {z : gZ} (h : gZc z) : z.2.1[6]? = some (RX6, TX6, 8) := by rw [h.1]; rfl
theorem gm_k6 {z : gZ} (h : gZm z) : z.2.1[6]? = some (RX6, TX6, 8) := by rw [h.1]; rfl
theorem iwX6 {c0 : Cond} : ∀ w ∈ u_ws RX6 TX6 8, w ∈ c0 :: gTs := fun w h => List.mem_cons_of_mem _ (inX6 w h)
theorem gc_k7 {z : gZ} (h : gZc z) : z.2.1[7]? = some (RX7, TX7, 2) := by rw [h.1]; rfl
theorem gm_k7 {z : gZ} (h : gZm z) : z.2.1[7]? = some (RX7, TX7, 2) := by rw [h.1]; rfl
theorem iwX7 {c0 : Cond} : ∀ w ∈ u_ws RX7 TX7 2, w ∈ c0 :: gTs := fun w h => List.mem_cons_of_mem _ (inX7 w h)
theorem gc_k8 {z : gZ} (h : gZc z) : z.2.1[8]? = some (RX8, TX8, 10) := by rw [h.1]; rfl
theorem gm_k8 {z : gZ} (h : gZm z) : z.2.1[8]? = some (RX8, TX8, 10) := by rw [h.1]; rfl
theorem iwX8 {c0 : Cond} : ∀ w ∈ u_ws RX8 TX8 10, w ∈ c0 :: gTs := fun w h => List.mem_cons_of_mem _ (inX8 w h)
theorem gc_k9 {z : gZ} (h : gZc z) : z.2.1[9]? = some (RX9, TX9, 37) := by rw [h.1]; rfl
theorem gm_k9 {z : gZ} (h : gZm z) : z.2.1[9]? = some (RX9, TX9, 37) := by rw [h.1]; rfl
theorem iwX9 {c0 : Cond} : ∀ w ∈ u_ws RX9 TX9 37, w ∈ c0 :: gTs := fun w h => List.mem_cons_of_mem _ (inX9 w h)
theorem gc_ns520 {z : gZ} (h : gZc z) : ("CutStore$Distinct", 58, yX8_areAlike, "CutStore") ∈ z.2.2.2.2.2 := by rw [h.2.2]; exact List.mem_of_getElem? (i := 0) rfl
theorem gc_ns516 {z : gZ} (h : gZc z) : ("CutStore$Distinct", 62, yX8_spread, "CutStore") ∈ z.2.2.2.2.2 := by rw [h.2.2]; exact List.mem_of_getElem? (i := 1) rfl
theorem gc_ns667 {z : gZ} (h : gZc z) : ("CutStore$PairTable", 41, yX8_spread, "CutStore") ∈ z.2.2.2.2.2 := by rw [h.2.2]; exact List.mem_of_getElem? (i := 2) rfl
theorem gc_ns559 {z : gZ} (h : gZc z) : ("CutStore$Store", 107, yX8_areAlike, "CutStore") ∈ z.2.2.2.2.2 := by rw [h.2.2]; exact List.mem_of_getElem? (i := 3) rfl
theorem wc {c0 w : Cond} (h : w ∈ gTs) : w ∈ c0 :: gTs := List.mem_cons_of_mem _ h
def gCat : List Value → Prop
  | [] => True
  | v :: r => v.category = 1 ∧ gCat r
theorem gCat_all : ∀ {vs : List Value}, gCat vs → ∀ v ∈ vs, v.category = 1
  | [], _, v, h => absurd h List.not_mem_nil
  | a :: r, ⟨h1, h2⟩, v, h => by
    rcases List.mem_cons.mp h with rfl | h
    · exact h1
    · exact gCat_all h2 v h
theorem gCw_of {c0 : Cond} {rm rc : Room} {yc : MethodName} {cb : ByteArray} {mL n : Nat} {ret : Option FieldType} (w1 : Cond.code yc cb mL ret ∈ gTs) (w2 : Cond.initialized yc.cls ∈ gTs) (h1 : rc.frames + 1 ≤ rm.frames) (h2 : 8 + (mL + 11) + rc.locals ≤ rm.locals) (hd : (yc.cls ≠ "java/lang/invoke/MethodHandle" ∧ yc.cls ≠ "java/lang/invoke/VarHandle" ∧ (parseMethodDescriptor yc.desc).map (fun d => d.parameters.length) = some n) ∧ rc.cells = 0 ∧ rc.slots = 0) : gCw (c0 :: gTs) rm yc cb mL ret (Cond.code yc cb mL ret :: gTs) rc n :=
  ⟨fun w h => by
    rcases List.mem_cons.mp h with rfl | h
    · exact ⟨wc w1, Or.inl (by first | rfl | simp [Cond.onTables, Cond.keeps, Cond.steady])⟩
    · exact ⟨wc h, good_of_word (List.mem_filter.mp h).2⟩, ⟨_, rfl⟩, hd.2.1, hd.2.2, h1, h2, hd.1, wc w2⟩
section GV
variable {y : gY} {z : gZ} {L : gLay} {l : Launch} {cc : ByteArray} {own : String} {nL : Nat} {Ts : List Cond} {rm : Room} {pc : Nat} {lc lc' : List (Option Value)} {st : List Value} {M : gMem}
theorem g_istore2 (hC : gC y z l cc own nL Ts rm) {i : Nat} {a : Int} (hd : decode cc pc = .ok (.istore i, 2)) (hi : i < lc.length) (hl : lc.set i (some (vi a)) = lc') (k : gW y z L (pc + 2) lc' st M) : gW y z L pc lc (vi a :: st) M := g_istore hC hd hi (by rw [hl]; exact k)
theorem g_istore_n2 (hC : gC y z l cc own nL Ts rm) {q : Fin 4} {i : Nat} {a : Int} (hd : decode cc pc = .ok (.istore_n q, 1)) (hq : (q : Nat) = i) (hi : i < lc.length) (hl : lc.set i (some (vi a)) = lc') (k : gW y z L (pc + 1) lc' st M) : gW y z L pc lc (vi a :: st) M := g_istore_n hC hd hq hi (by rw [hl]; exact k)
theorem g_iinc2 (hC : gC y z l cc own nL Ts rm) {i : Nat} {a n : Int} (hd : decode cc pc = .ok (.iinc i n, 3)) (hi : lc[i]? = some (some (vi a))) (hl : lc.set i (some (vi (a + n))) = lc') (k : gW y z L (pc + 3) lc' st M) : gW y z L pc lc st M := g_iinc hC hd hi (by rw [hl]; exact k)
theorem g_subk {lc1 : List (Option Value)} (k : gW y z L pc lc1 st M) (hs : gLe lc1 lc) : gW y z L pc lc st M := g_sub hs k
theorem g_lc (h : lc = lc') (k : gW y z L pc lc' st M) : gW y z L pc lc st M := by rw [h]; exact k
end GV
