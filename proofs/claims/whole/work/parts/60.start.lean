/-! FROM THE CONSTRUCTORS' WORLDS TO THE FIXED ONES; THE LAW'S START -/
def cM0 : gMem := fun k i => if k = 0 then (if i = 8 then 8 else if i = 9 then 2 else 0) else if 7 ≤ k ∧ k < 13 then (if i = 0 then (-1) else 0) else if k = 38 then gFill (fun _ _ => 0) 0 0 8 (-1) 0 i else 0
def mM0 : gMem := fun k i => if k = 0 then (if i = 14 then 8 else if i = 15 then 2 else 0) else 0
def z1of (dC : Nat → ClassId) (dI : Nat → Nat → Nat) (h0 : Nat) (u : bS) : gZ := ((dC, dI), vwCl, [((u.2 1), .int), ((u.2 0), .byte), ((u.2 2), .object "CutStore$Rule"), ((u.2 3), .array .int)], (fun k => [h0, (u.1 0), (u.1 1), (u.1 2), (u.1 3), (u.1 4), (u.1 5), (u.1 6), (u.1 7), (u.1 8), (u.1 9), (u.1 10), (u.1 11), (u.1 12), (u.1 13), (u.1 14), (u.1 15), (u.1 16), (u.1 17), (u.1 18), (u.1 19), (u.1 20), (u.1 21), (u.1 22), (u.1 23), (u.1 24), (u.1 25), (u.1 26), (u.1 27), (u.1 28), (u.1 29), (u.1 30), (u.1 31), (u.1 32), (u.1 33), (u.1 34), (u.1 35), (u.1 36), (u.1 37), (u.1 38), (u.1 39), (u.1 40), (u.1 41), (u.1 42), (u.1 43), (u.1 44), (u.1 45), (u.1 46)].getD k 0), (fun t => [(u.2 1), (u.2 0), (u.2 1), (u.2 2), (u.2 3)].getD t (u.2 1)), [("CutStore$Distinct", 58, yX8_areAlike, "CutStore"), ("CutStore$Distinct", 62, yX8_spread, "CutStore"), ("CutStore$PairTable", 41, yX8_spread, "CutStore"), ("CutStore$Store", 107, yX8_areAlike, "CutStore")])
def z2of (dC : Nat → ClassId) (dI : Nat → Nat → Nat) (h0 : Nat) (u : bS) : gZ := ((dC, dI), vwCl, [((u.2 0), .int), ((u.2 1), .boolean)], (fun k => [h0, (u.1 0), (u.1 1), (u.1 2), (u.1 3), (u.1 4), (u.1 5), (u.1 6), (u.1 7), (u.1 8), (u.1 9), (u.1 10), (u.1 11), (u.1 12), (u.1 13), (u.1 14), (u.1 15), (u.1 16), (u.1 17), (u.1 18), (u.1 19), (u.1 20), (u.1 21), (u.1 22), (u.1 23), (u.1 24), (u.1 25), (u.1 26), (u.1 27), (u.1 28), (u.1 29)].getD k 0), (fun t => [(u.2 0), (u.2 0), (u.2 1)].getD t (u.2 0)), [])
theorem z1of_ok {dC : Nat → ClassId} {dI : Nat → Nat → Nat} {h0 : Nat} {u : bS} : gZc (z1of dC dI h0 u) := ⟨rfl, rfl, rfl⟩
theorem z2of_ok {dC : Nat → ClassId} {dI : Nat → Nat → Nat} {h0 : Nat} {u : bS} : gZm (z2of dC dI h0 u) := ⟨rfl, rfl, rfl⟩
theorem fm_of {α β : Type} {f : α → Option β} : ∀ {l : List α} {r : List β}, l.map f = r.map some → l.filterMap f = r
  | [], [], _ => rfl
  | [], _ :: _, h => by simp at h
  | _ :: _, [], h => by simp at h
  | a :: l, b :: r, h => by
    rw [List.map_cons, List.map_cons] at h
    injection h with h1 h2
    rw [List.filterMap_cons, h1]
    simp only [fm_of h2]
theorem at_arr {z : gZ} {M : gMem} {D : va_G} {cl : List vw_C} {H : Heap} {a k n t : Nat} {c : ClassId} (h : va_at D cl (a, .inl (c, n, .inl (fun _ => 0))) H) (hq : z.2.2.2.1 k = a) (hc : z.2.2.2.2.1 t = c) (h0 : ∀ j : Nat, gEl t (M k j) = 0) : va_at D cl (z.2.2.2.1 k, gE z M k (.inl (t, n))) H := by
  subst hq
  subst hc
  have e : (fun j : Nat => Int32.ofInt (gEl t (M k j))) = (fun _ => 0) := funext fun j => by rw [h0 j]; rfl
  show va_at D cl (z.2.2.2.1 k, .inl (z.2.2.2.2.1 t, n, .inl (fun j : Nat => Int32.ofInt (gEl t (M k j))))) H
  rw [e]
  exact h
theorem at_arf {z : gZ} {M : gMem} {D : va_G} {cl : List vw_C} {H : Heap} {a k n t : Nat} {c : ClassId} {f : Nat → Int32} (h : va_at D cl (a, .inl (c, n, .inl f)) H) (hq : z.2.2.2.1 k = a) (hc : z.2.2.2.2.1 t = c) (h0 : ∀ j : Nat, Int32.ofInt (gEl t (M k j)) = f j) : va_at D cl (z.2.2.2.1 k, gE z M k (.inl (t, n))) H := by
  subst hq
  subst hc
  have e : (fun j : Nat => Int32.ofInt (gEl t (M k j))) = f := funext h0
  show va_at D cl (z.2.2.2.1 k, .inl (z.2.2.2.2.1 t, n, .inl (fun j : Nat => Int32.ofInt (gEl t (M k j))))) H
  rw [e]
  exact h
theorem at_obj {z : gZ} {M : gMem} {D : va_G} {cl : List vw_C} {H : Heap} {a k ci : Nat} {vs : List Value} {fs : List (Option Nat)} (h : va_at D cl (a, .inr (ci, vs)) H) (hq : z.2.2.2.1 k = a) (hv : gFs z M k 0 fs = vs) : va_at D cl (z.2.2.2.1 k, gE z M k (.inr (.inr (ci, fs)))) H := by
  subst hq
  subst hv
  exact h
theorem at_ref {z : gZ} {M : gMem} {D : va_G} {cl : List vw_C} {H : Heap} {a k n t b : Nat} {c : ClassId} {f : Nat → Option Nat} (h : va_at D cl (a, .inl (c, n, .inr (.inr (.inr (.inr f))))) H) (hq : z.2.2.2.1 k = a) (hc : z.2.2.2.2.1 t = c) (hf : ∀ j : Nat, (if j < n then some (z.2.2.2.1 (b + j)) else none) = f j) : va_at D cl (z.2.2.2.1 k, gE z M k (.inr (.inl (t, n, b)))) H := by
  subst hq
  subst hc
  have e : (fun j => if j < n then some (z.2.2.2.1 (b + j)) else none) = f := funext hf
  subst e
  exact h
theorem P_cons {D : va_G} {cl : List vw_C} {H : Heap} {c : Nat × va_E} {ws : va_W} (h : va_at D cl c H) (hP : va_P D cl ws H) : va_P D cl (c :: ws) H := fun k q hq => by
  cases k with
  | zero => rw [List.getElem?_cons_zero] at hq; cases hq; exact h
  | succ k => rw [List.getElem?_cons_succ] at hq; exact hP k q hq
def gWl (z : gZ) (M : gMem) : Nat → List gD → va_W
  | _, [] => []
  | k, d :: r => (z.2.2.2.1 k, gE z M k d) :: gWl z M (k + 1) r
theorem gWl_get {z : gZ} {M : gMem} : ∀ (L : List gD) (k i : Nat), (gWl z M k L)[i]? = L[i]?.map (fun d => (z.2.2.2.1 (k + i), gE z M (k + i) d))
  | [], _, _ => by simp [gWl]
  | d :: r, k, 0 => by simp [gWl]
  | d :: r, k, i + 1 => by rw [gWl, List.getElem?_cons_succ, gWl_get r (k + 1) i, List.getElem?_cons_succ, show k + 1 + i = k + (i + 1) by omega]
theorem gWd_eq {z : gZ} {L : gLay} {M : gMem} : gWd z L M = gWl z M 0 L := by
  apply List.ext_getElem?
  intro i
  rw [gWl_get, gWd, List.getElem?_mapIdx]
  simp
theorem P_nil {D : va_G} {cl : List vw_C} {H : Heap} : va_P D cl [] H := fun k q hq => by simp at hq
theorem D_congr {A : Nat → Prop} {ws ws' : va_W} (e : ws.map (fun q => q.1) = ws'.map (fun q => q.1)) (hD : va_D A ws) : va_D A ws' := by
  have key : ∀ (k : Nat) (q : Nat × va_E), ws'[k]? = some q → ∃ p, ws[k]? = some p ∧ p.1 = q.1 := fun k q hq => by
    have h1 : (ws'.map (fun q => q.1))[k]? = some q.1 := by rw [List.getElem?_map, hq]; rfl
    rw [← e, List.getElem?_map] at h1
    cases hw : ws[k]? with
    | none => rw [hw] at h1; cases h1
    | some p => rw [hw] at h1; exact ⟨p, rfl, Option.some.inj h1⟩
  refine ⟨fun i j p q hi hj hpq => ?_, fun k q hq => ?_⟩
  · obtain ⟨p', h1, h2⟩ := key i p hi
    obtain ⟨q', h3, h4⟩ := key j q hj
    exact hD.1 i j p' q' h1 h3 (by rw [h2, h4, hpq])
  · obtain ⟨p', h1, h2⟩ := key k q hq
    rw [← h2]
    exact hD.2 k p' h1
theorem start_rules {dC : Nat → ClassId} {dI : Nat → Nat → Nat} {h0 : Nat} {u : bS} (j : Nat) : (if j < 6 then some ((z1of dC dI h0 u).2.2.2.1 (7 + j)) else none) = (va_up (va_up (va_up (va_up (va_up (va_up (fun _ => none) 0 (some (u.1 6))) 1 (some (u.1 7))) 2 (some (u.1 8))) 3 (some (u.1 9))) 4 (some (u.1 10))) 5 (some (u.1 11))) j := by
  by_cases h : j < 6
  · rcases (by omega : j = 0 ∨ j = 1 ∨ j = 2 ∨ j = 3 ∨ j = 4 ∨ j = 5) with rfl | rfl | rfl | rfl | rfl | rfl <;> rfl
  · rw [if_neg h]
    simp only [va_up]
    rw [if_neg (by omega), if_neg (by omega), if_neg (by omega), if_neg (by omega), if_neg (by omega), if_neg (by omega)]
theorem start_kept {dC : Nat → ClassId} {dI : Nat → Nat → Nat} {h0 : Nat} {u : bS} (j : Nat) : (if j < 8 then some ((z1of dC dI h0 u).2.2.2.1 (29 + j)) else none) = (fun i => if i < 8 then some (u.1 (28 + i)) else none) j := by
  by_cases h : j < 8
  · rcases (by omega : j = 0 ∨ j = 1 ∨ j = 2 ∨ j = 3 ∨ j = 4 ∨ j = 5 ∨ j = 6 ∨ j = 7) with rfl | rfl | rfl | rfl | rfl | rfl | rfl | rfl <;> rfl
  · simp only [if_neg h]
