/-! THE LAW FROM ITS ENTRY, open in the mathematics: that the law's formula holds of both memories -/
theorem lGood {w1 : Cond} (h : w1 ∈ gTs) (hg : (w1.onTables && w1.keeps) = true) : GoodIn lw_tbl (w1 :: gTs) := fun w hw => by
  rcases List.mem_cons.mp hw with rfl | hw
  · exact ⟨lT h, Or.inl hg⟩
  · exact ⟨lT hw, good_of_word (List.mem_filter.mp hw).2⟩
theorem P_left {D : va_G} {cl : List vw_C} {H : Heap} {a b : va_W} (h : va_P D cl (a ++ b) H) : va_P D cl a H := fun k q hq => h k q (by rw [List.getElem?_append_left (List.getElem?_eq_some_iff.mp hq).1]; exact hq)
theorem P_right {D : va_G} {cl : List vw_C} {H : Heap} {a b : va_W} (h : va_P D cl (a ++ b) H) : va_P D cl b H := fun k q hq => h (a.length + k) q (by rw [List.getElem?_append_right (Nat.le_add_right _ _), Nat.add_sub_cancel_left]; exact hq)
theorem D_left {A : Nat → Prop} {a b : va_W} (h : va_D A (a ++ b)) : va_D A a := by
  have e : ∀ (k : Nat) (q : Nat × va_E), a[k]? = some q → (a ++ b)[k]? = some q := fun k q hq => by rw [List.getElem?_append_left (List.getElem?_eq_some_iff.mp hq).1]; exact hq
  exact ⟨fun i j p q hi hj => h.1 i j p q (e i p hi) (e j q hj), fun k q hq => h.2 k q (e k q hq)⟩
theorem D_right {A : Nat → Prop} {a b : va_W} (h : va_D A (a ++ b)) : va_D A b := by
  have e : ∀ (k : Nat) (q : Nat × va_E), b[k]? = some q → (a ++ b)[a.length + k]? = some q := fun k q hq => by rw [List.getElem?_append_right (Nat.le_add_right _ _), Nat.add_sub_cancel_left]; exact hq
  exact ⟨fun i j p q hi hj hpq => by have := h.1 _ _ p q (e i p hi) (e j q hj) hpq; omega, fun k q hq => h.2 _ q (e k q hq)⟩
theorem D_cross {A : Nat → Prop} {a b : va_W} (h : va_D A (a ++ b)) {i j : Nat} {p q : Nat × va_E} (hi : a[i]? = some p) (hj : b[j]? = some q) : p.1 ≠ q.1 := fun e => by
  have hl := (List.getElem?_eq_some_iff.mp hi).1
  have := h.1 i (a.length + j) p q (by rw [List.getElem?_append_left hl]; exact hi) (by rw [List.getElem?_append_right (Nat.le_add_right _ _), Nat.add_sub_cancel_left]; exact hj) e
  omega
theorem len_cL : cL.length = 48 := rfl
theorem len_mL : mL.length = 31 := rfl
set_option maxHeartbeats 8000000 in
set_option maxRecDepth 100000 in
theorem whole_start_open (hM : ∀ (xs : Nat → Int32) (Ln : Nat), Ln ≤ 4096 → ∃ n, fL_loop xs Ln n 0 cM0 mM0) {p : Program} {e : Env} {s : State} {m : MethodId} {below : List Frame} {meth : Method} {c : Code} (l : Launch) {b L : Nat} {xs : Nat → Int32} (hL : L ≤ 4096) (C0 : lw_At p s m meth c b L xs) : W p l e room_1 s m #[Value.ref b] below meth c s.heap [] 0 0 (lw_Z below #[Value.ref b] s) (entryFrame m ([Value.ref b] : List Value).toArray 4) := by
  obtain ⟨hx, hb, hr, hml, hown, hts, hX, hbl, hlocks, hgv⟩ := id C0
  have hA : ∀ q : Nat, s.heap.size ≤ q → (fun q : Nat => s.heap.size ≤ q) q := fun _ h => h
  have hbA : ¬ (fun q : Nat => s.heap.size ≤ q) b := Nat.not_le.mpr hbl
  obtain ⟨c0, i0, hKn0⟩ := u_known (C := RX0) (T := TX0) (N := 5) (n := 5) hts (fun w h => lT (inX0 w h)) (hts _ (lT wd_128))
  obtain ⟨c1, i1, hKn1⟩ := u_known (C := RX1) (T := TX1) (N := 4) (n := 4) hts (fun w h => lT (inX1 w h)) (hts _ (lT wd_155))
  obtain ⟨c2, i2, hKn2⟩ := u_known (C := RX2) (T := TX2) (N := 2) (n := 2) hts (fun w h => lT (inX2 w h)) (hts _ (lT wd_61))
  obtain ⟨c3, i3, hKn3⟩ := u_known (C := RX3) (T := TX3) (N := 8) (n := 8) hts (fun w h => lT (inX3 w h)) (hts _ (lT wd_237))
  obtain ⟨c4, i4, hKn4⟩ := u_known (C := RX4) (T := TX4) (N := 6) (n := 6) hts (fun w h => lT (inX4 w h)) (hts _ (lT wd_99))
  obtain ⟨c5, i5, hKn5⟩ := u_known (C := RX5) (T := TX5) (N := 12) (n := 12) hts (fun w h => lT (inX5 w h)) (hts _ (lT wd_175))
  obtain ⟨c6, i6, hKn6⟩ := u_known (C := RX6) (T := TX6) (N := 8) (n := 8) hts (fun w h => lT (inX6 w h)) (hts _ (lT wd_231))
  obtain ⟨c7, i7, hKn7⟩ := u_known (C := RX7) (T := TX7) (N := 2) (n := 2) hts (fun w h => lT (inX7 w h)) (hts _ (lT wd_82))
  obtain ⟨c8, i8, hKn8⟩ := u_known (C := RX8) (T := TX8) (N := 10) (n := 10) hts (fun w h => lT (inX8 w h)) (hts _ (lT wd_53))
  obtain ⟨c9, i9, hKn9⟩ := u_known (C := RX9) (T := TX9) (N := 37) (n := 37) hts (fun w h => lT (inX9 w h)) (hts _ (lT wd_681))
  obtain ⟨dC, dI, hKc⟩ : ∃ (dC : Nat → ClassId) (dI : Nat → Nat → Nat), ∀ (k : Nat) (q : vw_C), vwCl[k]? = some q → u_Kn s q.1 q.2.1 q.2.2 (dC k) (dI k) := by
    refine ⟨fun k => [c0, c1, c2, c3, c4, c5, c6, c7, c8, c9].getD k c0, fun k => [i0, i1, i2, i3, i4, i5, i6, i7, i8, i9].getD k i0, ?_⟩
    intro k q hq
    match k, hq with
    | 0, hq => cases hq; exact hKn0
    | 1, hq => cases hq; exact hKn1
    | 2, hq => cases hq; exact hKn2
    | 3, hq => cases hq; exact hKn3
    | 4, hq => cases hq; exact hKn4
    | 5, hq => cases hq; exact hKn5
    | 6, hq => cases hq; exact hKn6
    | 7, hq => cases hq; exact hKn7
    | 8, hq => cases hq; exact hKn8
    | 9, hq => cases hq; exact hKn9
    | k + 10, hq => simp [vwCl] at hq
  have hS : va_S (fun q : Nat => s.heap.size ≤ q) s.heap s.heap [] := va_S.rf
  have hK : va_K (dC, dI) vwCl [] s := ⟨hKc, fun k q h => by simp at h⟩
  have hN : bN s := ⟨List.forall_mem_cons.mpr ⟨va_Nw.of rfl (hts _ wn_62), List.forall_mem_cons.mpr ⟨va_Nw.of rfl (hts _ wn_83), List.forall_mem_cons.mpr ⟨va_Nw.of rfl (hts _ wn_100), List.forall_mem_cons.mpr ⟨va_Nw.of rfl (hts _ wn_232), List.forall_mem_cons.mpr ⟨va_Nw.of rfl (hts _ wn_238), fun _ h => absurd h List.not_mem_nil⟩⟩⟩⟩⟩, va_AO.of (hts _ wn_98), hts _ wn_181⟩
  have hN1 : ∀ u : Nat × bS, gNs (z1of dC dI u.1 u.2) s := fun u => List.forall_mem_cons.mpr ⟨va_Nw.of rfl (hts _ wn_520), List.forall_mem_cons.mpr ⟨va_Nw.of rfl (hts _ wn_516), List.forall_mem_cons.mpr ⟨va_Nw.of rfl (hts _ wn_667), List.forall_mem_cons.mpr ⟨va_Nw.of rfl (hts _ wn_559), fun _ h => absurd h List.not_mem_nil⟩⟩⟩⟩
  have hP : va_P (dC, dI) vwCl [] s.heap := fun k q h => by simp at h
  have hD : va_D (fun q : Nat => s.heap.size ≤ q) [] := ⟨fun i j p q h => by simp at h, fun k q h => by simp at h⟩
  have hl := lv_entry ([.ref b]) (n := 4) (Nat.le_of_ble_eq_true rfl)
  rw [lg_entry_eq]
  generalize (lg_sl ([.ref b]) ++ List.replicate (4 - (lg_sl ([.ref b])).length) Slot.unset).toArray = ls at hl ⊢
  have hl : lv_has ls 4 [(0, .ref b)] := hl
  refine va_new (ci := 8) (fs := [.null, .null, .null, .null, .null, .null, .null, .null, .int 0, .int 0]) (C := RX8) (T := TX8) (N := 10) hx hb hts (fun w h => lT (inX8 w h)) tyX8 tyX8_ok hown (hts _ (lT wd_52)) (hts _ (lT wd_53)) (hts _ (lT wd_39)) hK hP hD hS hA rfl (fun j hj => by rcases (show j = 0 ∨ j = 1 ∨ j = 2 ∨ j = 3 ∨ j = 4 ∨ j = 5 ∨ j = 6 ∨ j = 7 ∨ j = 8 ∨ j = 9 by omega) with rfl | rfl | rfl | rfl | rfl | rfl | rfl | rfl | rfl | rfl <;> rfl) (Nat.le_of_ble_eq_true rfl) (Nat.le_of_ble_eq_true rfl) dL_law_0 (fun q8 H hP hD hS => ?_)
  have hP : va_P (dC, dI) vwCl [(q8, .inr (8, [.null, .null, .null, .null, .null, .null, .null, .null, .int 0, .int 0]))] H := hP
  have hD : va_D (fun q : Nat => s.heap.size ≤ q) [(q8, .inr (8, [.null, .null, .null, .null, .null, .null, .null, .null, .int 0, .int 0]))] := hD
  refine W.widen (k := 1) (n := 10) (Nat.le_of_ble_eq_true rfl) (Nat.le_of_ble_eq_true rfl) ?_
  refine lv_dup hx hb dL_law_3 rfl ?_
  have hFc := va_free (wc := [(q8, .inr (8, [.null, .null, .null, .null, .null, .null, .null, .null, .int 0, .int 0]))]) hD hS hA [0] rfl
  refine va_callv (va_runI (As := []) (rest := [.ref q8]) ⟨hx, hb, hml, hown, hts⟩ (ciX8_init (l := l) (dC := dC) (dI := dI) q8 H.size) (cwI 0 hts (lGood wd_56 rfl) rfl rfl rfl (hts _ (lT wd_39)) (hts _ (lT wd_54)) (hts _ (lT wd_55)) rfl (by decide +kernel) ⟨Nat.le_of_ble_eq_true rfl, Nat.le_of_ble_eq_true rfl⟩) ⟨bBlind, fun U hU hW => ⟨rfl, by rw [hU], by rw [hU]; exact hP, va_K.moved hW.alike hK, bN.warm hW hN, (hD).weaken (fun _ _ _ _ => trivial)⟩⟩ rfl rfl hl.1 rfl (lv_room (Nat.le_of_ble_eq_true rfl)) dL_law_4 ⟨Nat.le_of_ble_eq_true rfl, Nat.le_of_ble_eq_true rfl⟩) hS (fun q _ h => hFc q h) hFc (fun u t H1 locs ht hvm hw hB hz1 hk1 hS => ?_)
  obtain ⟨u1, rfl⟩ : ∃ z, z = u := ⟨_, rfl⟩
  obtain ⟨hP1, hK1, hD1⟩ := hB
  rw [ht] at hP1
  have hKz1 := va_K.moved hvm.symm hK1
  obtain ⟨hP, hD⟩ := va_join (wr := []) (w1 := bwX8_init q8 u1) hP hD [0] [] rfl rfl (by decide) (by decide) hk1 hFc hP1 hD1
  generalize H1 = H at hP hS ⊢
  have hP : va_P (dC, dI) vwCl (bwX8_init q8 u1) H := hP
  have hD : va_D (fun q : Nat => s.heap.size ≤ q) (bwX8_init q8 u1) := hD
  clear hP1 hD1 hFc hk1 hz1
  refine W.widen (k := 48) (n := 66096) (Nat.le_of_ble_eq_true rfl) (Nat.le_of_ble_eq_true rfl) ?_
  refine lv_astore_n (lv' := [(1, .ref q8), (0, .ref b)]) hx hb dL_law_7 rfl hl (by decide) rfl (fun ls hl => ?_)
  refine va_new (ci := 9) (fs := [.null, .null, .null, .int 0, .null, .null, .null, .null, .null, .null, .int 0, .null, .null, .int 0, .int 0, .int 0, .null, .null, .null, .null, .null, .null, .null, .null, .null, .null, .null, .int 0, .null, .null, .null, .null, .null, .int 0, .null, .null, .null]) (C := RX9) (T := TX9) (N := 37) hx hb hts (fun w h => lT (inX9 w h)) tyX9 tyX9_ok hown (hts _ (lT wd_680)) (hts _ (lT wd_681)) (hts _ (lT wd_49)) hK hP hD hS hA rfl (fun j hj => by rcases (show j = 0 ∨ j = 1 ∨ j = 2 ∨ j = 3 ∨ j = 4 ∨ j = 5 ∨ j = 6 ∨ j = 7 ∨ j = 8 ∨ j = 9 ∨ j = 10 ∨ j = 11 ∨ j = 12 ∨ j = 13 ∨ j = 14 ∨ j = 15 ∨ j = 16 ∨ j = 17 ∨ j = 18 ∨ j = 19 ∨ j = 20 ∨ j = 21 ∨ j = 22 ∨ j = 23 ∨ j = 24 ∨ j = 25 ∨ j = 26 ∨ j = 27 ∨ j = 28 ∨ j = 29 ∨ j = 30 ∨ j = 31 ∨ j = 32 ∨ j = 33 ∨ j = 34 ∨ j = 35 ∨ j = 36 by omega) with rfl | rfl | rfl | rfl | rfl | rfl | rfl | rfl | rfl | rfl | rfl | rfl | rfl | rfl | rfl | rfl | rfl | rfl | rfl | rfl | rfl | rfl | rfl | rfl | rfl | rfl | rfl | rfl | rfl | rfl | rfl | rfl | rfl | rfl | rfl | rfl | rfl <;> rfl) (Nat.le_of_ble_eq_true rfl) (Nat.le_of_ble_eq_true rfl) dL_law_8 (fun q9 H hP hD hS => ?_)
  refine W.widen (k := 49) (n := 66133) (Nat.le_of_ble_eq_true rfl) (Nat.le_of_ble_eq_true rfl) ?_
  refine lv_dup hx hb dL_law_11 rfl ?_
  have hlen : (bwX8_init q8 u1).length = 48 := rfl
  have hat : ((bwX8_init q8 u1) ++ [((q9, .inr (9, [.null, .null, .null, .int 0, .null, .null, .null, .null, .null, .null, .int 0, .null, .null, .int 0, .int 0, .int 0, .null, .null, .null, .null, .null, .null, .null, .null, .null, .null, .null, .int 0, .null, .null, .null, .null, .null, .int 0, .null, .null, .null])) : Nat × va_E)])[48]? = some (q9, .inr (9, [.null, .null, .null, .int 0, .null, .null, .null, .null, .null, .null, .int 0, .null, .null, .int 0, .int 0, .int 0, .null, .null, .null, .null, .null, .null, .null, .null, .null, .null, .null, .int 0, .null, .null, .null, .null, .null, .int 0, .null, .null, .null])) := by rw [List.getElem?_append_right (by rw [hlen]; exact Nat.le_refl _), hlen]; rfl
  have hFc := va_free (wc := [(q9, .inr (9, [.null, .null, .null, .int 0, .null, .null, .null, .null, .null, .null, .int 0, .null, .null, .int 0, .int 0, .int 0, .null, .null, .null, .null, .null, .null, .null, .null, .null, .null, .null, .int 0, .null, .null, .null, .null, .null, .int 0, .null, .null, .null]))]) hD hS hA [48] (congrArg (fun x => [x]) hat)
  have hPc : va_P (dC, dI) vwCl [(q9, .inr (9, [.null, .null, .null, .int 0, .null, .null, .null, .null, .null, .null, .int 0, .null, .null, .int 0, .int 0, .int 0, .null, .null, .null, .null, .null, .null, .null, .null, .null, .null, .null, .int 0, .null, .null, .null, .null, .null, .int 0, .null, .null, .null]))] H := P_right hP
  have hDc : va_D (fun q : Nat => s.heap.size ≤ q) [(q9, .inr (9, [.null, .null, .null, .int 0, .null, .null, .null, .null, .null, .null, .int 0, .null, .null, .int 0, .int 0, .int 0, .null, .null, .null, .null, .null, .null, .null, .null, .null, .null, .null, .int 0, .null, .null, .null, .null, .null, .int 0, .null, .null, .null]))] := D_right hD
  refine va_callv (va_runI (As := []) (rest := [.ref q9]) ⟨hx, hb, hml, hown, hts⟩ (ciX9_init (l := l) (dC := dC) (dI := dI) q9 H.size) (cwI 0 hts (lGood wd_684 rfl) rfl rfl rfl (hts _ (lT wd_49)) (hts _ (lT wd_682)) (hts _ (lT wd_683)) rfl (by decide +kernel) ⟨Nat.le_of_ble_eq_true rfl, Nat.le_of_ble_eq_true rfl⟩) ⟨bBlind, fun U hU hW => ⟨rfl, by rw [hU], by rw [hU]; exact hPc, va_K.moved hW.alike hK, bN.warm hW hN, (hDc).weaken (fun _ _ _ _ => trivial)⟩⟩ rfl rfl hl.1 rfl (lv_room (Nat.le_of_ble_eq_true rfl)) dL_law_12 ⟨Nat.le_of_ble_eq_true rfl, Nat.le_of_ble_eq_true rfl⟩) hS (fun q _ h => hFc q h) hFc (fun u t H1 locs ht hvm hw hB hz1 hk1 hS => ?_)
  obtain ⟨u2, rfl⟩ : ∃ z, z = u := ⟨_, rfl⟩
  obtain ⟨hP1, hK1, hD1⟩ := hB
  rw [ht] at hP1
  have hKz2 := va_K.moved hvm.symm hK1
  obtain ⟨hP, hD⟩ := va_join (wc := [(q9, .inr (9, [.null, .null, .null, .int 0, .null, .null, .null, .null, .null, .null, .int 0, .null, .null, .int 0, .int 0, .int 0, .null, .null, .null, .null, .null, .null, .null, .null, .null, .null, .null, .int 0, .null, .null, .null, .null, .null, .int 0, .null, .null, .null]))]) (wr := bwX8_init q8 u1) (w1 := bwX9_init q9 u2) hP hD [48] (List.range 48) (congrArg (fun x => [x]) hat) (by
    apply List.ext_getElem?
    intro i
    rw [List.getElem?_map, List.getElem?_map]
    by_cases h : i < 48
    · rw [List.getElem?_range h]
      simp only [Option.map_some]
      rw [List.getElem?_append_left (by rw [hlen]; exact h)]
      rw [List.getElem?_eq_getElem (by rw [hlen]; exact h)]
      rfl
    · rw [List.getElem?_eq_none (by simp; omega), List.getElem?_eq_none (by rw [hlen]; omega)]
      rfl) (by decide) (by decide) hk1 hFc hP1 hD1
  generalize H1 = H at hP hS ⊢
  clear hP1 hD1 hFc hk1 hz1 hPc hDc
  refine W.widen (k := 600000) (n := 7302250) (Nat.le_of_ble_eq_true rfl) (Nat.le_of_ble_eq_true rfl) ?_
  refine lv_astore_n (lv' := [(2, .ref q9), (1, .ref q8), (0, .ref b)]) hx hb dL_law_15 rfl hl (by decide) rfl (fun ls hl => ?_)
  refine lv_iconst (v := 0) hx hb dL_law_16 (by decide) ?_
  refine lv_istore_n (lv' := [(3, .int 0), (2, .ref q9), (1, .ref q8), (0, .ref b)]) hx hb dL_law_17 rfl hl (by decide) rfl (fun ls hl => ?_)
  have hH1 : gH (z1of dC dI q8 u1) cL (fun q : Nat => s.heap.size ≤ q) cM0 H := ⟨start1_P (P_left hP), start1_D (D_left hD)⟩
  have hH2 : gH (z2of dC dI q9 u2) mL (fun q : Nat => s.heap.size ≤ q) mM0 H := ⟨start2_P (P_right hP), start2_D (D_right hD)⟩
  have e1 : (bwX8_init q8 u1).map (fun q => q.1) = (gWd (z1of dC dI q8 u1) cL cM0).map (fun q => q.1) := by rw [gWd_eq]; rfl
  have e2 : (bwX9_init q9 u2).map (fun q => q.1) = (gWd (z2of dC dI q9 u2) mL mM0).map (fun q => q.1) := by rw [gWd_eq]; rfl
  have hDD : va_D (fun q : Nat => s.heap.size ≤ q) (gWd (z1of dC dI q8 u1) cL cM0 ++ gWd (z2of dC dI q9 u2) mL mM0) := D_congr (by rw [List.map_append, List.map_append, e1, e2]) hD
  have hin1 : ∀ k, k < cL.length → (fun q : Nat => s.heap.size ≤ q) ((z1of dC dI q8 u1).2.2.2.1 k) := fun k hk => hH1.2.2 k _ (gWd_at (List.getElem?_eq_getElem hk))
  have hin2 : ∀ k, k < mL.length → (fun q : Nat => s.heap.size ≤ q) ((z2of dC dI q9 u2).2.2.2.1 k) := fun k hk => hH2.2.2 k _ (gWd_at (List.getElem?_eq_getElem hk))
  have hcr : ∀ j k, j < cL.length → k < mL.length → (z1of dC dI q8 u1).2.2.2.1 j ≠ (z2of dC dI q9 u2).2.2.2.1 k := fun j k hj hk => D_cross hDD (gWd_at (List.getElem?_eq_getElem hj)) (gWd_at (List.getElem?_eq_getElem hk))
  have hC : lC (p, l, e, room_1, s, m, #[Value.ref b], below, meth, c, lw_Z below #[Value.ref b] s, 600000, 7302250) l cL_law RL 4 lw_tbl room_1 := ⟨hx, hb, hml, hown, hts, rfl, hlocks, rfl, Nat.le_refl _, Nat.le_refl _⟩
  have hKy1 : va_K (z1of dC dI q8 u1).1 (z1of dC dI q8 u1).2.1 (z1of dC dI q8 u1).2.2.1 s := hKz1.sub [1, 0, 2, 3] rfl
  have hKy2 : va_K (z2of dC dI q9 u2).1 (z2of dC dI q9 u2).2.1 (z2of dC dI q9 u2).2.2.1 s := hKz2.sub [0, 1] rfl
  have hE : lE (p, l, e, room_1, s, m, #[Value.ref b], below, meth, c, lw_Z below #[Value.ref b] s, 600000, 7302250) (z1of dC dI q8 u1) (z2of dC dI q9 u2) (fun q : Nat => s.heap.size ≤ q) b L xs := ⟨⟨hKy1, hN1 (q8, u1)⟩, ⟨hKy2, fun t ht => absurd ht List.not_mem_nil⟩, hcr, hin1, hin2, hA, hX, hbl, hbA, hL⟩
  have hR : lR (p, l, e, room_1, s, m, #[Value.ref b], below, meth, c, lw_Z below #[Value.ref b] s, 600000, 7302250) := fun H locs ls pc hf hd => va_forget hf (lw_ret hx hb hr hlocks hd)
  obtain ⟨n, hn⟩ := hM xs L hL
  have hgl : gLs ls [some (.ref b), some (vr (z1of dC dI q8 u1) 0), some (vr (z2of dC dI q9 u2) 0), some (vi 0)] := by
    refine ⟨lv_sub hl [3, 2, 1, 0] rfl, fun v hv => ?_⟩
    simp only [List.mem_cons, List.not_mem_nil, or_false, Option.some.injEq] at hv
    rcases hv with rfl | rfl | rfl | rfl <;> rfl
  exact ctL_loop hC hE (fun q h => h) z1of_ok z2of_ok hR n 0 cM0 mM0 hn H _ ls ⟨hH1, hH2⟩ hS hgl
