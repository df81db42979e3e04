/-! SUPERS: the rows of numbers, the pairs that are counted, what takes their place -/
/-- a number of the reference, as the program has it -/
def tld (x : Int) : Int := if 300 < x then x + 700 else x
theorem tld_lt {x y : Int} (h : x < y) : tld x < tld y := by
  unfold tld
  split <;> split <;> omega
theorem tld_inj {x y : Int} (h : tld x = tld y) : x = y := by
  rcases Int.lt_trichotomy x y with g | g | g
  · have := tld_lt g; omega
  · exact g
  · have := tld_lt g; omega
theorem tld_bd {x : Int} (h0 : 0 ≤ x) (h1 : x ≤ 500) : 0 ≤ tld x ∧ tld x ≤ 1200 := by
  unfold tld
  split <;> omega
theorem tld_z {x : Int} (h0 : 0 ≤ x) : tld x = 0 ↔ x = 0 := by
  unfold tld
  split <;> omega
theorem tld_new (k : Int) (h : 0 ≤ k) : tld (301 + k) = 1001 + k := by
  unfold tld
  rw [if_pos (by omega)]
  omega
/-- the key of a pair -/
def kk (c : Int) : Int := 2048 * tld (c / 512) + tld (c % 512)
/-- a pair's code -/
def cd (c : Int) : Prop := 1 ≤ c / 512 ∧ c / 512 ≤ 500 ∧ 1 ≤ c % 512 ∧ c % 512 ≤ 500
theorem cd_of {x y : Int} (h1 : 1 ≤ x) (h2 : x ≤ 500) (h3 : 1 ≤ y) (h4 : y ≤ 500) : cd (512 * x + y) := by
  unfold cd
  omega
theorem cd_bd {c : Int} (h : cd c) : 512 ≤ c ∧ c < 262144 := by
  unfold cd at h
  omega
theorem kk_pair {x y : Int} (h1 : 0 ≤ y) (h2 : y ≤ 500) : kk (512 * x + y) = 2048 * tld x + tld y := by
  unfold kk
  rw [show (512 * x + y) / 512 = x by omega, show (512 * x + y) % 512 = y by omega]
theorem kk_lt {c d : Int} (hc : cd c) (hd : cd d) (h : c < d) : kk c < kk d := by
  unfold cd at hc hd
  have b1 := tld_bd (x := c % 512) (by omega) (by omega)
  have b2 := tld_bd (x := d % 512) (by omega) (by omega)
  unfold kk
  rcases (by omega : c / 512 < d / 512 ∨ (c / 512 = d / 512 ∧ c % 512 < d % 512)) with a | ⟨a, b⟩
  · have := tld_lt a
    omega
  · have := tld_lt b
    rw [a]
    omega
theorem kk_inj {c d : Int} (hc : cd c) (hd : cd d) (h : kk c = kk d) : c = d := by
  rcases Int.lt_trichotomy c d with g | g | g
  · have := kk_lt hc hd g; omega
  · exact g
  · have := kk_lt hd hc g; omega
theorem kk_bd {c : Int} (hc : cd c) : 0 ≤ kk c ∧ kk c ≤ 2500000 := by
  unfold cd at hc
  have b1 := tld_bd (x := c % 512) (by omega) (by omega)
  have b2 := tld_bd (x := c / 512) (by omega) (by omega)
  unfold kk
  omega
/-- g holds the numbers of l, from i on -/
def hld (g : Int → Int) : Int → List Int → Prop
  | _, [] => True
  | i, x :: r => g i = x ∧ hld g (i + 1) r
theorem hld_app {g : Int → Int} : ∀ (a b : List Int) (i : Int), hld g i (a ++ b) ↔ hld g i a ∧ hld g (i + a.length) b
  | [], b, i => by simp [hld]
  | x :: a, b, i => by
    rw [List.cons_append, hld, hld, hld_app a b (i + 1), List.length_cons, show i + 1 + (a.length : Int) = i + ((a.length + 1 : Nat) : Int) by omega]
    exact and_assoc.symm
theorem hld_congr {g g' : Int → Int} : ∀ (l : List Int) (i : Int), (∀ j, i ≤ j → j < i + l.length → g' j = g j) → hld g i l → hld g' i l
  | [], _, _, _ => trivial
  | x :: l, i, h, ⟨h1, h2⟩ => by
    have hl : ((x :: l).length : Int) = l.length + 1 := by simp
    exact ⟨by rw [h i (by omega) (by omega)]; exact h1, hld_congr l (i + 1) (fun j a b => h j (by omega) (by omega)) h2⟩
/-- how often c stands in E -/
def cnt (c : Int) : List Int → Int
  | [] => 0
  | x :: r => (if x = c then 1 else 0) + cnt c r
theorem cnt_app (c : Int) : ∀ (a b : List Int), cnt c (a ++ b) = cnt c a + cnt c b
  | [], b => by rw [List.nil_append, cnt]; omega
  | x :: a, b => by
    rw [List.cons_append, cnt, cnt, cnt_app c a b]
    omega
theorem cnt_bd (c : Int) : ∀ (a : List Int), 0 ≤ cnt c a ∧ cnt c a ≤ a.length
  | [] => by simp [cnt]
  | x :: a => by
    have := cnt_bd c a
    rw [cnt, List.length_cons]
    split <;> omega
theorem cnt_pos {c : Int} : ∀ {a : List Int}, c ∈ a → 0 < cnt c a
  | [], h => absurd h List.not_mem_nil
  | x :: a, h => by
    have b := cnt_bd c a
    rw [cnt]
    rcases List.mem_cons.mp h with e | e
    · rw [if_pos e.symm]; omega
    · have := cnt_pos e
      split <;> omega
theorem cnt_none {c : Int} : ∀ {a : List Int}, ¬ c ∈ a → cnt c a = 0
  | [], _ => rfl
  | x :: a, h => by
    rw [cnt, cnt_none (fun g => h (List.mem_cons_of_mem _ g)), if_neg (fun e => h (by rw [e]; exact List.mem_cons_self))]
    rfl
theorem cnt_snoc (c d : Int) (a : List Int) : cnt d (a ++ [c]) = cnt d a + if c = d then 1 else 0 := by
  rw [cnt_app, cnt, cnt]
  omega
/-- the pairs that are counted; p: the pair that was counted one place ahead, or -1 -/
def evz : Int → List Int → List Int
  | _, [] => []
  | _, [_] => []
  | p, x :: y :: r => if 512 * x + y = p then evz (-1) (y :: r) else if x = 0 ∨ y = 0 then evz (512 * x + y) (y :: r) else (512 * x + y) :: evz (512 * x + y) (y :: r)
theorem evz_z : ∀ (l : List Int) (p : Int), (∀ v ∈ l, 0 ≤ v ∧ v ≤ 500) → 0 ≤ p → p < 512 → evz p l = evz (-1) l
  | [], _, _, _, _ => rfl
  | [_], _, _, _, _ => rfl
  | x :: y :: r, p, h, h1, h2 => by
    have hx := h x List.mem_cons_self
    have hy := h y (List.mem_cons_of_mem _ List.mem_cons_self)
    rw [evz, evz, if_neg (by omega : ¬ 512 * x + y = -1)]
    by_cases c : 512 * x + y = p
    · rw [if_pos c, if_pos (Or.inl (by omega))]
      exact (evz_z (y :: r) (512 * x + y) (fun v hv => h v (List.mem_cons_of_mem _ hv)) (by omega) (by omega)).symm
    · rw [if_neg c]
theorem evz_app : ∀ (l : List Int) (p : Int) (rest : List Int), (∀ v ∈ l, 1 ≤ v ∧ v ≤ 500) → (∀ v ∈ rest, 0 ≤ v ∧ v ≤ 500) → evz p (l ++ 0 :: rest) = evz p l ++ evz (-1) rest
  | [], p, [], _, _ => rfl
  | [], p, y :: r, _, h => by
    have hy := h y List.mem_cons_self
    show evz p (0 :: y :: r) = evz (-1) (y :: r)
    rw [evz]
    split
    · rfl
    · rw [if_pos (Or.inl rfl)]
      exact evz_z (y :: r) _ h (by omega) (by omega)
  | [x], p, rest, hl, h => by
    show evz p (x :: 0 :: rest) = evz (-1) rest
    rw [evz]
    split
    · exact evz_app [] (-1) rest (fun v hv => absurd hv List.not_mem_nil) h
    · rw [if_pos (Or.inr rfl)]
      exact evz_app [] _ rest (fun v hv => absurd hv List.not_mem_nil) h
  | x :: y :: r, p, rest, hl, h => by
    have hx := hl x List.mem_cons_self
    have hy := hl y (List.mem_cons_of_mem _ List.mem_cons_self)
    have ih := fun q => evz_app (y :: r) q rest (fun v hv => hl v (List.mem_cons_of_mem _ hv)) h
    show evz p (x :: y :: (r ++ 0 :: rest)) = _
    rw [evz, evz]
    split
    · exact ih (-1)
    · rw [if_neg (by omega), if_neg (by omega), List.cons_append]
      exact congrArg _ (ih _)
/-- all pairs side by side -/
def prs : List Int → List Int
  | [] => []
  | [_] => []
  | x :: y :: r => (512 * x + y) :: prs (y :: r)
theorem evz_prs : ∀ (l : List Int) (p d : Int), d ∈ evz p l → d ∈ prs l
  | [], _, _, h => absurd h List.not_mem_nil
  | [_], _, _, h => absurd h List.not_mem_nil
  | x :: y :: r, p, d, h => by
    rw [evz] at h
    rw [prs]
    split at h
    · exact List.mem_cons_of_mem _ (evz_prs (y :: r) _ d h)
    · split at h
      · exact List.mem_cons_of_mem _ (evz_prs (y :: r) _ d h)
      · rcases List.mem_cons.mp h with e | e
        · rw [e]; exact List.mem_cons_self
        · exact List.mem_cons_of_mem _ (evz_prs (y :: r) _ d e)
theorem evz_cd : ∀ (l : List Int) (p d : Int), (∀ v ∈ l, 0 ≤ v ∧ v ≤ 500) → d ∈ evz p l → cd d
  | [], _, _, _, h => absurd h List.not_mem_nil
  | [_], _, _, _, h => absurd h List.not_mem_nil
  | x :: y :: r, p, d, hl, h => by
    have hx := hl x List.mem_cons_self
    have hy := hl y (List.mem_cons_of_mem _ List.mem_cons_self)
    have ih := fun q g => evz_cd (y :: r) q d (fun v hv => hl v (List.mem_cons_of_mem _ hv)) g
    rw [evz] at h
    split at h
    · exact ih _ h
    · split at h
      · exact ih _ h
      · rename_i c
        rcases List.mem_cons.mp h with e | e
        · rw [e]; exact cd_of (by omega) (by omega) (by omega) (by omega)
        · exact ih _ e
theorem evz_len : ∀ (l : List Int) (p : Int), (evz p l).length ≤ l.length
  | [], _ => Nat.le_refl _
  | [_], _ => Nat.zero_le _
  | x :: y :: r, p => by
    have ih := fun q => evz_len (y :: r) q
    rw [evz, List.length_cons (a := x)]
    split
    · exact Nat.le_succ_of_le (ih _)
    · split
      · exact Nat.le_succ_of_le (ih _)
      · rw [List.length_cons]
        exact Nat.succ_le_succ (ih _)
/-- nw takes the place of the pair c, from the left on -/
def rp (c nw : Int) : List Int → List Int
  | [] => []
  | [x] => [x]
  | x :: y :: r => if 512 * x + y = c then nw :: rp c nw r else x :: rp c nw (y :: r)
/-- how often -/
def tms (c : Int) : List Int → Int
  | [] => 0
  | [_] => 0
  | x :: y :: r => if 512 * x + y = c then tms c r + 1 else tms c (y :: r)
theorem rp_app {c nw : Int} (hc : cd c) : ∀ (l rest : List Int), (∀ v ∈ l, 1 ≤ v ∧ v ≤ 500) → (∀ v ∈ rest, 0 ≤ v ∧ v ≤ 500) → rp c nw (l ++ 0 :: rest) = rp c nw l ++ 0 :: rp c nw rest ∧ tms c (l ++ 0 :: rest) = tms c l + tms c rest
  | [], [], _, _ => ⟨rfl, rfl⟩
  | [], y :: r, _, h => by
    have hy := h y List.mem_cons_self
    have hb := cd_bd hc
    show rp c nw (0 :: y :: r) = 0 :: rp c nw (y :: r) ∧ tms c (0 :: y :: r) = 0 + tms c (y :: r)
    rw [rp, if_neg (by omega), tms, if_neg (by omega)]
    exact ⟨rfl, (Int.zero_add _).symm⟩
  | [x], rest, hl, h => by
    have ih := rp_app hc (nw := nw) [] rest (fun v hv => absurd hv List.not_mem_nil) h
    have hx := hl x List.mem_cons_self
    have hc' : ¬ 512 * x + 0 = c := by unfold cd at hc; omega
    show rp c nw (x :: 0 :: rest) = x :: 0 :: rp c nw rest ∧ tms c (x :: 0 :: rest) = 0 + tms c rest
    rw [rp, if_neg hc', tms, if_neg hc']
    exact ⟨congrArg _ ih.1, ih.2⟩
  | x :: y :: r, rest, hl, h => by
    have i1 := rp_app hc (nw := nw) (y :: r) rest (fun v hv => hl v (List.mem_cons_of_mem _ hv)) h
    have i2 := rp_app hc (nw := nw) r rest (fun v hv => hl v (List.mem_cons_of_mem _ (List.mem_cons_of_mem _ hv))) h
    show rp c nw (x :: y :: (r ++ 0 :: rest)) = _ ∧ tms c (x :: y :: (r ++ 0 :: rest)) = _
    rw [rp, rp, tms, tms]
    by_cases e : 512 * x + y = c
    · rw [if_pos e, if_pos e, if_pos e, if_pos e, i2.1, i2.2]
      exact ⟨rfl, by omega⟩
    · rw [if_neg e, if_neg e, if_neg e, if_neg e]
      exact ⟨by rw [List.cons_append, ← i1.1]; rfl, i1.2⟩
theorem rp_mem {c nw v : Int} : ∀ (l : List Int), v ∈ rp c nw l → v ∈ l ∨ v = nw
  | [], h => Or.inl h
  | [_], h => Or.inl h
  | x :: y :: r, h => by
    rw [rp] at h
    split at h
    · rcases List.mem_cons.mp h with e | e
      · exact Or.inr e
      · rcases rp_mem r e with g | g
        · exact Or.inl (List.mem_cons_of_mem _ (List.mem_cons_of_mem _ g))
        · exact Or.inr g
    · rcases List.mem_cons.mp h with e | e
      · rw [e]; exact Or.inl List.mem_cons_self
      · rcases rp_mem (y :: r) e with g | g
        · exact Or.inl (List.mem_cons_of_mem _ g)
        · exact Or.inr g
theorem rp_len {c nw : Int} : ∀ (l : List Int), ((rp c nw l).length : Int) + tms c l = l.length ∧ 0 ≤ tms c l
  | [] => ⟨rfl, Int.le_refl _⟩
  | [_] => ⟨rfl, Int.le_refl _⟩
  | x :: y :: r => by
    have i1 := rp_len (c := c) (nw := nw) (y :: r)
    have i2 := rp_len (c := c) (nw := nw) r
    rw [rp, tms]
    simp only [List.length_cons] at i1 ⊢
    split
    · simp only [List.length_cons]; omega
    · simp only [List.length_cons]; omega
/-- the rows: none where nothing is KEPT -/
def lin : List (Option (List Int)) → List Int
  | [] => []
  | none :: r => lin r
  | some l :: r => l ++ 0 :: lin r
def evs : List (Option (List Int)) → List Int
  | [] => []
  | none :: r => evs r
  | some l :: r => evz (-1) l ++ evs r
def rpR (c nw : Int) : List (Option (List Int)) → List (Option (List Int))
  | [] => []
  | none :: r => none :: rpR c nw r
  | some l :: r => some (rp c nw l) :: rpR c nw r
def tmR (c : Int) : List (Option (List Int)) → Int
  | [] => 0
  | none :: r => tmR c r
  | some l :: r => tms c l + tmR c r
def tot : List (Option (List Int)) → Int
  | [] => 0
  | none :: r => tot r
  | some l :: r => l.length + tot r
def nkp : List (Option (List Int)) → Int
  | [] => 0
  | none :: r => nkp r
  | some _ :: r => 1 + nkp r
/-- all numbers are 1 .. b -/
def okR (b : Int) : List (Option (List Int)) → Prop
  | [] => True
  | none :: r => okR b r
  | some l :: r => (∀ v ∈ l, 1 ≤ v ∧ v ≤ b) ∧ okR b r
theorem lin_bd {b : Int} (hb : 0 ≤ b) : ∀ {R : List (Option (List Int))}, okR b R → ∀ v ∈ lin R, 0 ≤ v ∧ v ≤ b
  | [], _, v, h => absurd h List.not_mem_nil
  | none :: r, ho, v, h => lin_bd hb (R := r) ho v h
  | some l :: r, ho, v, h => by
    rcases List.mem_append.mp h with g | g
    · have := ho.1 v g; omega
    · rcases List.mem_cons.mp g with e | e
      · omega
      · exact lin_bd hb ho.2 v e
theorem evs_lin {b : Int} (hb : 0 ≤ b) (hb' : b ≤ 500) : ∀ {R : List (Option (List Int))}, okR b R → evz (-1) (lin R) = evs R
  | [], _ => rfl
  | none :: r, ho => evs_lin hb hb' (R := r) ho
  | some l :: r, ho => by
    rw [lin, evs, evz_app l (-1) (lin r) (fun v hv => by have := ho.1 v hv; omega) (fun v hv => by have := lin_bd hb ho.2 v hv; omega), evs_lin hb hb' ho.2]
theorem rp_lin {c nw b : Int} (hc : cd c) (hb : 0 ≤ b) (hb' : b ≤ 500) : ∀ {R : List (Option (List Int))}, okR b R → rp c nw (lin R) = lin (rpR c nw R) ∧ tms c (lin R) = tmR c R
  | [], _ => ⟨rfl, rfl⟩
  | none :: r, ho => rp_lin hc hb hb' (R := r) ho
  | some l :: r, ho => by
    have h1 := rp_app hc (nw := nw) l (lin r) (fun v hv => by have := ho.1 v hv; omega) (fun v hv => by have := lin_bd hb ho.2 v hv; omega)
    have h2 := rp_lin hc (nw := nw) hb hb' ho.2
    rw [lin, rpR, lin, tmR, h1.1, h1.2, h2.1, h2.2]
    exact ⟨rfl, rfl⟩
theorem okR_rp {c b : Int} : ∀ {R : List (Option (List Int))}, 0 ≤ b → okR b R → okR (b + 1) (rpR c (b + 1) R)
  | [], _, _ => trivial
  | none :: r, hb, ho => okR_rp (R := r) hb ho
  | some l :: r, hb, ho => ⟨fun v hv => by
      rcases rp_mem l hv with g | g
      · have := ho.1 v g; omega
      · omega, okR_rp hb ho.2⟩
theorem nkp_rp {c nw : Int} : ∀ (R : List (Option (List Int))), nkp (rpR c nw R) = nkp R
  | [] => rfl
  | none :: r => nkp_rp r
  | some l :: r => by rw [rpR, nkp, nkp, nkp_rp r]
theorem tot_rp {c nw : Int} : ∀ (R : List (Option (List Int))), tot (rpR c nw R) + tmR c R = tot R ∧ 0 ≤ tmR c R ∧ 0 ≤ tot (rpR c nw R)
  | [] => ⟨rfl, Int.le_refl _, Int.le_refl _⟩
  | none :: r => tot_rp r
  | some l :: r => by
    have h1 := tot_rp (c := c) (nw := nw) r
    have h2 := rp_len (c := c) (nw := nw) l
    rw [rpR, tot, tot, tmR]
    omega
theorem lin_len : ∀ (R : List (Option (List Int))), ((lin R).length : Int) = tot R + nkp R ∧ 0 ≤ tot R ∧ 0 ≤ nkp R
  | [] => ⟨rfl, Int.le_refl _, Int.le_refl _⟩
  | none :: r => lin_len r
  | some l :: r => by
    have h1 := lin_len r
    rw [lin, tot, nkp, List.length_append, List.length_cons]
    omega
theorem rpR_len {c nw : Int} : ∀ (R : List (Option (List Int))), (rpR c nw R).length = R.length
  | [] => rfl
  | none :: r => by rw [rpR, List.length_cons, List.length_cons, rpR_len r]
  | some l :: r => by rw [rpR, List.length_cons, List.length_cons, rpR_len r]
/-- the pair that is there most often, -1 where none is there twice -/
def BS (E : List Int) (c : Int) : Prop := (c = -1 ∧ ∀ d ∈ E, cnt d E ≤ 1) ∨ (c ∈ E ∧ 2 ≤ cnt c E ∧ ∀ d ∈ E, cnt d E < cnt c E ∨ (cnt d E = cnt c E ∧ c ≤ d))
theorem BS_un {E : List Int} {c d : Int} (h : BS E c) (h' : BS E d) : c = d := by
  rcases h with ⟨a1, a2⟩ | ⟨a1, a2, a3⟩ <;> rcases h' with ⟨b1, b2⟩ | ⟨b1, b2, b3⟩
  · omega
  · have := a2 d b1; omega
  · have := b2 c a1; omega
  · have := a3 d b1
    have := b3 c a1
    omega
noncomputable def bst (E : List Int) : Int := Classical.epsilon (BS E)
theorem bst_eq {E : List Int} {c : Int} (h : BS E c) : bst E = c := BS_un (Classical.epsilon_spec ⟨c, h⟩) h
/-- the rows after k new numbers -/
noncomputable def RK (R : List (Option (List Int))) : Nat → List (Option (List Int))
  | 0 => R
  | k + 1 => rpR (bst (evs (RK R k))) (301 + k) (RK R k)
noncomputable def CK (R : List (Option (List Int))) (k : Nat) : Int := bst (evs (RK R k))
noncomputable def TK (R : List (Option (List Int))) (k : Nat) : Int := tmR (CK R k) (RK R k)
theorem RK_ok {R : List (Option (List Int))} (h : okR 300 R) : ∀ k : Nat, okR (300 + k) (RK R k)
  | 0 => h
  | k + 1 => by
    have := okR_rp (c := bst (evs (RK R k))) (b := 300 + k) (by omega) (RK_ok h k)
    rw [RK, show (300 : Int) + ((k + 1 : Nat) : Int) = 300 + k + 1 by omega, show (301 : Int) + (k : Int) = 300 + k + 1 by omega]
    exact this
theorem RK_nkp (R : List (Option (List Int))) : ∀ k : Nat, nkp (RK R k) = nkp R
  | 0 => rfl
  | k + 1 => by rw [RK, nkp_rp, RK_nkp R k]
theorem RK_tot (R : List (Option (List Int))) : ∀ k : Nat, 0 ≤ tot (RK R k) ∧ tot (RK R k) ≤ tot R
  | 0 => ⟨(lin_len R).2.1, Int.le_refl _⟩
  | k + 1 => by
    have h1 := RK_tot R k
    have h2 := tot_rp (c := bst (evs (RK R k))) (nw := 301 + k) (RK R k)
    rw [RK]
    omega
theorem RK_len (R : List (Option (List Int))) : ∀ k : Nat, (RK R k).length = R.length
  | 0 => rfl
  | k + 1 => by rw [RK, rpR_len, RK_len R k]
/-- m new numbers are made -/
def FN (R : List (Option (List Int))) (m : Nat) : Prop := m ≤ 200 ∧ (∀ k, k < m → cd (CK R k)) ∧ (m = 200 ∨ CK R m = -1)
theorem FN_un {R : List (Option (List Int))} {m n : Nat} (h : FN R m) (h' : FN R n) : m = n := by
  obtain ⟨a1, a2, a3⟩ := h
  obtain ⟨b1, b2, b3⟩ := h'
  rcases Nat.lt_trichotomy m n with g | g | g
  · rcases a3 with e | e
    · omega
    · have := cd_bd (b2 m g); omega
  · exact g
  · rcases b3 with e | e
    · omega
    · have := cd_bd (a2 n g); omega
theorem evs_cd {b : Int} (hb : 0 ≤ b) (hb' : b ≤ 500) {R : List (Option (List Int))} (ho : okR b R) {d : Int} (h : d ∈ evs R) : cd d := by
  rw [← evs_lin hb hb' ho] at h
  exact evz_cd _ _ _ (fun v hv => by have := lin_bd hb ho v hv; omega) h
/-- what the code of a most frequent pair is -/
theorem CK_cd {R : List (Option (List Int))} (h : okR 300 R) {k : Nat} (hk : k ≤ 200) {c : Int} (hc : BS (evs (RK R k)) c) (h1 : c ≠ -1) : cd c := by
  rcases hc with g | g
  · exact absurd g.1 h1
  · exact evs_cd (b := 300 + k) (by omega) (by omega) (RK_ok h k) g.1
theorem tmR_bd (R : List (Option (List Int))) (c : Int) : 0 ≤ tmR c R ∧ tmR c R ≤ tot R := by
  have := tot_rp (c := c) (nw := 0) R
  omega
