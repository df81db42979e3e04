/-! the reference: the pair that is there most often -/
def rowl : Option (List Int) → List Int
  | none => []
  | some l => l
def flt : List (Option (List Int)) → List Int
  | [] => []
  | o :: r => rowl o ++ flt r
/-- where the rows end -/
def hnd (g : Int → Int) : Int → Int → List (Option (List Int)) → Prop
  | _, _, [] => True
  | f, s, o :: r => g f = s + (rowl o).length ∧ hnd g (f + 1) (s + (rowl o).length) r
def prsR : List (Option (List Int)) → List Int
  | [] => []
  | o :: r => prs (rowl o) ++ prsR r
theorem evs_c (o : Option (List Int)) (r : List (Option (List Int))) : evs (o :: r) = evz (-1) (rowl o) ++ evs r := by cases o <;> rfl
theorem tot_c (o : Option (List Int)) (r : List (Option (List Int))) : tot (o :: r) = (rowl o).length + tot r := by
  cases o
  · rw [tot, rowl, List.length_nil]; omega
  · rfl
theorem okR_c {b : Int} {o : Option (List Int)} {r : List (Option (List Int))} (h : okR b (o :: r)) : (∀ v ∈ rowl o, 1 ≤ v ∧ v ≤ b) ∧ okR b r := by
  cases o
  · exact ⟨fun v hv => absurd hv List.not_mem_nil, h⟩
  · exact h
theorem okR_le {b b' : Int} (hb : b ≤ b') : ∀ {R : List (Option (List Int))}, okR b R → okR b' R
  | [], _ => trivial
  | none :: r, h => okR_le hb (R := r) h
  | some l :: r, h => ⟨fun v hv => by have := h.1 v hv; omega, okR_le hb h.2⟩
theorem flt_len : ∀ (R : List (Option (List Int))), ((flt R).length : Int) = tot R
  | [] => rfl
  | o :: r => by
    have := flt_len r
    rw [flt, tot_c, List.length_append]
    omega
theorem flt_app : ∀ (A B : List (Option (List Int))), flt (A ++ B) = flt A ++ flt B
  | [], _ => rfl
  | o :: A, B => by rw [List.cons_append, flt, flt, flt_app A B, List.append_assoc]
theorem hnd_app {g : Int → Int} : ∀ (A B : List (Option (List Int))) (f s : Int), hnd g f s (A ++ B) ↔ hnd g f s A ∧ hnd g (f + A.length) (s + (flt A).length) B
  | [], B, f, s => by simp [hnd, flt]
  | o :: A, B, f, s => by
    rw [List.cons_append, hnd, hnd, hnd_app A B (f + 1), flt, List.length_cons, List.length_append, show f + 1 + (A.length : Int) = f + ((A.length + 1 : Nat) : Int) by omega, show s + ((rowl o).length : Int) + ((flt A).length : Int) = s + (((rowl o).length + (flt A).length : Nat) : Int) by omega]
    exact and_assoc.symm
theorem hnd_congr {g g' : Int → Int} : ∀ (R : List (Option (List Int))) (f s : Int), (∀ j, f ≤ j → j < f + R.length → g' j = g j) → hnd g f s R → hnd g' f s R
  | [], _, _, _, _ => trivial
  | o :: r, f, s, h, ⟨h1, h2⟩ => by
    have hl : ((o :: r).length : Int) = r.length + 1 := by simp
    exact ⟨by rw [h f (by omega) (by omega)]; exact h1, hnd_congr r (f + 1) _ (fun j a b => h j (by omega) (by omega)) h2⟩
theorem hnd_last {g : Int → Int} : ∀ (R : List (Option (List Int))) (f s : Int), R ≠ [] → hnd g f s R → g (f + R.length - 1) = s + tot R
  | [], _, _, h, _ => absurd rfl h
  | [o], f, s, _, h => by
    rw [tot_c, List.length_singleton, show f + ((1 : Nat) : Int) - 1 = f by omega, h.1, tot]
    omega
  | o :: o' :: r, f, s, _, h => by
    have := hnd_last (o' :: r) (f + 1) _ (by simp) h.2
    rw [tot_c, List.length_cons, show f + (((o' :: r).length + 1 : Nat) : Int) - 1 = f + 1 + ((o' :: r).length : Int) - 1 by omega, this]
    omega
theorem sp_zeroL {x3 : Int} {K : gMem → Prop} {Q : Int → gMem → Prop} (h3 : 0 ≤ x3 ∧ x3 < 8) : ∀ (n : Nat) (l : List Int) (x4 : Int) (M : gMem), l.length < n → hld (M 24) x4 l → (∀ v ∈ l, 1 ≤ v ∧ v ≤ 500) → 0 ≤ x4 → M 25 x3 = x4 + l.length → x4 + l.length ≤ 4800 →
    (∀ M2 : gMem, (∀ k, k ≠ 26 → k ≠ 27 → M2 k = M k) → (∀ c, (M 26 c = 0 ∧ M 27 c = -1) ∨ c ∈ prs l → M2 26 c = 0 ∧ M2 27 c = -1) → K M2) → fX9_mostOften_L15 x3 n x4 M K Q := by
  intro n
  induction n with
  | zero => intro l x4 M h; omega
  | succ n ih =>
    intro l x4 M hn hh hv h0 he hm hK
    have fin : ¬ x4 + 1 < M 25 x3 → prs l = [] → fX9_mostOften_L15 x3 (n + 1) x4 M K Q := fun g e => by
      refine ⟨h3, ⟨by omega, by omega⟩, ⟨by omega, by omega⟩, fun g' => absurd g' g, fun _ => hK M (fun k _ _ => rfl) (fun c h => ?_)⟩
      rcases h with h | h
      · exact h
      · rw [e] at h; exact absurd h List.not_mem_nil
    rcases l with - | ⟨x, - | ⟨y, r⟩⟩
    · rw [List.length_nil] at he
      exact fin (by omega) rfl
    · rw [List.length_singleton] at he
      exact fin (by omega) rfl
    · obtain ⟨a1, a2, a3⟩ := hh
      have hx := hv x List.mem_cons_self
      have hy := hv y (List.mem_cons_of_mem _ List.mem_cons_self)
      rw [List.length_cons, List.length_cons] at he hm hn
      rw [fX9_mostOften_L15, show M 24 x4 = x from a1, show M 24 (x4 + 1) = y from a2]
      refine ⟨h3, ⟨by omega, by omega⟩, ⟨by omega, by omega⟩, fun _ => ⟨by omega, by omega, by omega, fun M1 m1 => ⟨by omega, fun M2 m2 => ?_⟩⟩, fun g => by omega⟩
      have eo : ∀ k, k ≠ 26 → k ≠ 27 → M2 k = M k := fun k a b => by rw [m2, gSt_ne _ _ _ _ _ b, m1, gSt_ne _ _ _ _ _ a]
      have e26 : ∀ c, M2 26 c = if c = 512 * x + y then 0 else M 26 c := fun c => by rw [m2, gSt_ne _ _ _ _ _ (by decide), m1, gSt_at]
      have e27 : ∀ c, M2 27 c = if c = 512 * x + y then -1 else M 27 c := fun c => by rw [m2, gSt_at, m1, gSt_ne _ _ _ _ 27 (by decide)]
      refine ih (y :: r) (x4 + 1) M2 (by rw [List.length_cons]; omega) (by rw [eo 24 (by decide) (by decide)]; exact ⟨a2, a3⟩) (fun v h => hv v (List.mem_cons_of_mem _ h)) (by omega) (by rw [eo 25 (by decide) (by decide), List.length_cons]; omega) (by rw [List.length_cons]; omega) (fun M3 f1 f2 => hK M3 (fun k a b => by rw [f1 k a b, eo k a b]) (fun c h => f2 c ?_))
      rw [e26, e27]
      by_cases q : c = 512 * x + y
      · rw [if_pos q, if_pos q]; exact Or.inl ⟨rfl, rfl⟩
      · rw [if_neg q, if_neg q]
        rcases h with h | h
        · exact Or.inl h
        · rw [prs] at h
          rcases List.mem_cons.mp h with e | e
          · exact absurd e q
          · exact Or.inr e
theorem sp_zero {K : gMem → Prop} {Q : Int → gMem → Prop} : ∀ (n : Nat) (R : List (Option (List Int))) (f s : Int) (M : gMem), R.length < n → 0 ≤ f → f + R.length = 8 → hld (M 24) s (flt R) → hnd (M 25) f s R → okR 500 R → 0 ≤ s → s + tot R ≤ 4800 →
    (∀ M2 : gMem, (∀ k, k ≠ 26 → k ≠ 27 → M2 k = M k) → (∀ c, (M 26 c = 0 ∧ M 27 c = -1) ∨ c ∈ prsR R → M2 26 c = 0 ∧ M2 27 c = -1) → K M2) → fX9_mostOften_L6 n s f M K Q := by
  intro n
  induction n with
  | zero => intro R f s M h; omega
  | succ n ih =>
    intro R f s M hn h0 hf hh he hok hs hm hK
    rcases R with - | ⟨o, r⟩
    · rw [List.length_nil] at hf
      refine ⟨⟨by omega, by omega⟩, fun g => by omega, fun _ => hK M (fun k _ _ => rfl) (fun c h => ?_)⟩
      rcases h with h | h
      · exact h
      · exact absurd h List.not_mem_nil
    · obtain ⟨e1, e2⟩ := he
      obtain ⟨o1, o2⟩ := okR_c hok
      rw [flt, hld_app] at hh
      rw [tot_c] at hm
      rw [List.length_cons] at hf hn
      have ht := (lin_len r).2.1
      refine ⟨⟨by omega, by omega⟩, fun _ => ⟨(rowl o).length + 1, ?_⟩, fun g => by omega⟩
      refine sp_zeroL (by omega) _ (rowl o) s M (by omega) hh.1 o1 hs e1 (by omega) (fun M2 f1 f2 => ⟨by omega, ?_⟩)
      have c25 : M2 25 = M 25 := f1 25 (by decide) (by decide)
      rw [c25, e1]
      refine ih r (f + 1) _ M2 (by omega) (by omega) (by omega) (by rw [f1 24 (by decide) (by decide)]; exact hh.2) (by rw [c25]; exact e2) o2 (by omega) (by omega) (fun M3 g1 g2 => hK M3 (fun k a b => by rw [g1 k a b, f1 k a b]) (fun c h => g2 c ?_))
      rcases h with h | h
      · exact Or.inl (f2 c (Or.inl h))
      · rw [prsR] at h
        rcases List.mem_append.mp h with q | q
        · exact Or.inl (f2 c (Or.inr q))
        · exact Or.inr q
/-! one pair more -/
theorem sn_ne {E : List Int} {c d : Int} (h : d ≠ c) : cnt d (E ++ [c]) = cnt d E := by
  rw [cnt_snoc, if_neg (fun e => h e.symm)]
  omega
theorem sn_mem {E : List Int} {c d : Int} (h : d ∈ E ++ [c]) : d = c ∨ d ∈ E := by
  rcases List.mem_append.mp h with g | g
  · exact Or.inr g
  · exact Or.inl (List.mem_singleton.mp g)
theorem sn_eq (E : List Int) (c : Int) : cnt c (E ++ [c]) = cnt c E + 1 := by rw [cnt_snoc, if_pos rfl]
theorem BS_toC {E : List Int} {c : Int} (h2 : 1 < cnt c (E ++ [c])) (h : ∀ d, d ∈ E → d ≠ c → cnt d E < cnt c (E ++ [c]) ∨ (cnt d E = cnt c (E ++ [c]) ∧ c ≤ d)) : BS (E ++ [c]) c := by
  refine Or.inr ⟨List.mem_append_right _ List.mem_cons_self, by omega, fun d hd => ?_⟩
  by_cases e : d = c
  · rw [e]; exact Or.inr ⟨rfl, Int.le_refl _⟩
  · rcases sn_mem hd with g | g
    · exact absurd g e
    · rw [sn_ne e]; exact h d g e
theorem BS_keep {E : List Int} {c x : Int} (hx : x ∈ E) (h2 : 2 ≤ cnt x E) (h : ∀ d ∈ E, cnt d E < cnt x E ∨ (cnt d E = cnt x E ∧ x ≤ d)) (h1 : cnt c (E ++ [c]) < cnt x (E ++ [c]) ∨ (cnt c (E ++ [c]) = cnt x (E ++ [c]) ∧ x ≤ c)) : BS (E ++ [c]) x := by
  have hle : cnt x E ≤ cnt x (E ++ [c]) := by
    rw [cnt_snoc]
    split <;> omega
  refine Or.inr ⟨List.mem_append_left _ hx, by omega, fun d hd => ?_⟩
  by_cases e : d = c
  · rw [e]; exact h1
  · rcases sn_mem hd with g | g
    · exact absurd g e
    · rw [sn_ne e]
      have := h d g
      omega
theorem sp_bestL {x3 : Int} {S : Int → Prop} {K : Int → gMem → Prop} {Q : Int → gMem → Prop} (h3 : 0 ≤ x3 ∧ x3 < 8) (hS : ∀ c, S c → 0 ≤ c ∧ c < 262144) : ∀ (n : Nat) (l : List Int) (x1 x4 p : Int) (M : gMem) (E : List Int), l.length < n → hld (M 24) x4 l → (∀ v ∈ l, 1 ≤ v ∧ v ≤ 500) → 0 ≤ x4 → M 25 x3 = x4 + l.length → x4 + l.length ≤ 4800 → (∀ c ∈ prs l, S c) →
    (∀ c, S c → M 26 c = cnt c E) → (∀ d ∈ E, S d) → (E.length : Int) ≤ x4 → (∀ c, S c → -1 ≤ M 27 c ∧ M 27 c < x4 ∧ ((M 27 c ≠ -1 ∧ M 27 c = x4 - 1) ↔ c = p)) → (l = [] → p = -1) → BS E x1 →
    (∀ (x1' : Int) (M2 : gMem), (∀ k, k ≠ 26 → k ≠ 27 → M2 k = M k) → (∀ c, S c → M2 26 c = cnt c (E ++ evz p l)) → (∀ d ∈ E ++ evz p l, S d) → ((E ++ evz p l).length : Int) ≤ x4 + l.length → (∀ c, S c → M2 27 c = -1 ∨ (0 ≤ M2 27 c ∧ M2 27 c < x4 + l.length - 1)) → BS (E ++ evz p l) x1' → K x1' M2) → fX9_mostOften_L97 x3 n x1 x4 M K Q := by
  intro n
  induction n with
  | zero => intro l x1 x4 p M E h; omega
  | succ n ih =>
    intro l x1 x4 p M E hn hh hv h0 he hm hpr h26 hES hEl h27 hp hB hK
    have fin : ¬ x4 + 1 < M 25 x3 → evz p l = [] → (∀ c, S c → M 27 c = -1 ∨ (0 ≤ M 27 c ∧ M 27 c < x4 + l.length - 1)) → fX9_mostOften_L97 x3 (n + 1) x1 x4 M K Q := fun g e h => by
      refine ⟨h3, ⟨by omega, by omega⟩, ⟨by omega, by omega⟩, fun g' => absurd g' g, fun _ => hK x1 M (fun k _ _ => rfl) ?_ ?_ ?_ h ?_⟩
      · rw [e, List.append_nil]; exact h26
      · rw [e, List.append_nil]; exact hES
      · rw [e, List.append_nil]; omega
      · rw [e, List.append_nil]; exact hB
    rcases l with - | ⟨x, - | ⟨y, r⟩⟩
    · rw [List.length_nil] at he
      refine fin (by omega) rfl (fun c hc => ?_)
      have := h27 c hc
      have hc0 := (hS c hc).1
      have hpm := hp rfl
      rw [List.length_nil]
      by_cases q : M 27 c = -1
      · exact Or.inl q
      · refine Or.inr ⟨by omega, ?_⟩
        have nq : ¬ M 27 c = x4 - 1 := fun h => by
          have := this.2.2.mp ⟨q, h⟩
          omega
        omega
    · rw [List.length_singleton] at he
      refine fin (by omega) rfl (fun c hc => ?_)
      have := h27 c hc
      rw [List.length_singleton]
      omega
    · obtain ⟨a1, a2, a3⟩ := hh
      have hx := hv x List.mem_cons_self
      have hy := hv y (List.mem_cons_of_mem _ List.mem_cons_self)
      have hv' : ∀ v ∈ y :: r, 1 ≤ v ∧ v ≤ 500 := fun v h => hv v (List.mem_cons_of_mem _ h)
      have hpr' : ∀ c ∈ prs (y :: r), S c := fun c h => hpr c (by rw [prs]; exact List.mem_cons_of_mem _ h)
      have hSc : S (512 * x + y) := hpr _ (by rw [prs]; exact List.mem_cons_self)
      rw [List.length_cons, List.length_cons] at he hm hn
      have hcd := cd_of hx.1 hx.2 hy.1 hy.2
      have hcb := cd_bd hcd
      rw [fX9_mostOften_L97, show M 24 x4 = x from a1, show M 24 (x4 + 1) = y from a2]
      have hnz : ¬ (x = 0 ∨ y = 0) := by omega
      generalize hc : 512 * x + y = c at *
      have h27c := h27 c hSc
      have ev1 : c = p → evz p (x :: y :: r) = evz (-1) (y :: r) := fun e => by rw [evz, if_pos (by rw [hc]; exact e)]
      have ev2 : ¬ c = p → evz p (x :: y :: r) = c :: evz c (y :: r) := fun e => by rw [evz, if_neg (by rw [hc]; exact e), if_neg hnz, hc]
      have go : ¬ c = p → fX9_mostOften_J159 x3 x1 x4 c M (fun x1_55 x4_56 M_57 => fX9_mostOften_L97 x3 n x1_55 x4_56 M_57 K Q) Q := by
        intro hne
        refine ⟨by omega, fun M1 m1 => ⟨by omega, by omega, fun M2 m2 => ⟨by omega, ?_⟩⟩⟩
        have e1 : M1 26 c = cnt c E := by rw [m1, gSt_ne _ _ _ _ _ (by decide)]; exact h26 c hSc
        rw [e1] at m2
        have eo : ∀ k, k ≠ 26 → k ≠ 27 → M2 k = M k := fun k a b => by rw [m2, gSt_ne _ _ _ _ _ a, m1, gSt_ne _ _ _ _ _ b]
        have e26 : ∀ d, S d → M2 26 d = cnt d (E ++ [c]) := fun d hd => by
          rw [m2, gSt_at]
          by_cases q : d = c
          · rw [if_pos q, q, sn_eq]
          · rw [if_neg q, sn_ne q, m1, gSt_ne _ _ _ _ _ (by decide)]; exact h26 d hd
        have e27 : ∀ d, M2 27 d = if d = c then x4 else M 27 d := fun d => by rw [m2, gSt_ne _ _ _ _ _ (by decide), m1, gSt_at]
        have nx : ∀ x1', BS (E ++ [c]) x1' → fX9_mostOften_L97 x3 n x1' (x4 + 1) M2 K Q := by
          intro x1' hB'
          refine ih (y :: r) x1' (x4 + 1) c M2 (E ++ [c]) (by rw [List.length_cons]; omega) (by rw [eo 24 (by decide) (by decide)]; exact ⟨a2, a3⟩) hv' (by omega) (by rw [eo 25 (by decide) (by decide), List.length_cons]; omega) (by rw [List.length_cons]; omega) hpr' e26 (fun d hd => ?_) (by rw [List.length_append, List.length_singleton]; omega) (fun d hd => ?_) (fun h => by simp at h) hB' (fun x1'' M3 f1 f2 f3 f4 f5 f6 => ?_)
          · rcases sn_mem hd with g | g
            · rw [g]; exact hSc
            · exact hES d g
          · have q27 := h27 d hd
            rw [e27]
            by_cases q : d = c
            · rw [if_pos q]
              exact ⟨by omega, by omega, fun _ => q, fun _ => ⟨by omega, by omega⟩⟩
            · rw [if_neg q]
              exact ⟨by omega, by omega, fun h => by omega, fun h => absurd h q⟩
          · rw [List.append_assoc] at f2 f3 f4 f6
            refine hK x1'' M3 (fun k a b => by rw [f1 k a b, eo k a b]) ?_ ?_ ?_ (fun d hd => ?_) ?_
            · rw [ev2 hne]; exact f2
            · rw [ev2 hne]; exact f3
            · rw [ev2 hne]
              have f4' : ((E ++ c :: evz c (y :: r)).length : Int) ≤ x4 + 1 + ((y :: r).length : Int) := f4
              rw [List.length_cons (as := y :: r)]
              omega
            · have := f5 d hd
              rw [List.length_cons (as := y :: r)]
              omega
            · rw [ev2 hne]; exact f6
        have rcn : ∀ d, rg (cnt d (E ++ [c])) := fun d => by
          have := cnt_bd d (E ++ [c])
          rw [List.length_append, List.length_singleton] at this
          exact ⟨by omega, by omega⟩
        rw [e26 c hSc]
        refine ⟨rcn c, fun h1 => ?_, fun h1 => nx x1 ?_⟩
        · have rx1 : rg x1 := by
            rcases hB with ⟨b1, -⟩ | ⟨b1, -⟩
            · rw [b1]; exact rg_m1
            · have := hS x1 (hES x1 b1); exact ⟨by omega, by omega⟩
          refine ⟨rx1, fun hz => nx c ?_, fun hnz => ?_⟩
          · rcases hB with ⟨b1, b2⟩ | ⟨b1, -⟩
            · exact BS_toC h1 (fun d hd _ => by have := b2 d hd; omega)
            · have := hS x1 (hES x1 b1); omega
          · rcases hB with ⟨b1, -⟩ | ⟨b1, b2, b3⟩
            · exact absurd b1 hnz
            · have hSx := hES x1 b1
              have hxb := hS x1 hSx
              rw [e26 x1 hSx]
              refine ⟨by omega, by omega, rcn c, rcn x1, fun hlt => nx c (BS_toC h1 (fun d hd hdc => ?_)), fun hge => ⟨by omega, by omega, rcn c, rcn x1, fun heq => ⟨⟨by omega, by omega⟩, rx1, fun hcx => nx c (BS_toC h1 (fun d hd hdc => ?_)), fun hcx => nx x1 (BS_keep b1 b2 b3 (Or.inr ⟨heq, by omega⟩))⟩, fun hneq => nx x1 (BS_keep b1 b2 b3 (Or.inl (by omega)))⟩⟩
              · have := b3 d hd
                by_cases q : x1 = c
                · rw [q] at hlt; omega
                · rw [sn_ne q] at hlt; omega
              · have := b3 d hd
                have q : x1 ≠ c := by omega
                rw [sn_ne q] at heq
                omega
        · have hc1 := sn_eq E c
          have hcb' := cnt_bd c E
          rcases hB with ⟨b1, b2⟩ | ⟨b1, b2, b3⟩
          · refine Or.inl ⟨b1, fun d hd => ?_⟩
            by_cases q : d = c
            · rw [q]; omega
            · rw [sn_ne q]
              rcases sn_mem hd with g | g
              · exact absurd g q
              · exact b2 d g
          · refine BS_keep b1 b2 b3 (Or.inl ?_)
            have q : x1 ≠ c := fun e => by rw [e] at b2; omega
            rw [sn_ne q]
            omega
      refine ⟨h3, ⟨by omega, by omega⟩, ⟨by omega, by omega⟩, fun _ => ⟨by omega, by omega, ?_⟩, fun g => by omega⟩
      show (0 ≤ (512 * x + y) ∧ (512 * x + y) < 262144) ∧ _
      rw [hc]
      refine ⟨by omega, ⟨by omega, by omega⟩, fun hz => go (fun e => ?_), fun hnz' => ⟨by omega, ⟨by omega, by omega⟩, ⟨by omega, by omega⟩, fun heq => ?_, fun hneq => go (fun e => ?_)⟩⟩
      · exact (h27c.2.2.mpr e).1 hz
      · have ec : c = p := h27c.2.2.mp ⟨hnz', heq⟩
        refine ih (y :: r) x1 (x4 + 1) (-1) M E (by rw [List.length_cons]; omega) ⟨a2, a3⟩ hv' (by omega) (by rw [List.length_cons]; omega) (by rw [List.length_cons]; omega) hpr' h26 hES (by omega) (fun d hd => ?_) (fun h => by simp at h) hB (fun x1'' M3 f1 f2 f3 f4 f5 f6 => ?_)
        · have q27 := h27 d hd
          have qd := hS d hd
          exact ⟨by omega, by omega, fun h => by omega, fun h => by omega⟩
        · refine hK x1'' M3 f1 ?_ ?_ ?_ (fun d hd => ?_) ?_
          · rw [ev1 ec]; exact f2
          · rw [ev1 ec]; exact f3
          · rw [ev1 ec, List.length_cons (as := y :: r)]; omega
          · have := f5 d hd
            rw [List.length_cons (as := y :: r)]
            omega
          · rw [ev1 ec]; exact f6
      · exact hneq (h27c.2.2.mpr e).2
theorem sp_bestR {S : Int → Prop} {Q : Int → gMem → Prop} (hS : ∀ c, S c → 0 ≤ c ∧ c < 262144) : ∀ (n : Nat) (R : List (Option (List Int))) (f s x1 : Int) (M : gMem) (E : List Int), R.length < n → 0 ≤ f → f + R.length = 8 → hld (M 24) s (flt R) → hnd (M 25) f s R → okR 500 R → 0 ≤ s → s + tot R ≤ 4800 → (∀ c ∈ prsR R, S c) →
    (∀ c, S c → M 26 c = cnt c E) → (∀ d ∈ E, S d) → (E.length : Int) ≤ s → (∀ c, S c → M 27 c = -1 ∨ (0 ≤ M 27 c ∧ M 27 c < s - 1)) → BS E x1 →
    (∀ (x1' : Int) (M2 : gMem), (∀ k, k ≠ 26 → k ≠ 27 → M2 k = M k) → BS (E ++ evs R) x1' → Q x1' M2) → fX9_mostOften_L88 n x1 s f M Q := by
  intro n
  induction n with
  | zero => intro R f s x1 M E h; omega
  | succ n ih =>
    intro R f s x1 M E hn h0 hf hh he hok hs hm hpr h26 hES hEl h27 hB hQ
    rcases R with - | ⟨o, r⟩
    · rw [List.length_nil] at hf
      refine ⟨⟨by omega, by omega⟩, fun g => by omega, fun _ => hQ x1 M (fun k _ _ => rfl) ?_⟩
      rw [evs, List.append_nil]
      exact hB
    · obtain ⟨e1, e2⟩ := he
      obtain ⟨o1, o2⟩ := okR_c hok
      rw [flt, hld_app] at hh
      rw [tot_c] at hm
      rw [List.length_cons] at hf hn
      have ht := (lin_len r).2.1
      refine ⟨⟨by omega, by omega⟩, fun _ => ⟨(rowl o).length + 1, ?_⟩, fun g => by omega⟩
      refine sp_bestL (by omega) hS _ (rowl o) x1 s (-1) M E (by omega) hh.1 o1 hs e1 (by omega) (fun c hc => hpr c (by rw [prsR]; exact List.mem_append_left _ hc)) h26 hES hEl (fun c hc => ?_) (fun _ => rfl) hB (fun x1' M2 f1 f2 f3 f4 f5 f6 => ⟨by omega, ?_⟩)
      · have := h27 c hc
        have := hS c hc
        exact ⟨by omega, by omega, fun h => by omega, fun h => by omega⟩
      · have c25 : M2 25 = M 25 := f1 25 (by decide) (by decide)
        rw [c25, e1]
        refine ih r (f + 1) _ x1' M2 _ (by omega) (by omega) (by omega) (by rw [f1 24 (by decide) (by decide)]; exact hh.2) (by rw [c25]; exact e2) o2 (by omega) (by omega) (fun c hc => hpr c (by rw [prsR]; exact List.mem_append_right _ hc)) f2 f3 f4 f5 f6 (fun x1'' M3 g1 g2 => hQ x1'' M3 (fun k a b => by rw [g1 k a b, f1 k a b]) ?_)
        rw [evs_c, ← List.append_assoc]
        exact g2
theorem prs_bd : ∀ (l : List Int) (c : Int), (∀ v ∈ l, 1 ≤ v ∧ v ≤ 500) → c ∈ prs l → 0 ≤ c ∧ c < 262144
  | [], _, _, h => absurd h List.not_mem_nil
  | [_], _, _, h => absurd h List.not_mem_nil
  | x :: y :: r, c, hl, h => by
    have hx := hl x List.mem_cons_self
    have hy := hl y (List.mem_cons_of_mem _ List.mem_cons_self)
    rw [prs] at h
    rcases List.mem_cons.mp h with e | e
    · omega
    · exact prs_bd (y :: r) c (fun v hv => hl v (List.mem_cons_of_mem _ hv)) e
theorem prsR_bd : ∀ {R : List (Option (List Int))} {c : Int}, okR 500 R → c ∈ prsR R → 0 ≤ c ∧ c < 262144
  | [], _, _, h => absurd h List.not_mem_nil
  | o :: r, c, hok, h => by
    obtain ⟨o1, o2⟩ := okR_c hok
    rw [prsR] at h
    rcases List.mem_append.mp h with q | q
    · exact prs_bd _ _ o1 q
    · exact prsR_bd o2 q
theorem sp_most {R : List (Option (List Int))} {M : gMem} {Q : Int → gMem → Prop} (hl : R.length = 8) (hok : okR 500 R) (ht : tot R ≤ 4800) (hh : hld (M 24) 0 (flt R)) (he : hnd (M 25) 0 0 R)
    (hQ : ∀ (c : Int) (M2 : gMem), (∀ k, k ≠ 26 → k ≠ 27 → M2 k = M k) → BS (evs R) c → Q c M2) : fX9_mostOften M Q := by
  refine ⟨9, sp_zero 9 R 0 0 M (by omega) (by omega) (by omega) hh he hok (by omega) (by omega) (fun M1 f1 f2 => ⟨9, ?_⟩)⟩
  refine sp_bestR (S := fun c => c ∈ prsR R) (fun c hc => prsR_bd hok hc) 9 R 0 0 (-1) M1 [] (by omega) (by omega) (by omega) (by rw [f1 24 (by decide) (by decide)]; exact hh) (by rw [f1 25 (by decide) (by decide)]; exact he) hok (by omega) (by omega) (fun c hc => hc) (fun c hc => (f2 c (Or.inr hc)).1) (fun d hd => absurd hd List.not_mem_nil) (by simp) (fun c hc => Or.inl (f2 c (Or.inr hc)).2) (Or.inl ⟨rfl, fun d hd => absurd hd List.not_mem_nil⟩) (fun x1' M2 g1 g2 => hQ x1' M2 (fun k a b => by rw [g1 k a b, f1 k a b]) ?_)
  rw [List.nil_append] at g2
  exact g2
