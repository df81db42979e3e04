theorem sm_keep {t : Nat} {M N : gMem} {x1 x2 : Int} (hI : Inv t M N) (ht : t ≤ 511) (r1 : rg x1) (r2 : rg x2) {K : gMem → gMem → Prop} (hK : ∀ M1 N1, Inv (t + 1) M1 N1 → K M1 N1) :
    fX8_keep x1 x2 M (fun r1 M1 => fX9_keep x1 x2 N (fun r2 N1 => rg r1 ∧ r1 = r2 ∧ K M1 N1)) := by sorry
theorem sm_supers {t : Nat} {M N : gMem} (hI : Inv t M N) (ht : t ≤ 511) {K : gMem → gMem → Prop} (hK : ∀ M1 N1, Inv (t + 1) M1 N1 → K M1 N1) :
    fX8_supers  M (fun r1 M1 => fX9_supers  N (fun r2 N1 => rg r1 ∧ r1 = r2 ∧ K M1 N1)) := by sorry
