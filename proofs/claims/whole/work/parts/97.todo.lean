theorem sm_supers {t : Nat} {M N : gMem} (hI : Inv t M N) (ht : t ≤ 511) {K : gMem → gMem → Prop} (hK : ∀ M1 N1, Inv (t + 1) M1 N1 → K M1 N1) :
    fX8_supers  M (fun r1 M1 => fX9_supers  N (fun r2 N1 => rg r1 ∧ r1 = r2 ∧ K M1 N1)) := by sorry
