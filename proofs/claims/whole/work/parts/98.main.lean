theorem bz_01 (v : Int) : bz v = 0 ∨ bz v = 1 := by
  unfold bz
  split
  · exact Or.inl rfl
  · exact Or.inr rfl
set_option maxRecDepth 100000 in
theorem law_all {xs : Nat → Int32} {Ln : Nat} (hL : Ln ≤ 4096) : ∀ (fuel t : Nat) (M N : gMem), Inv t M N → t ≤ 512 → 512 - t < fuel → fL_loop xs Ln fuel (8 * t) M N := by
  intro fuel
  induction fuel with
  | zero => intro t M N _ _ h; omega
  | succ fuel ih =>
    intro t M N hI h1 h2
    refine ⟨by omega, by omega, fun hx => ?_⟩
    have ht : t ≤ 511 := by omega
    have hK : ∀ M1 N1, Inv (t + 1) M1 N1 → fL_loop xs Ln fuel (8 * t + 8) M1 N1 := fun M1 N1 h => by
      have := ih (t + 1) M1 N1 h (by omega) (by omega)
      rw [show (8 : Int) * ((t + 1 : Nat) : Int) = 8 * t + 8 by omega] at this
      exact this
    refine ⟨?_, ?_, ?_, ?_, ?_, ?_, ?_, ?_, ?_, ?_, ?_, ?_, ?_, ?_, ?_, ?_, ?_, ?_, ?_, ?_, ?_, ?_, ?_, ?_, ?_, ?_, ?_⟩
    · exact fun _ => sm_feed hI ht (lSc_rg _ _) (lSc_rg _ _) (lSc_rg _ _) (lSc_rg _ _) (lSc_rg _ _) hK
    · exact fun _ => sm_end hI ht (lSc_rg _ _) hK
    · exact fun _ => sm_edit hI ht (lSc_rg _ _) (lSc_rg _ _) (lSc_rg _ _) hK
    · exact fun _ => sm_sow hI ht (lSc_rg _ _) (lSc_rg _ _) (lSc_rg _ _) (lSc_rg _ _) hK
    · exact fun _ => sm_copy hI ht (lSc_rg _ _) (lSc_rg _ _) hK
    · exact fun _ => sm_at hI ht (lSc_rg _ _) (lSc_rg _ _) hK
    · exact fun _ => sm_fixed hI ht (lSc_rg _ _) (lSc_rg _ _) hK
    · exact fun _ => sm_rolling hI ht (lSc_rg _ _) (bz_01 _) (lSc_rg _ _) (lSc_rg _ _) (lSc_rg _ _) (lSc_rg _ _) (lSc_rg _ _) hK
    · exact fun _ => sm_told hI ht (lSc_rg _ _) (lSc_rg _ _) (lSc_rg _ _) (lSc_rg _ _) hK
    · exact fun _ => sm_sum hI ht (lSc_rg _ _) (lSc_rg _ _) (lSc_rg _ _) hK
    · exact fun _ => sm_cuts hI ht (lSc_rg _ _) (lSc_rg _ _) hK
    · exact fun _ => sm_cut hI ht (lSc_rg _ _) (lSc_rg _ _) (lSc_rg _ _) hK
    · exact fun _ => sm_agree hI ht (lSc_rg _ _) (lSc_rg _ _) (lSc_rg _ _) hK
    · exact fun _ => sm_sent hI ht (lSc_rg _ _) (lSc_rg _ _) (lSc_rg _ _) hK
    · exact fun _ => sm_cost hI ht (lSc_rg _ _) (lSc_rg _ _) hK
    · exact fun _ => sm_best hI ht (lSc_rg _ _) hK
    · exact fun _ => sm_keep hI ht (lSc_rg _ _) (lSc_rg _ _) hK
    · exact fun _ => sm_drop hI ht (lSc_rg _ _) hK
    · exact fun _ => sm_bring hI ht (lSc_rg _ _) hK
    · exact fun _ => sm_jumps hI ht (lSc_rg _ _) hK
    · exact fun _ => sm_number hI ht (lSc_rg _ _) (lSc_rg _ _) hK
    · exact fun _ => sm_piece hI ht (lSc_rg _ _) (lSc_rg _ _) hK
    · exact fun _ => sm_count hI ht (lSc_rg _ _) hK
    · exact fun _ => sm_prices hI ht (lSc_rg _ _) (lSc_rg _ _) hK
    · exact fun _ => sm_supers hI ht  hK
    · exact fun _ => sm_pair hI ht (lSc_rg _ _) (lSc_rg _ _) hK
    · exact fun _ => hK _ _ hI.next
theorem math_main : ∀ (xs : Nat → Int32) (Ln : Nat), Ln ≤ 4096 → ∃ n, fL_loop xs Ln n 0 cM0 mM0 := fun xs Ln hL => ⟨600, law_all hL 600 0 cM0 mM0 Inv_0 (by omega) (by omega)⟩
