/-! days of the reference -/
section ZP
variable {d pl dr N L T D s : Nat} {cp cw rp : Option Nat} {p ia W V : Nat → Nat → Int32} {o : Nat → Int32} {r bn : Int32} {la : Nat → Nat → Int64} {K : Option Value → zHP → Prop}
theorem zLeases_id (hk : zPk p N L T) (hD : 99 < D) (hD2 : D < 20000) (h0 : W 0 0 = nI D) : ∀ i : Nat, i ≤ L → zit (zLease p o) i W = W := by
  intro i
  induction i with
  | zero => intro _; rfl
  | succ i ih =>
    intro hi
    show zLease p o i (zit (zLease p o) i W) = W
    rw [ih (by omega)]
    obtain ⟨h, m, t, n, c, hh, hm, hne, ht, hn0, hn, hc, e0, e1, e2, e3, e4⟩ := hk.2.2.2.2.2.2.1 i (by omega)
    unfold zLease
    rw [if_pos]
    rw [e2, h0]
    intro q
    have := (nI_eq (by omega) (by omega)).mp q
    omega
theorem zLets_id (hk : zPk p N L T) (hD : 99 < D) (hD2 : D < 20000) (h0 : W 0 0 = nI D) : ∀ i : Nat, i ≤ T → zit (zLet p o) i W = W := by
  intro i
  induction i with
  | zero => intro _; rfl
  | succ i ih =>
    intro hi
    show zLet p o i (zit (zLet p o) i W) = W
    rw [ih (by omega)]
    obtain ⟨b, h, t, hb, hh, ht, e0, e1, e2⟩ := hk.2.2.2.2.2.2.2.1 i (by omega)
    unfold zLet
    rw [if_pos]
    rw [e2, h0]
    intro q
    have := (nI_eq (by omega) (by omega)).mp q
    omega
theorem S_passes (hs : s < 23) (hk : zPk p N L T) (hR : zPR p ia N L T) (hO : zOp p o ia bn) (hD : D < 20000) (hW : zWf p N T D W) (hK : ∀ ia' la' r', zSc ia ia' → zL7 la la' → r'.toInt64 = (zDay p o W r.toInt64).2 → K none (zPM N s (zDay p o W r.toInt64).1 r' ia', la', zRA pl dr cp cw rp)) : zWM (d + 11) 185 [.ref 127, .int (nI s), .int bn] (zPM N s W r ia, la, zRA pl dr cp cw rp) K := by
  have eN : zct (p 0 1) = N := by rw [hk.1]; exact zct_n (by have := hk.2.1; omega)
  have eL : zct (p 0 2) = L := by rw [hk.2.2.1]; exact zct_n (by have := hk.2.2.2.1; omega)
  have eT : zct (p 0 3) = T := by rw [hk.2.2.2.2.1]; exact zct_n (by have := hk.2.2.2.2.2.1; omega)
  have hT12 : T ≤ 12 := hk.2.2.2.2.2.1
  unfold zDay at hK
  dsimp only at hK
  rw [eN] at hK
  have mid := zMid_wf (o := o) hk hD hW (r := r.toInt64)
  have fin : ∀ ia2 la2 r2 f2 V, zSc ia ia2 → zL7 la la2 → r2.toInt64 = (zMid p o W r.toInt64).2 → V = (zMid p o W r.toInt64).1 → zWP (d + 11) 185 226 [some (.ref 127), some (.int (nI s)), some (.int bn), some (.int f2), some (.int 0)] [] (zPM N s V r2 ia2, la2, zRA pl dr cp cw rp) K := by
    intro ia2 la2 r2 f2 V h1 h2 h3 h4
    subst h4
    refine S_endsM hs hk (zPR_sc h1 hR) (zOp_sc h1 hO) mid.1.2.1 (fun ia3 la3 h5 h6 => ?_)
    exact hK ia3 la3 r2 (zSc_t h1 h5) (zL7_t h2 h6) h3
  rw [e185, b185_0]
  refine S_leasesM hs hk hR hO (fun ia1 la1 h1 h2 => ?_)
  have w1 : zWf p N T D (zit (zLease p o) L W) := zit_wf (fun _ V => zWf p N T D V) (fun k V hkL h => zWf_lease hk hkL h) hW
  refine S_lettersM hs hk (zPR_sc h1 hR) (zOp_sc h1 hO) w1.2.1.2.1 (by have := zcnt_le (fun k => decide (zit (zLease p o) L W 6 k = 2)) 12; omega) (fun f hf => ?_)
  rw [b185_130, zR_127 (c := 129) (by decide), (zPR_sc h1 hR).2.2.1, if_pos (nI_le1 (by omega) (by omega))]
  unfold zMid at fin
  rw [eL, eT] at fin
  by_cases hD9 : 99 < D
  · have h9 : 99 < W 0 0 := by rw [hW.1.1]; exact nI_lt (a := 99) hD9 (by omega)
    rw [if_pos h9] at fin
    rw [zLeases_id hk hD9 hD hW.1.1 L (by omega), zLets_id hk hD9 hD hW.1.1 T (by omega)] at hf ⊢
    rw [if_pos (hf.mpr (Int32.le_refl _))]
    exact fin _ _ _ _ _ h1 h2 rfl rfl
  · have h9 : ¬ 99 < W 0 0 := by rw [hW.1.1]; exact nI_nlt (a := 99) (by omega) (by omega)
    rw [if_neg h9] at fin
    generalize zit (zLet p o) T (zit (zLease p o) L W) = V2 at fin hf ⊢
    by_cases hf0 : f = 0
    · rw [if_pos hf0]
      rw [if_pos (hf.mp hf0)] at fin
      exact fin _ _ _ _ _ h1 h2 rfl rfl
    · rw [if_neg hf0]
      rw [if_neg (fun q => hf0 (hf.mpr q))] at fin
      refine S_bank hs (zPR_sc h1 hR) hk (zOp_sc h1 hO) (fun r2 hr2 _ => ?_)
      rw [kS, b185_215]
      by_cases hb : (zBk p o r.toInt64).1 = 0
      · rw [if_pos hb] at fin ⊢
        exact fin _ _ _ _ _ h1 h2 hr2 rfl
      · rw [if_neg hb] at fin ⊢
        refine S_findM hs hk (zPR_sc h1 hR) (zOp_sc h1 hO) (fun ia3 la3 h5 h6 => ?_)
        rw [kN, b185_223]
        exact fin _ _ _ _ _ (zSc_t h1 h5) (zL7_t h2 h6) hr2 rfl
theorem S_goesOn {n : Nat} (hn : n < 100000) (hk : zPk p N L T) (hR : zPR p ia N L T) (hO : zOp p o ia 0) (ho : ∃ a, a ≤ 100 ∧ o 4 = nI a) (hD : D + n ≤ 20000) (hW : zWf p N T D W) (hK : ∀ ia' la' r', zSc ia ia' → zL7 la la' → r'.toInt64 = (zDays p o n W r.toInt64).2 → K none (zPM N 1 (zDays p o n W r.toInt64).1 r' ia', la', zRA pl dr cp cw rp)) : zWM (d + 12) 186 [.ref 127, .int (nI n)] (zPM N 1 W r ia, la, zRA pl dr cp cw rp) K := by
  rw [e186, b186_0]
  refine zlpI (fun i => ∀ ia' la' r', zSc ia ia' → zL7 la la' → r'.toInt64 = (zDays p o i W r.toInt64).2 → zWP (d + 12) 186 2 [some (.ref 127), some (.int (nI n)), some (.int (nI i))] [] (zPM N 1 (zDays p o i W r.toInt64).1 r' ia', la', zRA pl dr cp cw rp) K) n ?_ ?_ ia la r (zSc_r ia) (zL7_r la) rfl
  · intro i hi ih ia' la' r' h1 h2 h3
    rw [b186_2, if_neg (nI_nle1 (by omega) (by omega))]
    refine S_passes (s := 1) (D := D + i) (by omega) hk (zPR_sc h1 hR) (zOp_sc h1 hO) (by omega) (zDays_wf hk ho hW i (by omega)) (fun ia2 la2 r2 h4 h5 h6 => ?_)
    rw [kN, b186_13, ns]
    rw [h3] at h6 ⊢
    exact ih ia2 la2 r2 (zSc_t h1 h4) (zL7_t h2 h5) h6
  · intro ia' la' r' h1 h2 h3
    rw [b186_2, if_pos (nI_le1 (by omega) (by omega))]
    exact hK ia' la' r' h1 h2 h3
end ZP
