/-! the reference's day -/
theorem zor1 {A B : Prop} {c1 c2 : Prop} [Decidable c1] [Decidable c2] (h : ¬ (c1 ∧ c2)) : (if ¬ c1 then A else if ¬ c2 then A else B) = A := by
  by_cases q : c1
  · rw [if_neg (fun z => z q), if_pos (fun z => h ⟨q, z⟩)]
  · rw [if_pos q]
theorem zor2 {A B : Prop} {c1 c2 : Prop} [Decidable c1] [Decidable c2] (h : c1 ∧ c2) : (if ¬ c1 then A else if ¬ c2 then A else B) = B := by
  rw [if_neg (fun z => z h.1), if_neg (fun z => z h.2)]
theorem zW1_o {p W : Nat → Nat → Int32} {k b h g : Nat} {good : Bool} (hg : g ≠ 9) : zit (zWr1 p k b h good) 3 W g = W g := by
  show zWr1 p k b h good 2 (zWr1 p k b h good 1 (zWr1 p k b h good 0 W)) g = _
  unfold zWr1
  rw [zu_o hg, zu_o hg, zu_o hg]
/-- what a written letter changes -/
theorem zWrite_at {p W : Nat → Nat → Int32} {k g j : Nat} (hg : g ≠ 9) : zWrite p k W g j =
    if g = 6 ∧ j = k then (if zHd W (zct (p (16 + k) 1)) = p (16 + k) 0 then 1 else 2) else
    if g = 0 ∧ j = 11 ∧ ¬ zHd W (zct (p (16 + k) 1)) = p (16 + k) 0 then W 0 11 + 1 else
    if g = 7 ∧ j = k ∧ zany (zClP p W k) k = true then 1 else
    if g = 0 ∧ j = 12 ∧ zany (zClP p W k) k = true then W 0 12 + 1 else W g j := by
  unfold zWrite
  have e1 : ∀ g, g ≠ 9 → zit (zWr1 p k (zct (p (16 + k) 0)) (zct (p (16 + k) 1)) (decide (zHd W (zct (p (16 + k) 1)) = p (16 + k) 0))) 3 W g = W g := fun g hg => zW1_o hg
  generalize zit (zWr1 p k (zct (p (16 + k) 0)) (zct (p (16 + k) 1)) (decide (zHd W (zct (p (16 + k) 1)) = p (16 + k) 0))) 3 W = V at e1 ⊢
  have e0 := e1 0 (by decide)
  have eg := e1 g hg
  rw [← e0, ← eg]
  generalize zany (zClP p W k) k = c
  unfold zWr3 zWr2
  by_cases hd : zHd W (zct (p (16 + k) 1)) = p (16 + k) 0
  · cases c
    · simp only [hd, decide_true, if_true, Bool.false_eq_true, if_false, and_false, not_true, zu_at]
    · simp only [hd, decide_true, if_true, Bool.false_eq_true, if_false, and_false, not_true, zu_at, and_true]
      by_cases h6 : g = 6 ∧ j = k
      · rw [if_pos h6, if_pos h6]
      · rw [if_neg h6, if_neg h6]
        by_cases h7 : g = 7 ∧ j = k
        · rw [if_pos h7, if_neg (by omega), if_pos h7]
        · rw [if_neg h7, if_neg (show ¬ (0 = 7 ∧ 12 = k) by omega), if_neg h7]
  · cases c
    · simp only [hd, decide_false, if_true, Bool.false_eq_true, if_false, and_false, not_true, not_false_eq_true, zu_at, and_true]
      by_cases h6 : g = 6 ∧ j = k
      · rw [if_pos h6, if_neg (by omega), if_pos h6]
      · rw [if_neg h6, if_neg h6, if_neg (show ¬ (0 = 6 ∧ 11 = k) by omega)]
    · simp only [hd, decide_false, if_true, Bool.false_eq_true, if_false, and_false, not_true, not_false_eq_true, zu_at, and_true]
      by_cases h6 : g = 6 ∧ j = k
      · rw [if_pos h6, if_neg (by omega), if_pos h6]
      · rw [if_neg h6, if_neg h6, if_neg (show ¬ (0 = 6 ∧ 11 = k) by omega), if_neg (show ¬ (True ∧ 11 = 12) by simp), if_neg (show ¬ (0 = 7 ∧ 11 = k) by omega), if_neg (show ¬ (0 = 7 ∧ 12 = k) by omega)]
        by_cases h0 : g = 0 ∧ j = 11
        · rw [if_pos h0, if_pos h0]
        · rw [if_neg h0, if_neg h0]
          by_cases h7 : g = 7 ∧ j = k
          · rw [if_pos h7, if_neg (by omega), if_pos h7]
          · rw [if_neg h7, if_neg h7]
theorem zWrite_11 {p W : Nat → Nat → Int32} {k : Nat} : zWrite p k W 0 11 = if zHd W (zct (p (16 + k) 1)) = p (16 + k) 0 then W 0 11 else W 0 11 + 1 := by
  rw [zWrite_at (by decide), if_neg (show ¬ (0 = 6 ∧ 11 = k) by omega)]
  by_cases hd : zHd W (zct (p (16 + k) 1)) = p (16 + k) 0
  · rw [if_neg (fun z => z.2.2 hd), if_pos hd, if_neg (by omega), if_neg (by omega)]
  · rw [if_pos ⟨rfl, rfl, hd⟩, if_neg hd]
theorem zWrite_6 {p W : Nat → Nat → Int32} {k : Nat} : zWrite p k W 6 k = if zHd W (zct (p (16 + k) 1)) = p (16 + k) 0 then 1 else 2 := by
  rw [zWrite_at (by decide), if_pos ⟨rfl, rfl⟩]
theorem zWrite_00 {p W : Nat → Nat → Int32} {k : Nat} : zWrite p k W 0 0 = W 0 0 := by
  rw [zWrite_at (by decide), if_neg (by omega), if_neg (by omega), if_neg (by omega), if_neg (by omega)]
theorem zLet_00 {p W : Nat → Nat → Int32} {o : Nat → Int32} {k : Nat} : zLet p o k W 0 0 = W 0 0 := by
  unfold zLet
  split
  · rfl
  · split
    · rfl
    · exact zWrite_00
/-- tenants, and the days that are left -/
def zTd (N : Nat) (W : Nat → Nat → Int32) : Prop := ∀ h, h < N → (W 3 h = -2 ∧ W 4 h = 0) ∨ ∃ t n, t < N ∧ 0 < n ∧ n < 100 ∧ W 3 h = nI t ∧ W 4 h = nI n
theorem zTd_34 {N : Nat} {V W : Nat → Nat → Int32} (h3 : V 3 = W 3) (h4 : V 4 = W 4) (hT : zTd N W) : zTd N V := fun q hq => by rw [h3, h4]; exact hT q hq
theorem zTd_ten {N : Nat} {W : Nat → Nat → Int32} (hT : zTd N W) : zTen N W := by
  intro h hh
  rcases hT h hh with q | ⟨t, n, ht, _, _, e, _⟩
  · exact Or.inl q.1
  · exact Or.inr ⟨t, ht, e⟩
section ZP
variable {d pl dr N L T s : Nat} {cp cw rp : Option Nat} {p ia W : Nat → Nat → Int32} {o : Nat → Int32} {r bn : Int32} {la : Nat → Nat → Int64} {K : Option Value → zHP → Prop}
theorem S_leasesM (hs : s < 23) (hk : zPk p N L T) (hR : zPR p ia N L T) (hO : zOp p o ia bn) (hK : ∀ ia' la', zSc ia ia' → zL7 la la' → zWP (d + 11) 185 130 [some (.ref 127), some (.int (nI s)), some (.int bn), some (.int 0), some (.int 0)] [] (zPM N s (zit (zLease p o) L W) r ia', la', zRA pl dr cp cw rp) K) : zWP (d + 11) 185 2 [some (.ref 127), some (.int (nI s)), some (.int bn), some (.int 0), none] [] (zPM N s W r ia, la, zRA pl dr cp cw rp) K := by
  obtain ⟨_, hN, eL, hL, _, _, hl, _, hlk, _⟩ := hk
  refine zlpI (fun i => ∀ ia' la', zSc ia ia' → zL7 la la' → zWP (d + 11) 185 2 [some (.ref 127), some (.int (nI s)), some (.int bn), some (.int (nI i)), none] [] (zPM N s (zit (zLease p o) i W) r ia', la', zRA pl dr cp cw rp) K) L ?_ ?_ ia la (zSc_r ia) (zL7_r la)
  · intro i hi ih ia' la' h5 h6
    obtain ⟨h, m, t, n, c, hh, hm, hne, ht, hn0, hn, hc, e0, e1, e2, e3, e4⟩ := hl i hi
    have hR' := zPR_sc h5 hR
    have hO' := zOp_sc h5 hO
    obtain ⟨w0, w1, w2, w3, w4⟩ := hR'.2.2.2.2.2.2.2.2.2.2.1 i hi
    rw [show zit (zLease p o) (i + 1) W = zLease p o i (zit (zLease p o) i W) from rfl] at ih
    generalize zit (zLease p o) i W = V at ih ⊢
    unfold zLease at ih
    simp only [e0, e1, e2, e3, e4, zct_n (show h < 100000 by omega), zct_n (show m < 100000 by omega)] at ih
    rw [b185_2, zR_127 (c := 129) (by decide), zR_127 (c := 135) (by decide), zR_127 (c := 127) (by decide), zR_127 (c := 134) (by decide), hR'.2.1, if_neg (nI_nle1 hi (by omega)), zg (by omega) (by omega), zg (by omega) (by omega), zcln (by omega), zcln (by omega), w2, e2, w1, e1, zR147, ns]
    by_cases h1 : nI t = V 0 0
    · rw [if_neg (fun q => q h1)]
      rw [if_neg (fun q => q h1)] at ih
      by_cases h2 : nI m = o 5
      · rw [zor2 ((hO'.2.2.2.1 m (by omega)).mp h2)]
        rw [if_neg (fun q => q h2)] at ih
        exact ih _ _ h5 h6
      · rw [zor1 (fun q => h2 ((hO'.2.2.2.1 m (by omega)).mpr q))]
        rw [if_pos h2] at ih
        rw [b185_51, zg (by omega) (by omega), zcln (by omega), zR_127 (c := 133) (by decide), zR_127 (c := 134) (by decide), zR_127 (c := 137) (by decide), w0, w1, w4, e0, e1, e4]
        refine S_can hlk hR' hO' hs hN hh (by omega) (fun ia2 la2 h7 h8 => ?_)
        obtain ⟨x0, x1, x2, x3, x4⟩ := (zPR_sc h7 hR').2.2.2.2.2.2.2.2.2.2.1 i hi
        rw [kS, b185_74]
        by_cases h9 : V 3 h < 0 ∧ ¬ V 1 m < zBnd p o V 0 h m (nI c)
        · rw [if_pos h9] at ih ⊢
          rw [if_neg (by decide), zg (by omega) (by omega), zcln (by omega), zR_127 (c := 133) (by decide), zR_127 (c := 134) (by decide), zR_127 (c := 136) (by decide), zR_127 (c := 137) (by decide), x0, x1, x3, x4, e0, e1, e3, e4]
          refine S_lets hlk (zPR_sc h7 hR') (zOp_sc h7 hO') hs hN hh (by omega) (fun ia3 la3 h10 h11 => ?_)
          rw [kN, b185_106, ns]
          exact ih _ _ (zSc_t h5 (zSc_t h7 h10)) (zL7_t h6 (zL7_t h8 h11))
        · rw [if_neg h9] at ih ⊢
          rw [if_pos rfl, zg (by omega) (by omega), zcln (by omega), zR149, zPM_u149, ns]
          exact ih _ _ (zSc_t h5 h7) (zL7_t h6 h8)
    · rw [if_pos h1]
      rw [if_pos h1] at ih
      exact ih _ _ h5 h6
  · intro ia' la' h5 h6
    rw [b185_2, zR_127 (c := 129) (by decide), (zPR_sc h5 hR).2.1, if_pos (nI_le1 (by omega) (by omega))]
    exact hK _ _ h5 h6
theorem S_lettersM {F : Nat} (hs : s < 23) (hk : zPk p N L T) (hR : zPR p ia N L T) (hO : zOp p o ia bn) (hF : W 0 11 = nI F) (hF2 : F < 1000) (hK : ∀ f : Int32, (f = 0 ↔ zit (zLet p o) T W 0 11 ≤ W 0 11) → zWP (d + 11) 185 130 [some (.ref 127), some (.int (nI s)), some (.int bn), some (.int f), some (.int (nI T))] [] (zPM N s (zit (zLet p o) T W) r ia, la, zRA pl dr cp cw rp) K) : zWP (d + 11) 185 130 [some (.ref 127), some (.int (nI s)), some (.int bn), some (.int 0), some (.int 0)] [] (zPM N s W r ia, la, zRA pl dr cp cw rp) K := by
  obtain ⟨_, hN, _, _, eT, hT, _, hl, hlk, _⟩ := hk
  refine zlpI (fun i => ∀ (c : Nat) (f : Int32), c ≤ i → zit (zLet p o) i W 0 11 = nI (F + c) → f = (if c = 0 then 0 else 1) → zWP (d + 11) 185 130 [some (.ref 127), some (.int (nI s)), some (.int bn), some (.int f), some (.int (nI i))] [] (zPM N s (zit (zLet p o) i W) r ia, la, zRA pl dr cp cw rp) K) T ?_ ?_ 0 0 (by omega) hF rfl
  · intro i hi ih c f hc e11 hf
    obtain ⟨b, h, t, hb, hh, ht, e0, e1, e2⟩ := hl i hi
    obtain ⟨w0, w1, w2⟩ := hR.2.2.2.2.2.2.2.2.2.2.2.1 i hi
    rw [show zit (zLet p o) (i + 1) W = zLet p o i (zit (zLet p o) i W) from rfl] at ih
    generalize zit (zLet p o) i W = V at ih e11 ⊢
    unfold zLet at ih
    rw [b185_130, zR_127 (c := 129) (by decide), zR_127 (c := 140) (by decide), zR_127 (c := 127) (by decide), zR_127 (c := 138) (by decide), hR.2.2.1, if_neg (nI_nle1 hi (by omega)), zg (by omega) (by omega), zg (by omega) (by omega), zcln (by omega), zcln (by omega), w2, w0, zR147, ns]
    by_cases h1 : p (16 + i) 2 = V 0 0
    · rw [if_neg (fun q => q h1)]
      rw [if_neg (fun q => q h1)] at ih
      by_cases h2 : p (16 + i) 0 = o 5
      · rw [zor2 (by rw [e0] at h2 ⊢; exact (hO.2.2.2.1 b (by omega)).mp h2)]
        rw [if_pos h2] at ih
        exact ih c f (by omega) e11 hf
      · rw [zor1 (fun q => h2 (by rw [e0] at q ⊢; exact (hO.2.2.2.1 b (by omega)).mpr q))]
        rw [if_neg h2] at ih
        rw [S_wrM hs hN hT hi hb hh hR e0 e1 h1, kN, b185_189, e182, b182_0, zg (by omega) (by omega), zg (by omega) (by omega), zcln (by omega), zcln (by omega), zR_127 (c := 140) (by decide), zR147, w2, zWrite_00, if_neg (fun q => q h1), m12, zg (by omega) (by omega), zcln (by omega), zR157 (by omega), zWrite_6]
        rw [zWrite_11] at ih
        by_cases h3 : zHd V (zct (p (16 + i) 1)) = p (16 + i) 0
        · rw [if_pos h3] at ih ⊢
          rw [if_pos (by decide), kS, b185_197, ns]
          refine ih c _ (by omega) e11 ?_
          rw [hf]
          by_cases hc0 : c = 0
          · rw [if_pos hc0]; rfl
          · rw [if_neg hc0]; rfl
        · rw [if_neg h3] at ih ⊢
          rw [if_neg (by decide), kS, b185_197, ns]
          refine ih (c + 1) _ (by omega) (by rw [e11, ns]; rfl) ?_
          rw [hf, if_neg (show ¬ c + 1 = 0 by omega)]
          by_cases hc0 : c = 0
          · rw [if_pos hc0]; rfl
          · rw [if_neg hc0]; rfl
    · rw [if_pos h1]
      rw [if_pos h1] at ih
      exact ih c f (by omega) e11 hf
  · intro c f hc e11 hf
    refine hK f ?_
    rw [e11, hF, hf]
    by_cases hc0 : c = 0
    · subst hc0
      rw [if_pos rfl]
      exact ⟨fun _ => nI_le1 (by omega) (by omega), fun _ => rfl⟩
    · rw [if_neg hc0]
      exact ⟨fun q => absurd q (by decide), fun q => absurd q (nI_nle1 (by omega) (by omega))⟩
theorem S_findM (hs : s < 23) (hk : zPk p N L T) (hR : zPR p ia N L T) (hO : zOp p o ia bn) (hK : ∀ ia' la', zSc ia ia' → zL7 la la' → K none (zPM N s (zit (zFind p o) T W) r ia', la', zRA pl dr cp cw rp)) : zWM (d + 10) 183 [.ref 127, .int (nI s)] (zPM N s W r ia, la, zRA pl dr cp cw rp) K := by
  obtain ⟨_, hN, _, _, eT, hT, _, hl, hlk, _⟩ := hk
  rw [e183, b183_0]
  refine zlpI (fun i => ∀ ia' la' a3 a4, zSc ia ia' → zL7 la la' → zWP (d + 10) 183 2 [some (.ref 127), some (.int (nI s)), some (.int (nI i)), a3, a4] [] (zPM N s (zit (zFind p o) i W) r ia', la', zRA pl dr cp cw rp) K) T ?_ ?_ ia la none none (zSc_r ia) (zL7_r la)
  · intro i hi ih ia' la' a3 a4 h5 h6
    obtain ⟨b, h, t, hb, hh, ht, e0, e1, e2⟩ := hl i hi
    have hR' := zPR_sc h5 hR
    have hO' := zOp_sc h5 hO
    obtain ⟨w0, w1, w2⟩ := hR'.2.2.2.2.2.2.2.2.2.2.2.1 i hi
    rw [show zit (zFind p o) (i + 1) W = zFind p o i (zit (zFind p o) i W) from rfl] at ih
    generalize zit (zFind p o) i W = V at ih ⊢
    unfold zFind at ih
    simp only [e0, e1, zct_n (show h < 100000 by omega), zct_n (show b < 100000 by omega)] at ih
    rw [b183_2, zR_127 (c := 129) (by decide), hR'.2.2.1, if_neg (nI_nle1 hi (by omega)), e182, b182_0, zg (by omega) (by omega), zg (by omega) (by omega), zcln (by omega), zcln (by omega), zR_127 (c := 140) (by decide), zR147, w2, m12, zg (by omega) (by omega), zcln (by omega), zR157 (by omega)]
    by_cases h1 : p (16 + i) 2 = V 0 0
    · rw [if_neg (fun q => q h1)]
      rw [if_neg (fun q => q h1)] at ih
      by_cases h2 : V 6 i = 2
      · rw [if_neg (fun q => q h2)]
        rw [if_neg (fun q => q h2)] at ih
        rw [kS, b183_18, if_pos (by decide), zg (by omega) (by omega), zg (by omega) (by omega), zcln (by omega), zcln (by omega), zR151, zPM_u151 (by omega), zR_127 (c := 138) (by decide), zR_127 (c := 139) (by decide), w0, w1, e0, e1, m6]
        rw [← zPM_i13 (u := zu V 8 i 1 0 13 + 1)]
        show zWM _ 175 [.ref 127, .int (nI s), .int (nI h), .int (nI b), .int 0] (zPM N s (zFn1 i V) r ia', la', zRA pl dr cp cw rp) _
        generalize hV1 : zFn1 i V = V1 at ih ⊢
        rw [S_calls hs hN hh (by omega), kN, b183_66, zR_127 (c := 127) (by decide)]
        by_cases h4 : ia' 127 49 = 4
        · have h7 : ¬ o 7 = 0 := hO'.2.1.mp h4
          rw [if_neg (fun q => q h4), b183_88, zg (by omega) (by omega), zcln (by omega), zR156 (by omega), zPM_u156 (by omega), ns]
          unfold zBnd at ih
          rw [if_pos (Or.inr ⟨rfl, h7⟩)] at ih
          refine ih _ _ _ _ h5 (zL7_t h6 (fun c c5 c6 => ?_))
          funext k
          unfold zTl
          rw [if_neg (fun z => c5 z.1)]
        · have h7 : ¬ ¬ o 7 = 0 := fun q => h4 (hO'.2.1.mpr q)
          rw [if_pos h4]
          refine S_withinM (q := 2) hlk hR' (by omega) (fun ia2 la2 h8 h9 => ?_)
          rw [kS, b183_88, zg (by omega) (by omega), zcln (by omega), zR156 (by omega), zPM_u156 (by omega), ns]
          unfold zBnd at ih
          rw [if_neg (show ¬ ((2 = 0 ∧ ¬ o 6 = 0) ∨ (2 = 2 ∧ ¬ o 7 = 0)) from fun q => q.elim (fun z => absurd z.1 (by decide)) (fun z => h7 z.2))] at ih
          exact ih _ _ _ _ (zSc_t h5 h8) (zL7_t h6 h9)
      · rw [if_pos h2]
        rw [if_pos h2] at ih
        rw [kS, b183_18, if_neg (fun q => q rfl), ns]
        exact ih _ _ _ _ h5 h6
    · rw [if_pos h1]
      rw [if_pos h1] at ih
      rw [kS, b183_18, if_neg (fun q => q rfl), ns]
      exact ih _ _ _ _ h5 h6
  · intro ia' la' a3 a4 h5 h6
    rw [b183_2, zR_127 (c := 129) (by decide), (zPR_sc h5 hR).2.2.1, if_pos (nI_le1 (by omega) (by omega))]
    exact hK _ _ h5 h6
theorem S_backM {h t : Nat} (hs : s < 23) (hlk : zLk p) (hN : N ≤ 6) (hR : zPR p ia N L T) (hO : zOp p o ia bn) (hh : h < N) (ht : t < N) (et : W 3 h = nI t) (hK : ∀ ia' la', zSc ia ia' → zL7 la la' → K none (zPM N s (zBack p o h W) r ia', la', zRA pl dr cp cw rp)) : zWM (d + 9) 184 [.ref 127, .int (nI s), .int (nI h)] (zPM N s W r ia, la, zRA pl dr cp cw rp) K := by
  rw [e184, b184_0, m6, zg (by omega) (by omega), zcln (by omega), zR153 (by omega), et, zet_n (by omega), S_calls hs hN hh (by omega), kN, b184_24, zR_127 (c := 127) (by decide), zR_127 (c := 129) (by decide), hR.2.2.2.1]
  have ew : (if ¬ ia 127 51 = -1 then zWM (d + 8) 176 [.ref 127, .int 1, .int 1000, .int (10 * ia 127 51)] (zPM N s W r ia, zTl la 145 (zNm W h t 0), zRA pl dr cp cw rp) (zK (d + 8 + 1) 184 56 [some (.ref 127), some (.int (nI s)), some (.int (nI h)), some (.int (nI (6 * s + h))), some (.int (nI t)), none, none, none] [] K) else zWM (d + 8) 176 [.ref 127, .int 1, .int 1000, .int (10 * p 28 0)] (zPM N s W r ia, zTl la 145 (zNm W h t 0), zRA pl dr cp cw rp) (zK (d + 8 + 1) 184 56 [some (.ref 127), some (.int (nI s)), some (.int (nI h)), some (.int (nI (6 * s + h))), some (.int (nI t)), none, none, none] [] K)) = zWM (d + 8) 176 [.ref 127, .int (nI 1), .int 1000, .int (10 * o 4)] (zPM N s W r ia, zTl la 145 (zNm W h t 0), zRA pl dr cp cw rp) (zK (d + 8 + 1) 184 56 [some (.ref 127), some (.int (nI s)), some (.int (nI h)), some (.int (nI (6 * s + h))), some (.int (nI t)), none, none, none] [] K) := by
    rw [hO.2.2.1]
    by_cases q : ia 127 51 = -1
    · rw [if_neg (fun z => z q), if_pos q]; rfl
    · rw [if_pos q, if_neg q]; rfl
  refine cast ew.symm ?_
  refine S_withinM (q := 1) hlk hR (by omega) (fun ia2 la2 h8 h9 => ?_)
  have hK2 := hK ia2 la2 h8 h9
  have htr := (zPR_sc h8 hR).2.2.2.2.2.2.2.2.1
  unfold zBack zBnd at hK2
  rw [et, zct_n (by omega), if_neg (fun q => q.elim (fun z => absurd z.1 (by decide)) (fun z => absurd z.1 (by decide)))] at hK2
  rw [kS, b184_56]
  replace hK2 : K none (zPM N s (zBk2 h (zit (zBk1 p h t (if zVal p (zNm W h t 0) 1 = zER then 10 * o 4 else zlcl (Int32.toInt64 1000) (zVal p (zNm W h t 0) 1))) 3 W)) r ia2, la2, zRA pl dr cp cw rp) := hK2
  generalize (if zVal p (zNm W h t 0) 1 = zER then 10 * o 4 else zlcl (Int32.toInt64 1000) (zVal p (zNm W h t 0) 1)) = turn at hK2 ⊢
  have lp : ∀ (j : Nat) (V : Nat → Nat → Int32) (a7 : Option Value), j < 3 → zWP (d + 9) 184 61 [some (.ref 127), some (.int (nI s)), some (.int (nI h)), some (.int (nI (6 * s + h))), some (.int (nI t)), some (.int turn), some (.int (nI j)), a7] [] (zPM N s V r ia2, la2, zRA pl dr cp cw rp) K = zWP (d + 9) 184 61 [some (.ref 127), some (.int (nI s)), some (.int (nI h)), some (.int (nI (6 * s + h))), some (.int (nI t)), some (.int turn), some (.int (nI (j + 1))), some (.int (V 2 (3 * h + j)))] [] (zPM N s (zBk1 p h t turn j V) r ia2, la2, zRA pl dr cp cw rp) K := by
    intro j V a7 hj
    rw [b184_61, if_neg (z3le hj), m3, m3, zg (by omega) (by omega), zg (by omega) (by omega), zcln (by omega), zcln (by omega), zR152 hh hN hj, zR_127 (c := 131) (by decide), htr _ (by omega), ns, show 3 * (6 * s + h) + j = 18 * s + (3 * h + j) by omega, zPM_u152 (by omega) hN]
    rfl
  refine Eq.mpr (lp 0 W none (by omega)) ?_
  rw [lp 1 _ _ (by omega), lp 2 _ _ (by omega)]
  rw [b184_61, if_pos (by decide), zg (by omega) (by omega), zcln (by omega), zR155 (by omega), zPM_u155 (by omega)]
  have u3 : ∀ V, zu (zPM N s V r ia2) 153 (6 * s + h) (-1) = zPM N s (zu V 3 h (-2)) r ia2 := fun V => zPM_u153 (u := -2) (by omega)
  rw [u3, zPM_u154 (by omega)]
  unfold zBk2 at hK2
  rw [zu_o (by decide), zu_o (by decide)] at hK2
  rw [zu_comm (a := 4) (c := 5) (by decide), zu_comm (a := 3) (c := 5) (by decide)] at hK2
  exact hK2
theorem zEnd1_k {i g h : Nat} (hg : g = 3 ∨ g = 4) (hh : h ≠ i) : zEnd1 p o i W g h = W g h := by
  unfold zEnd1
  split
  · rfl
  · split
    · rw [zu_k hh]
    · unfold zBack zBk2
      rw [zu_k hh, zu_k hh, zu_k hh]
      show zBk1 _ _ _ _ 2 (zBk1 _ _ _ _ 1 (zBk1 _ _ _ _ 0 _)) g h = _
      unfold zBk1
      rw [zu_o (by omega), zu_o (by omega), zu_o (by omega)]
      show zu W 4 i _ g h = _
      rw [zu_k hh]
theorem zEnds_k {g : Nat} (hg : g = 3 ∨ g = 4) : ∀ i h : Nat, i ≤ h → zit (zEnd1 p o) i W g h = W g h := by
  intro i
  induction i with
  | zero => intro h _; rfl
  | succ i ih =>
    intro h hh
    show zEnd1 p o i (zit (zEnd1 p o) i W) g h = _
    rw [zEnd1_k hg (by omega), ih h (by omega)]
theorem S_endsM {f : Int32} (hs : s < 23) (hk : zPk p N L T) (hR : zPR p ia N L T) (hO : zOp p o ia bn) (hT : zTd N W) (hK : ∀ ia' la', zSc ia ia' → zL7 la la' → K none (zPM N s (zu (zit (zEnd1 p o) N W) 0 0 (zit (zEnd1 p o) N W 0 0 + 1)) r ia', la', zRA pl dr cp cw rp)) : zWP (d + 11) 185 226 [some (.ref 127), some (.int (nI s)), some (.int bn), some (.int f), some (.int 0)] [] (zPM N s W r ia, la, zRA pl dr cp cw rp) K := by
  obtain ⟨eN, hN, _, _, _, _, _, _, hlk, _⟩ := hk
  refine zlpI (fun i => ∀ ia' la', zSc ia ia' → zL7 la la' → zWP (d + 11) 185 226 [some (.ref 127), some (.int (nI s)), some (.int bn), some (.int f), some (.int (nI i))] [] (zPM N s (zit (zEnd1 p o) i W) r ia', la', zRA pl dr cp cw rp) K) N ?_ ?_ ia la (zSc_r ia) (zL7_r la)
  · intro i hi ih ia' la' h5 h6
    have hR' := zPR_sc h5 hR
    have hO' := zOp_sc h5 hO
    have k3 := zEnds_k (p := p) (o := o) (W := W) (g := 3) (by omega) i i (by omega)
    have k4 := zEnds_k (p := p) (o := o) (W := W) (g := 4) (by omega) i i (by omega)
    rw [show zit (zEnd1 p o) (i + 1) W = zEnd1 p o i (zit (zEnd1 p o) i W) from rfl] at ih
    generalize zit (zEnd1 p o) i W = V at ih k3 k4 ⊢
    unfold zEnd1 at ih
    rw [b185_226, zR_127 (c := 129) (by decide), hR'.1, if_neg (nI_nle1 hi (by omega)), S_isLetM hs (by omega), kS, b185_244, m6, zg (by omega) (by omega), zcln (by omega), zR154 (by omega), zPM_u154 (by omega), zR154 (by omega), zu_eq, ns]
    rcases hT i hi with ⟨h3, h4⟩ | ⟨t, n, ht, hn0, hn, h3, h4⟩
    · have c : V 3 i < 0 := by rw [k3, h3]; decide
      rw [if_pos c] at ih ⊢
      rw [if_neg (fun q => q rfl)]
      exact ih _ _ h5 h6
    · have c : ¬ V 3 i < 0 := by rw [k3, h3]; exact nI_pos (by omega)
      rw [if_neg c] at ih ⊢
      rw [if_pos (by decide)]
      obtain ⟨q, rfl⟩ : ∃ q, n = q + 1 := ⟨n - 1, by omega⟩
      rw [k4, h4, np] at ih ⊢
      by_cases hq : q = 0
      · subst hq
        rw [if_neg (fun q => q rfl)]
        rw [if_neg (by decide)] at ih
        refine S_backM (t := t) hs hlk hN hR' hO' hi ht (by rw [zu_o (by decide), k3, h3]) (fun ia2 la2 h8 h9 => ?_)
        rw [kN, b185_288, ns]
        exact ih _ _ (zSc_t h5 h8) (zL7_t h6 h9)
      · rw [if_pos (qne_0 hq (by omega))]
        rw [if_pos (qgt_0 (by omega) (by omega))] at ih
        exact ih _ _ h5 h6
  · intro ia' la' h5 h6
    rw [b185_226, zR_127 (c := 129) (by decide), (zPR_sc h5 hR).1, if_pos (nI_le1 (by omega) (by omega)), zg (by omega) (by omega), zcln (by omega), zR147, zPM_u147]
    exact hK _ _ h5 h6
end ZP
