/-! go and ahead -/
theorem zi64 {a b : Int32} (h : a.toInt64 = b.toInt64) : a = b := by
  have := congrArg Int64.toInt32 h
  rwa [lg_l2i_i2l, lg_l2i_i2l] at this
theorem zinx {x : Int32} {n : Nat} (h0 : ¬ x < 0) (M : Int32) (hM : M.toInt = (n : Int)) (h : x ≤ M) : ∃ j, j ≤ n ∧ x = nI j := nI_of2 hM h0 h
section ZP
variable {d pl dr N L T D s w : Nat} {cp cw rp : Option Nat} {p ia W V : Nat → Nat → Int32} {o : Nat → Int32} {r q bn x y : Int32} {la : Nat → Nat → Int64} {K : Option Value → zHP → Prop}
theorem S_goL {n : Nat} (hn : n < 100000) (hk : zPk p N L T) (hR : zPR p ia N L T) (hO : zOp p o ia 1) (ho : ∃ a, a ≤ 100 ∧ o 4 = nI a) (hD : D + n ≤ 20000) (hW : zWf p N T D W) (hK : ∀ ia' la' r', zSc ia ia' → zL7 la la' → r'.toInt64 = (zDays p o n W r.toInt64).2 → K (some (.int ((zDays p o n W r.toInt64).1 0 0))) (zPM N 0 (zDays p o n W r.toInt64).1 r' ia', la', zRA pl dr cp cw rp)) : zWP (d + 12) 201 43 [some (.ref 127), some (.int (nI n)), some (.int 0)] [] (zPM N 0 W r ia, la, zRA pl dr cp cw rp) K := by
  refine zlpI (fun i => ∀ ia' la' r', zSc ia ia' → zL7 la la' → r'.toInt64 = (zDays p o i W r.toInt64).2 → zWP (d + 12) 201 43 [some (.ref 127), some (.int (nI n)), some (.int (nI i))] [] (zPM N 0 (zDays p o i W r.toInt64).1 r' ia', la', zRA pl dr cp cw rp) K) n ?_ ?_ ia la r (zSc_r ia) (zL7_r la) rfl
  · intro i hi ih ia' la' r' h1 h2 h3
    rw [b201_43, if_neg (nI_nle1 (by omega) (by omega))]
    refine S_passes (s := 0) (bn := 1) (D := D + i) (by omega) hk (zPR_sc h1 hR) (zOp_sc h1 hO) (by omega) (zDays_wf hk ho hW i (by omega)) (fun ia2 la2 r2 h4 h5 h6 => ?_)
    rw [kN, b201_54, ns]
    rw [h3] at h6 ⊢
    exact ih ia2 la2 r2 (zSc_t h1 h4) (zL7_t h2 h5) h6
  · intro ia' la' r' h1 h2 h3
    rw [b201_43, if_pos (nI_le1 (by omega) (by omega))]
    have e : zPM N 0 (zDays p o n W r.toInt64).1 r' ia' 147 0 = (zDays p o n W r.toInt64).1 0 0 := zR147 (s := 0)
    rw [e]
    exact hK ia' la' r' h1 h2 h3
end ZP
theorem T_go {d pl dr : Nat} {cp cw rp : Option Nat} {ia : Nat → Nat → Int32} {la : Nat → Nat → Int64} {Kc : Option Value → zHP → Prop} {Km : Option Value → Option Value → zHP → Prop} {x1 : Int32} (hI : zInv pl dr ia la) (hc : ∀ v hp, zWM (d + 400) 201 [.ref 127, .int x1] hp (Km v) → Kc v hp) (hm : zEndK ia Km) : zWM (d + 400) 91 [.ref 0, .int x1] (ia, la, zRA pl dr cp cw rp) Kc := by
  have fin := zfin hI hm
  obtain ⟨i1, i2, i3, i4, i5, i6, i7, p, N, L, T, D, W, r, hC, hM, hDe, hNo⟩ := hI
  have hN6 : N ≤ 6 := hC.2.1.2.1
  have hT12 : T ≤ 12 := hC.2.1.2.2.2.2.2.1
  have hR := hC.2.2.1
  have hf := zC_f hC
  have pll := zIsP_lt i1
  have fin2 : ∀ v v2 : Option Value, v2 = v → Km v v2 (zu ia 127 0 0, la, zRA pl dr cp cw rp) := fun v v2 e => fin v v2 _ _ _ _ _ (zFr_0 zFr_r) e
  have eD : W 0 0 = nI D := hf.1.1
  have hD98 : D ≤ 9800 := hC.2.2.2.1
  have pre : ∀ (K : Option Value → zHP → Prop) (sa : Nat → Nat → Int32) (lb : Nat → Nat → Int64) cp cw, zHas N 0 W r sa → zWM (d + 400) 201 [.ref 127, .int x1] (sa, lb, zRA pl dr cp cw rp) K = (if x1 < 0 then K (some (.int (-1))) (zu sa 127 0 0, lb, zRA pl dr cp cw rp) else if 200 < x1 then K (some (.int (-1))) (zu sa 127 0 0, lb, zRA pl dr cp cw rp) else if nI D + x1 ≤ 9800 then (if x1 ≤ 0 then zWP (d + 400) 201 43 [some (.ref 127), some (.int x1), some (.int 0)] [] (zu sa 127 0 0, lb, zRA pl dr cp cw rp) K else zWP (d + 400) 201 43 [some (.ref 127), some (.int x1), some (.int 0)] [] (zu (zu sa 127 0 0) 127 48 0, lb, zRA pl dr cp cw rp) K) else K (some (.int (-1))) (zu sa 127 0 0, lb, zRA pl dr cp cw rp)) := by
    intro K sa lb cp cw hs
    rw [e201, b201_0, zu_o (by decide), hs.1, eD]
  rw [e91, b91_0, show ia 72 = W 0 from zC_W hC (g := 0) (by omega), eD]
  by_cases c1 : x1 < 0
  · rw [if_pos c1]
    refine hc _ _ ?_
    rw [pre _ _ _ _ _ (zC_0 hC), if_pos c1]
    exact fin2 _ _ rfl
  rw [if_neg c1]
  by_cases c2 : 200 < x1
  · rw [if_pos c2]
    refine hc _ _ ?_
    rw [pre _ _ _ _ _ (zC_0 hC), if_neg c1, if_pos c2]
    exact fin2 _ _ rfl
  rw [if_neg c2]
  by_cases c3 : nI D + x1 ≤ 9800
  case neg =>
    rw [if_neg c3]
    refine hc _ _ ?_
    rw [pre _ _ _ _ _ (zC_0 hC), if_neg c1, if_neg c2, if_neg c3]
    exact fin2 _ _ rfl
  rw [if_pos c3]
  obtain ⟨n, hn, rfl⟩ := zinx (n := 200) c1 200 (by decide) (Int32.not_lt.mp c2)
  have hDn : D + n ≤ 9800 := by
    rw [nI_add] at c3
    exact (nI_leI (b := 9800) (by omega) (by omega)).mp c3
  refine S_cbeg i1 (Or.inl rfl) (fun ia1 f0 f3 f4 f5 f6 f7 => ?_)
  have hP : ∀ g, g < 33 → (fun g => ia1 (pl + g)) g = p g := fun g hg => by show ia1 (pl + g) = p g; rw [f0 _ (by omega)]; exact hC.1 g hg
  have hPk := zPk_e hP hC.2.1
  have hW1 : ∀ g, g < 10 → ia1 (72 + g) = W g := fun g hg => by rw [f0 _ (by omega)]; exact zC_W hC hg
  have o4 : ia1 102 4 = ia1 (pl + 28) 0 := by rw [f4, f0 _ (by omega)]
  have ho : ∃ a, a ≤ 100 ∧ ia1 102 4 = nI a := by rw [o4]; exact hPk.2.2.2.2.2.2.2.2.2.1
  have hfP := zWf_e hP hf
  rw [kN, b91_44]
  refine S_play2 (w := 72) (W := W) (by omega) (Or.inl rfl) i1 hW1 hPk (zTd_ten hf.1.2.1) (fun la2 h5 h6 => ?_)
  have el : la 72 1 = r.toInt64 := hC.2.2.2.2.2.2.2.1
  rw [el] at h6 ⊢
  have hVf : zWf p N T (D + n) (zDays (fun g => ia1 (pl + g)) (ia1 102) n W r.toInt64).1 := zWf_e (fun g hg => (hP g hg).symm) (zDays_wf hPk ho hfP n (by omega))
  generalize hV : zDays (fun g => ia1 (pl + g)) (ia1 102) n W r.toInt64 = V at h6 hVf ⊢
  have l82 : la2 82 = la 82 := h5 82 (by decide) (by decide) (by decide)
  have sa_o : ∀ c, c < 72 ∨ 82 ≤ c → c ≠ 102 → zPW 72 V.1 ia1 c = ia c := fun c e1 e2 => by rw [zPW_o (by omega), f0 c e2]
  have hasx : ∀ ta : Nat → Nat → Int32, (∀ c, 147 ≤ c → ta c = ia c) → ∀ s (A : Nat → Nat → Int32) (q : Int32), zHas N s A q ia → zHas N s A q ta := fun ta hta s A q h => zHas_in (fun c k hc => by
    have : 147 ≤ c := by rcases hc with q | q | q | q | q <;> omega
    rw [hta c this]) h
  have loop : ∀ (ta : Nat → Nat → Int32) cp cw (K : Option Value → zHP → Prop), (∀ c, 129 ≤ c → ta c = ia c) → ta 127 49 = 0 → ta 127 50 = -1 → ta 127 51 = -1 → (∀ ua lu r', zSc ta ua → zL7 la2 lu → r'.toInt64 = V.2 → K (some (.int (V.1 0 0))) (zPM N 0 V.1 r' ua, lu, zRA pl dr cp cw rp)) → zWP (d + 400) 201 43 [some (.ref 127), some (.int (nI n)), some (.int 0)] [] (ta, la2, zRA pl dr cp cw rp) K := by
    intro ta cp cw K q1 q2 q3 q4 q5
    have hs := hasx ta (fun c hc => q1 c (by omega)) 0 W r (zC_0 hC)
    have e := S_goL (d := d + 388) (pl := pl) (dr := dr) (cp := cp) (cw := cw) (rp := rp) (K := K) (la := la2) (ia := ta) (W := W) (r := r) (n := n) (D := D) (by omega) hPk (zPR_i (fun c h1 h2 => q1 c h1) (zPR_e hP hC.2.1 hR)) (zOp_b (b := 0) f3 o4 f5 f6 f7 q2 q3 q4 ⟨fun q => absurd q (by decide), fun _ => rfl⟩) ho (by omega) hfP
    rw [zHas_eq hs, hV] at e
    exact e q5
  rw [kN, b91_52, show zPW 72 V.1 ia1 72 = V.1 0 from zPW_0]
  by_cases hn0 : n = 0
  · subst hn0
    have eV : V = (W, r.toInt64) := hV.symm
    subst eV
    dsimp only at *
    rw [if_pos (show nI 0 ≤ 0 by decide), zPW_id hW1]
    refine hc _ _ ?_
    rw [pre _ _ _ _ _ (hasx ia1 (fun c hc => f0 c (by omega)) 0 W r (zC_0 hC)), if_neg c1, if_neg c2, if_pos c3, if_pos (show nI 0 ≤ 0 by decide)]
    refine loop (zu ia1 127 0 0) _ _ _ (fun c hc => by rw [zu_o (by omega), f0 c (by omega)]) (by rw [zu_k (by decide), f0 _ (by decide)]; exact hC.2.2.2.2.2.2.2.2.1) (by rw [zu_k (by decide), f0 _ (by decide)]; exact hC.2.2.2.2.2.2.2.2.2.1) (by rw [zu_k (by decide), f0 _ (by decide)]; exact hC.2.2.2.2.2.2.2.2.2.2) (fun ua lu r' h7 h8 h9 => ?_)
    have er := zi64 h9
    subst er
    have hsu : zHas N 0 W r' ua := zHas_sc h7 (hasx (zu ia1 127 0 0) (fun c hc => by rw [zu_o (by omega), f0 c (by omega)]) 0 W r' (zC_0 hC))
    rw [zHas_eq hsu]
    have hF : zFG (fun g => g = 0) ia ua := by
      obtain ⟨x, rfl⟩ := h7
      refine zFG_u rfl (zFG_u rfl (fun c k q => ?_))
      by_cases e : c = 102
      · subst e; exact absurd rfl q
      · rw [f0 c e]
    refine hm _ _ _ _ _ _ _ _ (zInv_mk i1 i2 i3 (zTx_e hF (by decide) ⟨i4, i5, i6, i7⟩) (zCore_p i1 hF (by decide) hC hC.2.2.2.1 (fun g hg => ?_) hf hsu ?_) (zImg_e hF (by decide) ?_ hM) (zDeed_e hF (by decide) hDe) (zNote_e hF (by decide) hNo)) (zFG_9 hF (by decide)).1 (zFG_9 hF (by decide)).2
    · rw [zSc_c h7 (by omega), zu_o (by omega)]; exact hW1 g hg
    · rw [h8 72 (by decide) (by decide)]; exact h6
    · rw [h8 82 (by decide) (by decide), l82]
  · rw [if_neg (show ¬ nI n ≤ 0 from qnle_0 (by omega) (by omega)), e11, b11_0, kN, b91_63, zu_o (by decide), show zPW 72 V.1 ia1 72 = V.1 0 from zPW_0]
    refine hc _ _ ?_
    have sb_o : ∀ c, 114 ≤ c → zu (zPW 72 V.1 ia1) 113 2 0 c = ia c := fun c e => by rw [zu_o (by omega), sa_o c (by omega) (by omega)]
    rw [pre _ _ _ _ _ (hasx _ (fun c hc => sb_o c (by omega)) 0 W r (zC_0 hC)), if_neg c1, if_neg c2, if_pos c3, if_neg (show ¬ nI n ≤ 0 from qnle_0 (by omega) (by omega))]
    refine loop (zu (zu (zu (zPW 72 V.1 ia1) 113 2 0) 127 0 0) 127 48 0) _ _ _ (fun c hc => by rw [zu_o (by omega), zu_o (by omega), sb_o c (by omega)]) (by rw [zu_k (by decide), zu_k (by decide), sb_o _ (by decide)]; exact hC.2.2.2.2.2.2.2.2.1) (by rw [zu_k (by decide), zu_k (by decide), sb_o _ (by decide)]; exact hC.2.2.2.2.2.2.2.2.2.1) (by rw [zu_k (by decide), zu_k (by decide), sb_o _ (by decide)]; exact hC.2.2.2.2.2.2.2.2.2.2) (fun ua lu r' h7 h8 h9 => ?_)
    have hF : zFG (fun g => g = 0 ∨ g = 3 ∨ g = 5) ia (zPM N 0 V.1 r' ua) := by
      obtain ⟨x, rfl⟩ := h7
      refine zFG_PM (Or.inr (Or.inl rfl)) (zFG_u (Or.inl rfl) (zFG_u (Or.inr (Or.inr rfl)) (zFG_u (Or.inl rfl) (zFG_u (Or.inr (Or.inr rfl)) (zFG_PW (fun c k h1 h2 => Or.inr (Or.inl (zgr_3 h1 (by omega)))) (fun c k q => ?_))))))
      by_cases e : c = 102
      · subst e; exact absurd (Or.inl rfl) q
      · rw [f0 c e]
    have low : ∀ c, c < 127 → zPM N 0 V.1 r' ua c = zu (zPW 72 V.1 ia1) 113 2 0 c := fun c hc => by rw [zPM_o (by omega), zSc_c h7 (by omega), zu_o (by omega), zu_o (by omega)]
    obtain ⟨dm, nx, Ws, d1, d2, d3, d4, d5, d6, d7⟩ := hDe
    refine hm _ _ _ _ _ _ _ _ (zInv_mk i1 i2 i3 (zTx_e hF (by decide) ⟨i4, i5, i6, i7⟩) (zCore_p i1 hF (by decide) hC hDn (fun g hg => ?_) hVf zHas_M ?_) (zImg_e hF (by decide) ?_ hM) ⟨0, nx, fun _ => V.1, by omega, d2, ?_, ?_, ?_, rfl, fun i hi => by omega⟩ (zNote_e hF (by decide) hNo)) (zFG_9 hF (by decide)).1 (zFG_9 hF (by decide)).2
    · rw [low _ (by omega), zu_o (by omega), zPW_g hg]
    · rw [h8 72 (by decide) (by decide), h6, h9]
    · rw [h8 82 (by decide) (by decide), l82]
    · rw [low _ (by omega), zu_k (by omega), zPW_o (by omega), f0 _ (by decide)]; exact d3
    · rw [low _ (by omega), zu_eq]; rfl
    · rw [zPM_o (by omega), zSc_k h7 (by decide), zu_eq]; rfl
section ZP
variable {d pl dr N L T D s w : Nat} {cp cw rp : Option Nat} {p ia W V : Nat → Nat → Int32} {o : Nat → Int32} {r q bn x y : Int32} {la : Nat → Nat → Int64} {K : Option Value → zHP → Prop}
theorem S_forg1 (hs : s < 23) (hT : T ≤ 12) (hH : zHas N s W r ia) (hR : zPR p ia N L T) (hf : zWf p N T D W) : zWM d 187 [.ref 127, .int (nI s), .int (-1)] (ia, la, zRA pl dr cp cw rp) K = K (some (.int (W 0 11))) (ia, la, zRA pl dr cp cw rp) := by
  rw [S_forgM hs hT hH hR, zcS_n, hf.2.1.2.1]
  have e : zcnt (fun k => decide ((-1 = (-1 : Int32) ∨ p (16 + k) 0 = -1) ∧ W 6 k = 2)) T = zcnt (fun k => decide (W 6 k = 2)) 12 := by
    rw [zcnt_m2 (a := T) (b := 12) hT (fun i h1 h2 => ?_)]
    · apply zcnt_ext
      intro i hi
      simp
    · rcases (hf.2.1.1 i h2).1 with q | ⟨_, q, _⟩
      · rw [q]; rfl
      · omega
  rw [e]
theorem S_bits7 (hH : zHas N s W r ia) (hf : zWf p N T D W) : zWM d 174 [.int (ia 150 s)] (ia, la, zRA pl dr cp cw rp) K = K (some (.int (W 0 12))) (ia, la, zRA pl dr cp cw rp) := by
  rw [hH.2.2.2.1, S_bits, hf.2.1.2.2]
theorem S_bits8 (hH : zHas N s W r ia) (hf : zWf p N T D W) : zWM d 174 [.int (ia 151 s)] (ia, la, zRA pl dr cp cw rp) K = K (some (.int (W 0 13))) (ia, la, zRA pl dr cp cw rp) := by
  rw [hH.2.2.2.2.1, S_bits, hf.2.2.2]
end ZP
theorem T_ahead {d pl dr : Nat} {cp cw rp : Option Nat} {ia : Nat → Nat → Int32} {la : Nat → Nat → Int64} {Kc : Option Value → zHP → Prop} {Km : Option Value → Option Value → zHP → Prop} {x1 x2 x3 : Int32} (hI : zInv pl dr ia la) (hc : ∀ v hp, zWM (d + 400) 202 [.ref 127, .int x1, .int x2, .int x3] hp (Km v) → Kc v hp) (hm : zEndK ia Km) : zWM (d + 400) 93 [.ref 0, .int x1, .int x2, .int x3] (ia, la, zRA pl dr cp cw rp) Kc := by
  have fin := zfin hI hm
  obtain ⟨i1, i2, i3, i4, i5, i6, i7, p, N, L, T, D, W, r, hC, hM, hDe, hNo⟩ := hI
  have hN6 : N ≤ 6 := hC.2.1.2.1
  have hT12 : T ≤ 12 := hC.2.1.2.2.2.2.2.1
  have hR := hC.2.2.1
  have hf := zC_f hC
  have pll := zIsP_lt i1
  have hR2 : zPR p (zu ia 127 0 0) N L T := zPR_i (fun c h1 h2 => zu_o (by omega)) hR
  have fin2 : ∀ v v2 : Option Value, v2 = v → Km v v2 (zu ia 127 0 0, la, zRA pl dr cp cw rp) := fun v v2 e => fin v v2 _ _ _ _ _ (zFr_0 zFr_r) e
  have el : la 72 1 = r.toInt64 := hC.2.2.2.2.2.2.2.1
  have hD98 : D ≤ 9800 := hC.2.2.2.1
  have pre : ∀ (K : Option Value → zHP → Prop) (sa : Nat → Nat → Int32) (lb : Nat → Nat → Int64) cp cw, zPR p (zu sa 127 0 0) N L T → zWM (d + 400) 202 [.ref 127, .int x1, .int x2, .int x3] (sa, lb, zRA pl dr cp cw rp) K = (if x1 < 0 then K (some (.int (-1))) (zu sa 127 0 0, lb, zRA pl dr cp cw rp) else if 200 < x1 then K (some (.int (-1))) (zu sa 127 0 0, lb, zRA pl dr cp cw rp) else if x2 < 0 then K (some (.int (-1))) (zu sa 127 0 0, lb, zRA pl dr cp cw rp) else if 4 < x2 then K (some (.int (-1))) (zu sa 127 0 0, lb, zRA pl dr cp cw rp) else if (x2 = 0 ∨ x2 = 3) ∧ (x3 < 0 ∨ nI N ≤ x3) then K (some (.int (-1))) (zu sa 127 0 0, lb, zRA pl dr cp cw rp) else zWM (d + 399) 170 [.ref 127, .int (nI 1), .int (nI 0)] (zu sa 127 0 0, lb, zRA pl dr cp cw rp) (zK (d + 400) 202 50 [some (.ref 127), some (.int x1), some (.int x2), some (.int x3)] [] K)) := by
    intro K sa lb cp cw hR2
    rw [e202, b202_0, S_isM hR2, kS, b202_39]
    by_cases c1 : x1 < 0
    · rw [if_pos c1, if_pos c1]
    rw [if_neg c1, if_neg c1]
    by_cases c2 : 200 < x1
    · rw [if_pos c2, if_pos c2]
    rw [if_neg c2, if_neg c2]
    by_cases c3 : x2 < 0
    · rw [if_pos c3, if_pos c3]
    rw [if_neg c3, if_neg c3]
    by_cases c4 : 4 < x2
    · rw [if_pos c4, if_pos c4]
    rw [if_neg c4, if_neg c4]
    by_cases c7 : x3 < 0 ∨ nI N ≤ x3
    · rw [if_pos c7, if_neg (show ¬ ¬ (0 : Int32) = 0 from fun q => q rfl)]
      by_cases c5 : x2 = 0
      · rw [if_pos c5, if_pos ⟨Or.inl c5, c7⟩]
      · rw [if_neg c5]
        by_cases c6 : x2 = 3
        · rw [if_neg (fun q => q c6), if_pos ⟨Or.inr c6, c7⟩]
        · rw [if_pos c6, if_neg (fun q => q.1.elim c5 c6)]; rfl
    · rw [if_neg c7, if_pos (show ¬ (1 : Int32) = 0 by decide), if_neg (show ¬ ((x2 = 0 ∨ x2 = 3) ∧ (x3 < 0 ∨ nI N ≤ x3)) from fun q => c7 q.2)]
      split
      · rfl
      · split <;> rfl
  have bad : ∀ K, (x1 < 0 ∨ 200 < x1 ∨ x2 < 0 ∨ 4 < x2 ∨ ((x2 = 0 ∨ x2 = 3) ∧ (x3 < 0 ∨ nI N ≤ x3))) → zWM (d + 400) 202 [.ref 127, .int x1, .int x2, .int x3] (ia, la, zRA pl dr cp cw rp) K = K (some (.int (-1))) (zu ia 127 0 0, la, zRA pl dr cp cw rp) := by
    intro K hb
    rw [pre _ _ _ _ _ hR2]
    split
    · rfl
    split
    · rfl
    split
    · rfl
    split
    · rfl
    split
    · rfl
    next a1 a2 a3 a4 a5 => exact absurd hb (fun z => z.elim a1 (fun z => z.elim a2 (fun z => z.elim a3 (fun z => z.elim a4 a5))))
  rw [e93, b93_0]
  by_cases c1 : x1 < 0
  · rw [if_pos c1]
    refine hc _ _ ?_
    rw [bad _ (Or.inl c1)]
    exact fin2 _ _ rfl
  rw [if_neg c1]
  by_cases c2 : 200 < x1
  · rw [if_pos c2]
    refine hc _ _ ?_
    rw [bad _ (Or.inr (Or.inl c2))]
    exact fin2 _ _ rfl
  rw [if_neg c2]
  by_cases c3 : x2 < 0
  · rw [if_pos c3]
    refine hc _ _ ?_
    rw [bad _ (Or.inr (Or.inr (Or.inl c3)))]
    exact fin2 _ _ rfl
  rw [if_neg c3]
  by_cases c4 : 4 < x2
  · rw [if_neg (Int32.not_le.mpr c4)]
    refine hc _ _ ?_
    rw [bad _ (Or.inr (Or.inr (Or.inr (Or.inl c4))))]
    exact fin2 _ _ rfl
  rw [if_pos (Int32.not_lt.mp c4), S_isP i1 hC, kS, b93_36]
  by_cases c5 : (x2 = 0 ∨ x2 = 3) ∧ (x3 < 0 ∨ nI N ≤ x3)
  · rw [if_pos c5.2, if_neg (show ¬ ¬ (0 : Int32) = 0 from fun q => q rfl)]
    have e : ∀ A : Prop, (if x2 = 0 then Kc (some (.int (-1))) (ia, la, zRA pl dr cp cw rp) else if ¬ x2 = 3 then A else Kc (some (.int (-1))) (ia, la, zRA pl dr cp cw rp)) = Kc (some (.int (-1))) (ia, la, zRA pl dr cp cw rp) := by
      intro A
      rcases c5.1 with q | q
      · rw [if_pos q]
      · rw [if_neg (by rw [q]; decide), if_neg (fun z => z q)]
    rw [e]
    refine hc _ _ ?_
    rw [bad _ (Or.inr (Or.inr (Or.inr (Or.inr c5))))]
    exact fin2 _ _ rfl
  have e92 : ∀ s0 : Int32, s0 = (if x3 < 0 ∨ nI N ≤ x3 then 0 else 1) → (if x2 = 0 then (if ¬ s0 = 0 then zWM (d + 399) 92 [.ref 0, .int 1] (ia, la, zRA pl dr cp cw rp) (zK (d + 400) 93 46 [some (.ref 0), some (.int x1), some (.int x2), some (.int x3)] [] Kc) else Kc (some (.int (-1))) (ia, la, zRA pl dr cp cw rp)) else if ¬ x2 = 3 then zWM (d + 399) 92 [.ref 0, .int 1] (ia, la, zRA pl dr cp cw rp) (zK (d + 400) 93 46 [some (.ref 0), some (.int x1), some (.int x2), some (.int x3)] [] Kc) else (if ¬ s0 = 0 then zWM (d + 399) 92 [.ref 0, .int 1] (ia, la, zRA pl dr cp cw rp) (zK (d + 400) 93 46 [some (.ref 0), some (.int x1), some (.int x2), some (.int x3)] [] Kc) else Kc (some (.int (-1))) (ia, la, zRA pl dr cp cw rp))) = zWM (d + 399) 92 [.ref 0, .int 1] (ia, la, zRA pl dr cp cw rp) (zK (d + 400) 93 46 [some (.ref 0), some (.int x1), some (.int x2), some (.int x3)] [] Kc) := by
    intro s0 e
    by_cases c7 : x3 < 0 ∨ nI N ≤ x3
    · have n0 : ¬ x2 = 0 := fun q => c5 ⟨Or.inl q, c7⟩
      have n3 : ¬ x2 = 3 := fun q => c5 ⟨Or.inr q, c7⟩
      rw [if_neg n0, if_pos n3]
    · rw [if_neg c7] at e
      rw [e, if_pos (show ¬ (1 : Int32) = 0 by decide)]
      split
      · rfl
      · split <;> rfl
  refine Eq.mpr (e92 _ rfl) ?_
  obtain ⟨n, hn, rfl⟩ := zinx (n := 200) c1 200 (by decide) (Int32.not_lt.mp c2)
  refine S_try i1 (fun g hg => zC_W hC hg) (fun ia1 V hq f0 fw f3 f4 f5 f6 f7 => ?_)
  have hP : ∀ g, g < 33 → (fun g => ia1 (pl + g)) g = p g := fun g hg => by show ia1 (pl + g) = p g; rw [f0 _ (by omega)]; exact hC.1 g hg
  have hPk := zPk_e hP hC.2.1
  have o4 : ia1 102 4 = ia1 (pl + 28) 0 := by rw [f4, f0 _ (by omega)]
  have ho : ∃ a, a ≤ 100 ∧ ia1 102 4 = nI a := by rw [o4]; exact hPk.2.2.2.2.2.2.2.2.2.1
  have hVP : zWf (fun g => ia1 (pl + g)) N T D V := zWf_q hN6 hq (zWf_e hP hf)
  rw [kN, b93_46]
  refine S_play2 (w := 92) (W := V) (by omega) (Or.inr (Or.inr rfl)) i1 fw hPk (zTd_ten hVP.1.2.1) (fun la2 h5 h6 => ?_)
  rw [zu_eq, el] at h6 ⊢
  have hXf : zWf (fun g => ia1 (pl + g)) N T (D + n) (zDays (fun g => ia1 (pl + g)) (ia1 102) n V r.toInt64).1 := zDays_wf hPk ho hVP n (by omega)
  generalize hX : zDays (fun g => ia1 (pl + g)) (ia1 102) n V r.toInt64 = X at h6 hXf ⊢
  have l72 : la2 72 = la 72 := by rw [h5 72 (by decide) (by decide) (by decide), zu_o (by decide)]
  have l82 : la2 82 = la 82 := by rw [h5 82 (by decide) (by decide) (by decide), zu_o (by decide)]
  have frC : zFr ia la (zPW 92 X.1 ia1) la2 := by
    refine ⟨zFG_PW (fun c k h1 h2 => zgr_0 h1 (by omega)) (fun c k q => ?_), l72, l82⟩
    by_cases e : c < 92 ∨ 102 < c
    · rw [f0 c e]
    · exact absurd (zgr_0 (by omega) (by omega)) q
  have frM : zFr ia la (zu (zPW 92 X.1 ia1) 127 0 0) la2 := zFr_0 frC
  have hs0 : zHas N 0 W r (zu (zPW 92 X.1 ia1) 127 0 0) := zHas_fr (by decide) frM (zC_0 hC)
  have hRM : zPR p (zu (zPW 92 X.1 ia1) 127 0 0) N L T := (zCore_fr i1 frM hC).2.2.1
  -- the reference
  have mod : ∀ (K : Option Value → zHP → Prop) cp cw, (∀ ua lu r', zFr ia la (zPM N 1 X.1 r' ua) lu → zPR p ua N L T → zHas N 0 W r ua → zWP (d + 400) 202 55 [some (.ref 127), some (.int (nI n)), some (.int x2), some (.int x3)] [] (zPM N 1 X.1 r' ua, lu, zRA pl dr cp cw rp) K) → zWM (d + 400) 202 [.ref 127, .int (nI n), .int x2, .int x3] (zPW 92 X.1 ia1, la2, zRA pl dr cp cw rp) K := by
    intro K cp cw hK
    rw [pre _ _ _ _ _ hRM, if_neg c1, if_neg c2, if_neg c3, if_neg c4, if_neg c5]
    rw [S_copies (t := 1) (a := 0) (by omega) (by omega) (by omega) hs0, zPM_v (zWEq_vis hN6 hq), kN, b202_50]
    refine S_goesOn (D := D) (p := fun g => ia1 (pl + g)) (o := ia1 102) (by omega) hPk (zPR_e hP hC.2.1 hRM) (zOp_b (b := 1) f3 o4 f5 f6 f7 ?_ ?_ ?_ ⟨fun _ => rfl, fun q => absurd rfl q⟩) ho (by omega) hVP (fun ua lu r' h7 h8 h9 => ?_)
    · rw [frM.1 127 49 (by decide)]; exact hC.2.2.2.2.2.2.2.2.1
    · rw [frM.1 127 50 (by decide)]; exact hC.2.2.2.2.2.2.2.2.2.1
    · rw [frM.1 127 51 (by decide)]; exact hC.2.2.2.2.2.2.2.2.2.2
    · rw [kN]
      rw [hX]
      refine hK ua lu r' (zFr_PM (zFr_7 (zFr_sc frM h7) h8)) (zPR_sc h7 hRM) (zHas_sc h7 hs0)
  have eW : ∀ k, zPW 92 X.1 ia1 72 k = W 0 k := fun k => by rw [zPW_o (by omega), f0 _ (by omega), show ia 72 = W 0 from zC_W hC (g := 0) (by omega)]
  have eX : ∀ g, g < 10 → zPW 92 X.1 ia1 (92 + g) = X.1 g := fun g hg => zPW_g hg
  rw [kN, b93_54]
  by_cases d0 : x2 = 0
  · subst d0
    have h3 : ¬ (x3 < 0 ∨ nI N ≤ x3) := fun q => c5 ⟨Or.inl rfl, q⟩
    obtain ⟨h, hh, rfl, _⟩ := (zpers x3 (N := N) (by omega)).elim (fun q => absurd q h3) id
    rw [if_pos rfl, zg (by omega) (by omega), zcln (by omega), show zPW 92 X.1 ia1 93 = X.1 1 from eX 1 (by omega)]
    refine hc _ _ (mod _ _ _ (fun ua lu r' y1 y2 y3 => ?_))
    rw [b202_55, if_pos rfl, show (6 : Int32) + nI h = nI (6 * 1 + h) by rw [show (6 : Int32) = nI 6 from rfl, nI_add], zg (by omega) (by omega), zcln (by omega), zR156 (by omega)]
    exact fin _ _ _ _ _ _ _ y1 rfl
  rw [if_neg d0]
  by_cases d1 : x2 = 1
  · rw [if_pos d1, show zPW 92 X.1 ia1 92 = X.1 0 from eX 0 (by omega), eW]
    refine hc _ _ (mod _ _ _ (fun ua lu r' y1 y2 y3 => ?_))
    rw [b202_55, if_neg d0, if_pos d1]
    refine Eq.mpr (S_forg1 (s := 1) (by omega) hT12 zHas_M (zPR_M (zPR_e hP hC.2.1 y2)) hXf) ?_
    rw [kS, b202_104]
    refine Eq.mpr (S_forg1 (s := 0) (by omega) hT12 (zHas_o (by omega) y3) (zPR_M y2) hf) ?_
    rw [kS, b202_110]
    exact fin _ _ _ _ _ _ _ y1 rfl
  rw [if_neg d1]
  by_cases d2 : x2 = 2
  · rw [if_pos d2, show zPW 92 X.1 ia1 92 = X.1 0 from eX 0 (by omega), eW]
    refine hc _ _ (mod _ _ _ (fun ua lu r' y1 y2 y3 => ?_))
    rw [b202_55, if_neg d0, if_neg d1, if_pos d2, S_bits7 zHas_M hXf, kS, b202_121, S_bits7 (zHas_o (by omega) y3) hf, kS, b202_130]
    exact fin _ _ _ _ _ _ _ y1 rfl
  rw [if_neg d2]
  by_cases d3 : x2 = 3
  · subst d3
    have h3 : ¬ (x3 < 0 ∨ nI N ≤ x3) := fun q => c5 ⟨Or.inr rfl, q⟩
    obtain ⟨h, hh, rfl, _⟩ := (zpers x3 (N := N) (by omega)).elim (fun q => absurd q h3) id
    rw [if_pos rfl, n3', zg (by omega) (by omega), zcln (by omega), show zPW 92 X.1 ia1 94 = X.1 2 from eX 2 (by omega)]
    refine hc _ _ (mod _ _ _ (fun ua lu r' y1 y2 y3 => ?_))
    rw [b202_55, if_neg d0, if_neg d1, if_neg d2, if_pos rfl, show (3 : Int32) * (6 + nI h) = nI (3 * (6 * 1 + h) + 0) by rw [show (6 : Int32) = nI 6 from rfl, nI_add, m3']; rfl, zg (by omega) (by omega), zcln (by omega), zR152 hh hN6 (by omega)]
    exact fin _ _ _ _ _ _ _ y1 rfl
  rw [if_neg d3, show zPW 92 X.1 ia1 92 = X.1 0 from eX 0 (by omega), eW]
  refine hc _ _ (mod _ _ _ (fun ua lu r' y1 y2 y3 => ?_))
  rw [b202_55, if_neg d0, if_neg d1, if_neg d2, if_neg d3, S_bits8 zHas_M hXf, kS, b202_153, S_bits8 (zHas_o (by omega) y3) hf, kS, b202_162]
  exact fin _ _ _ _ _ _ _ y1 rfl
