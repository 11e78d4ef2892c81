/-! go and ahead -/
theorem zi64 {a b : Int32} (h : a.toInt64 = b.toInt64) : a = b := by
  have := congrArg Int64.toInt32 h
  rwa [lg_l2i_i2l, lg_l2i_i2l] at this
theorem zin {x : Int32} {n : Nat} (h0 : ¬ x < 0) (M : Int32) (hM : M.toInt = (n : Int)) (h : x ≤ M) : ∃ j, j ≤ n ∧ x = nI j := nI_of2 hM h0 h
section ZP
variable {d pl dr N L T D s w : Nat} {cp cw rp : Option Nat} {p ia W V : Nat → Nat → Int32} {o : Nat → Int32} {r q bn x y : Int32} {la : Nat → Nat → Int64} {K : Option Value → zHP → Prop}
theorem S_goL {n : Nat} (hn : n < 100000) (hk : zPk p N L T) (hR : zPR p ia N L T) (hO : zOp p o ia 1) (ho : ∃ a, a ≤ 100 ∧ o 4 = nI a) (hD : D + n ≤ 20000) (hW : zWf p N T D W) (hK : ∀ ia' la' r', zSc ia ia' → zL7 la la' → r'.toInt64 = (zDays p o n W r.toInt64).2 → K (some (.int ((zDays p o n W r.toInt64).1 0 0))) (zPM N 0 (zDays p o n W r.toInt64).1 r' ia', la', zRA pl dr cp cw rp)) : zWP (d + 12) 201 43 [some (.ref 127), some (.int (nI n)), some (.int 0)] [] (zPM N 0 W r ia, la, zRA pl dr cp cw rp) K := by
  refine zlpI (fun i => ∀ ia' la' r', zSc ia ia' → zL7 la la' → r'.toInt64 = (zDays p o i W r.toInt64).2 → zWP (d + 12) 201 43 [some (.ref 127), some (.int (nI n)), some (.int (nI i))] [] (zPM N 0 (zDays p o i W r.toInt64).1 r' ia', la', zRA pl dr cp cw rp) K) n ?_ ?_ ia la r (zSc_r ia) (zL7_r la) rfl
  · intro i hi ih ia' la' r' h1 h2 h3
    rw [b201_43, if_neg (nI_nle1 (by omega) (by omega))]
    refine S_passes (s := 0) (bn := 1) (D := D + i) (by omega) hk (zPR_sc h1 hR) (zOp_sc h1 hO) (by omega) (zDays_wf hk ho hW i (by omega)) (fun ia2 la2 r2 h4 h5 h6 => ?_)
    rw [kN, b201_54, ns]
    rw [h3] at h6 ⊢
    exact ih ia2 la2 r2 (zSc_t h1 h4) (zL7_t h2 h5) h6
  · intro ia' la' r' h1 h2 h3
    rw [b201_43, if_pos (nI_le1 (by omega) (by omega))]
    have e : zPM N 0 (zDays p o n W r.toInt64).1 r' ia' 147 0 = (zDays p o n W r.toInt64).1 0 0 := zR147 (s := 0)
    rw [e]
    exact hK ia' la' r' h1 h2 h3
end ZP
theorem T_go {d pl dr : Nat} {cp cw rp : Option Nat} {ia : Nat → Nat → Int32} {la : Nat → Nat → Int64} {Kc : Option Value → zHP → Prop} {Km : Option Value → Option Value → zHP → Prop} {x1 : Int32} (hI : zInv pl dr ia la) (hc : ∀ v hp, zWM (d + 400) 201 [.ref 127, .int x1] hp (Km v) → Kc v hp) (hm : zEndK ia Km) : zWM (d + 400) 91 [.ref 0, .int x1] (ia, la, zRA pl dr cp cw rp) Kc := by
  have fin := zfin hI hm
  obtain ⟨i1, i2, i3, i4, i5, i6, i7, p, N, L, T, D, W, r, hC, hM, hDe, hNo⟩ := hI
  have hN6 : N ≤ 6 := hC.2.1.2.1
  have hT12 : T ≤ 12 := hC.2.1.2.2.2.2.2.1
  have hR := hC.2.2.1
  have hf := zC_f hC
  have pll := zIsP_lt i1
  have fin2 : ∀ v v2 : Option Value, v2 = v → Km v v2 (zu ia 127 0 0, la, zRA pl dr cp cw rp) := fun v v2 e => fin v v2 _ _ _ _ _ (zFr_0 zFr_r) e
  have eD : W 0 0 = nI D := hf.1.1
  have hD98 : D ≤ 9800 := hC.2.2.2.1
  have pre : ∀ (K : Option Value → zHP → Prop) (sa : Nat → Nat → Int32) (lb : Nat → Nat → Int64) cp cw, zHas N 0 W r sa → zWM (d + 400) 201 [.ref 127, .int x1] (sa, lb, zRA pl dr cp cw rp) K = (if x1 < 0 then K (some (.int (-1))) (zu sa 127 0 0, lb, zRA pl dr cp cw rp) else if 200 < x1 then K (some (.int (-1))) (zu sa 127 0 0, lb, zRA pl dr cp cw rp) else if nI D + x1 ≤ 9800 then (if x1 ≤ 0 then zWP (d + 400) 201 43 [some (.ref 127), some (.int x1), some (.int 0)] [] (zu sa 127 0 0, lb, zRA pl dr cp cw rp) K else zWP (d + 400) 201 43 [some (.ref 127), some (.int x1), some (.int 0)] [] (zu (zu sa 127 0 0) 127 48 0, lb, zRA pl dr cp cw rp) K) else K (some (.int (-1))) (zu sa 127 0 0, lb, zRA pl dr cp cw rp)) := by
    intro K sa lb cp cw hs
    rw [e201, b201_0, zu_o (by decide), hs.1, eD]
  rw [e91, b91_0, show ia 72 = W 0 from zC_W hC (g := 0) (by omega), eD]
  by_cases c1 : x1 < 0
  · rw [if_pos c1]
    refine hc _ _ ?_
    rw [pre _ _ _ _ _ (zC_0 hC), if_pos c1]
    exact fin2 _ _ rfl
  rw [if_neg c1]
  by_cases c2 : 200 < x1
  · rw [if_pos c2]
    refine hc _ _ ?_
    rw [pre _ _ _ _ _ (zC_0 hC), if_neg c1, if_pos c2]
    exact fin2 _ _ rfl
  rw [if_neg c2]
  by_cases c3 : nI D + x1 ≤ 9800
  case neg =>
    rw [if_neg c3]
    refine hc _ _ ?_
    rw [pre _ _ _ _ _ (zC_0 hC), if_neg c1, if_neg c2, if_neg c3]
    exact fin2 _ _ rfl
  rw [if_pos c3]
  obtain ⟨n, hn, rfl⟩ := zin (n := 200) c1 200 (by decide) (Int32.not_lt.mp c2)
  have hDn : D + n ≤ 9800 := by
    rw [nI_add] at c3
    exact (nI_leI (b := 9800) (by omega) (by omega)).mp c3
  refine S_cbeg i1 (Or.inl rfl) (fun ia1 f0 f3 f4 f5 f6 f7 => ?_)
  have hP : ∀ g, g < 33 → (fun g => ia1 (pl + g)) g = p g := fun g hg => by show ia1 (pl + g) = p g; rw [f0 _ (by omega)]; exact hC.1 g hg
  have hPk := zPk_e hP hC.2.1
  have hW1 : ∀ g, g < 10 → ia1 (72 + g) = W g := fun g hg => by rw [f0 _ (by omega)]; exact zC_W hC hg
  have o4 : ia1 102 4 = ia1 (pl + 28) 0 := by rw [f4, f0 _ (by omega)]
  have ho : ∃ a, a ≤ 100 ∧ ia1 102 4 = nI a := by rw [o4]; exact hPk.2.2.2.2.2.2.2.2.2.1
  have hfP := zWf_e hP hf
  rw [kN, b91_44]
  refine S_play2 (w := 72) (W := W) (by omega) (Or.inl rfl) i1 hW1 hPk (zTd_ten hf.1.2.1) (fun la2 h5 h6 => ?_)
  have el : la 72 1 = r.toInt64 := hC.2.2.2.2.2.2.2.1
  rw [el] at h6 ⊢
  have hVf : zWf p N T (D + n) (zDays (fun g => ia1 (pl + g)) (ia1 102) n W r.toInt64).1 := zWf_e (fun g hg => (hP g hg).symm) (zDays_wf hPk ho hfP n (by omega))
  generalize hV : zDays (fun g => ia1 (pl + g)) (ia1 102) n W r.toInt64 = V at h6 hVf ⊢
  have l82 : la2 82 = la 82 := h5 82 (by decide) (by decide) (by decide)
  have sa_o : ∀ c, c < 72 ∨ 82 ≤ c → c ≠ 102 → zPW 72 V.1 ia1 c = ia c := fun c e1 e2 => by rw [zPW_o (by omega), f0 c e2]
  have hasx : ∀ ta : Nat → Nat → Int32, (∀ c, 147 ≤ c → ta c = ia c) → ∀ s (A : Nat → Nat → Int32) (q : Int32), zHas N s A q ia → zHas N s A q ta := fun ta hta s A q h => zHas_in (fun c k hc => by
    have : 147 ≤ c := by rcases hc with q | q | q | q | q <;> omega
    rw [hta c this]) h
  have loop : ∀ (ta : Nat → Nat → Int32) cp cw (K : Option Value → zHP → Prop), (∀ c, 129 ≤ c → ta c = ia c) → ta 127 49 = 0 → ta 127 50 = -1 → ta 127 51 = -1 → (∀ ua lu r', zSc ta ua → zL7 la2 lu → r'.toInt64 = V.2 → K (some (.int (V.1 0 0))) (zPM N 0 V.1 r' ua, lu, zRA pl dr cp cw rp)) → zWP (d + 400) 201 43 [some (.ref 127), some (.int (nI n)), some (.int 0)] [] (ta, la2, zRA pl dr cp cw rp) K := by
    intro ta cp cw K q1 q2 q3 q4 q5
    have hs := hasx ta (fun c hc => q1 c (by omega)) 0 W r (zC_0 hC)
    have e := S_goL (d := d + 388) (pl := pl) (dr := dr) (cp := cp) (cw := cw) (rp := rp) (K := K) (la := la2) (ia := ta) (W := W) (r := r) (n := n) (D := D) (by omega) hPk (zPR_i (fun c h1 h2 => q1 c h1) (zPR_e hP hC.2.1 hR)) (zOp_b (b := 0) f3 o4 f5 f6 f7 q2 q3 q4 ⟨fun q => absurd q (by decide), fun _ => rfl⟩) ho (by omega) hfP
    rw [zHas_eq hs, hV] at e
    exact e q5
  rw [kN, b91_52, show zPW 72 V.1 ia1 72 = V.1 0 from zPW_0]
  by_cases hn0 : n = 0
  · subst hn0
    have eV : V = (W, r.toInt64) := hV.symm
    subst eV
    dsimp only at *
    rw [if_pos (show nI 0 ≤ 0 by decide), zPW_id hW1]
    refine hc _ _ ?_
    rw [pre _ _ _ _ _ (hasx ia1 (fun c hc => f0 c (by omega)) 0 W r (zC_0 hC)), if_neg c1, if_neg c2, if_pos c3, if_pos (show nI 0 ≤ 0 by decide)]
    refine loop (zu ia1 127 0 0) _ _ _ (fun c hc => by rw [zu_o (by omega), f0 c (by omega)]) (by rw [zu_k (by decide), f0 _ (by decide)]; exact hC.2.2.2.2.2.2.2.2.1) (by rw [zu_k (by decide), f0 _ (by decide)]; exact hC.2.2.2.2.2.2.2.2.2.1) (by rw [zu_k (by decide), f0 _ (by decide)]; exact hC.2.2.2.2.2.2.2.2.2.2) (fun ua lu r' h7 h8 h9 => ?_)
    have er := zi64 h9
    subst er
    have hsu : zHas N 0 W r' ua := zHas_sc h7 (hasx (zu ia1 127 0 0) (fun c hc => by rw [zu_o (by omega), f0 c (by omega)]) 0 W r' (zC_0 hC))
    rw [zHas_eq hsu]
    refine fin _ _ _ _ _ _ _ (zFr_7 (zFr_sc (ja := zu ia1 127 0 0) ⟨zFG_u rfl (fun c k q => ?_), ?_, l82⟩ h7) h8) rfl
    · by_cases e : c = 102
      · subst e; exact absurd rfl q
      · rw [f0 c e]
    · funext k
      by_cases ek : k = 1
      · subst ek; rw [h6, el]
      · sorry
  · sorry
