/-! end and teach -/
theorem zBack_ch {p W : Nat → Nat → Int32} {o : Nat → Int32} {h g k : Nat} (hc : ¬ zCh h g k) : zBack p o h W g k = W g k := by
  unfold zCh at hc
  unfold zBack zBk2
  rw [zu_at, if_neg (by omega), zu_at, if_neg (by omega), zu_at, if_neg (by omega)]
  show zBk1 _ _ _ _ 2 (zBk1 _ _ _ _ 1 (zBk1 _ _ _ _ 0 W)) g k = _
  rw [zBk1_at, if_neg (by omega), zBk1_at, if_neg (by omega), zBk1_at, if_neg (by omega)]
theorem T_end {d pl dr : Nat} {cp cw rp : Option Nat} {ia : Nat → Nat → Int32} {la : Nat → Nat → Int64} {Kc : Option Value → zHP → Prop} {Km : Option Value → Option Value → zHP → Prop} {x1 : Int32} (hI : zInv pl dr ia la) (hc : ∀ v hp, zWM (d + 400) 198 [.ref 127, .int x1] hp (Km v) → Kc v hp) (hm : zEndK ia Km) : zWM (d + 400) 89 [.ref 0, .int x1] (ia, la, zRA pl dr cp cw rp) Kc := by
  have fin := zfin hI hm
  obtain ⟨i1, i2, i3, i4, i5, i6, i7, p, N, L, T, D, W, r, hC, hM, hDe, hNo⟩ := hI
  have hN6 : N ≤ 6 := hC.2.1.2.1
  have hT12 : T ≤ 12 := hC.2.1.2.2.2.2.2.1
  have hR := hC.2.2.1
  have hR2 : zPR p (zu ia 127 0 0) N L T := zPR_i (fun c h1 h2 => zu_o (by omega)) hR
  have fin2 : ∀ v v2 : Option Value, v2 = v → Km v v2 (zu ia 127 0 0, la, zRA pl dr cp cw rp) := fun v v2 e => fin v v2 _ _ _ _ _ (zFr_0 zFr_r) e
  have pll := zIsP_lt i1
  rw [e89, b89_0, S_isP i1 hC, kS, b89_5]
  rcases zpers x1 (N := N) (by omega) with h1 | ⟨h, hh, rfl, hn1⟩
  · rw [if_pos h1, if_neg (fun q => q rfl)]
    refine hc _ _ ?_
    rw [e198, b198_0, S_isM hR2, kS, b198_10, if_pos h1, if_neg (fun q => q rfl)]
    exact fin2 _ _ rfl
  rw [if_neg hn1, if_pos (by decide), S_isLet (Or.inl rfl) (by omega), show ia (72 + 3) = W 3 from zC_W hC (g := 3) (by omega), kS, b89_18]
  have pre : ∀ (K : Option Value → zHP → Prop) (sa : Nat → Nat → Int32) (lb : Nat → Nat → Int64) cp cw, zPR p (zu sa 127 0 0) N L T → zHas N 0 W r (zu sa 127 0 0) → zWM (d + 400) 198 [.ref 127, .int (nI h)] (sa, lb, zRA pl dr cp cw rp) K = (if W 3 h < 0 then K (some (.int (-2))) (zu sa 127 0 0, lb, zRA pl dr cp cw rp) else zWM (d + 399) 196 [.ref 127] (zu sa 127 0 0, lb, zRA pl dr cp cw rp) (zK (d + 400) 198 31 [some (.ref 127), some (.int (nI h))] [] K)) := by
    intro K sa lb cp cw hR2 hl2
    rw [e198, b198_0, S_isM hR2, kS, b198_10, if_neg hn1, if_pos (by decide)]
    refine Eq.trans (S_ltM (s := 0) (by omega) hl2 (by omega)) ?_
    rw [kS, b198_21]
    by_cases c : W 3 h < 0
    · rw [if_pos c, if_neg (fun q => q rfl), if_pos c]
    · rw [if_neg c, if_pos (by decide), if_neg c]
  by_cases cm : W 3 h < 0
  · rw [if_pos cm, if_neg (fun q => q rfl)]
    refine hc _ _ ?_
    rw [pre _ _ _ _ _ hR2 (zHas_fr (la := la) (lb := la) (by decide) (zFr_0 zFr_r) (zC_0 hC)), if_pos cm]
    exact fin2 _ _ rfl
  rw [if_neg cm, if_pos (by decide)]
  obtain ⟨t, ht, et⟩ : ∃ t, t < N ∧ W 3 h = nI t := by
    rcases (zC_f hC).1.2.1 h hh with ⟨e, _⟩ | ⟨t, n, ht, _, _, e, _⟩
    · exact absurd (by rw [e]; decide) cm
    · exact ⟨t, ht, e⟩
  obtain ⟨dm, nx, Ws, d1, d2, d3, d4, d5, d6, d7⟩ := hDe
  refine S_note (by omega) d2 d1 d3 d4 (fun ja hja => ?_)
  have ja_o : ∀ c, c ≠ 113 → c ≠ 114 → ja c = ia c := fun c e1 e2 => by funext k; rw [hja, if_neg (by omega), if_neg (by omega), if_neg (by omega), if_neg (by omega), if_neg (by omega), if_neg (by omega), if_neg (by omega), if_neg (by omega)]
  have fr2 : zFG (fun g => g = 0 ∨ g = 3 ∨ g = 5) ia ja := fun c k q => by
    by_cases e1 : c = 113
    · subst e1; exact absurd (Or.inr (Or.inr rfl)) q
    by_cases e2 : c = 114
    · subst e2; exact absurd (Or.inr (Or.inr rfl)) q
    rw [ja_o c e1 e2]
  rw [kN, b89_36]
  refine S_cbeg i1 (Or.inl rfl) (fun ia1 f0 f3 f4 f5 f6 f7 => ?_)
  have fr1 : zFG (fun g => g = 0 ∨ g = 3 ∨ g = 5) ia ia1 := fun c k q => by
    by_cases e : c = 102
    · subst e; exact absurd (Or.inl rfl) q
    · rw [f0 c e, fr2 c k q]
  have i_o : ∀ c, c ≠ 102 → c ≠ 113 → c ≠ 114 → ia1 c = ia c := fun c e0 e1 e2 => by rw [f0 c e0, ja_o c e1 e2]
  have hP : ∀ g, g < 33 → (fun g => ia1 (pl + g)) g = p g := fun g hg => by show ia1 (pl + g) = p g; rw [i_o _ (by omega) (by omega) (by omega)]; exact hC.1 g hg
  have hlk : zLk (fun g => ia1 (pl + g)) := zLk_e hP hC.2.1.2.2.2.2.2.2.2.2.1
  have hPk := zPk_e hP hC.2.1
  have hW1 : ∀ g, g < 10 → ia1 (72 + g) = W g := fun g hg => by rw [i_o _ (by omega) (by omega) (by omega)]; exact zC_W hC hg
  have o4 : ia1 102 4 = ia1 (pl + 28) 0 := by rw [f4, f0 _ (by omega)]
  have ho : ∃ a, a ≤ 100 ∧ ia1 102 4 = nI a := by rw [o4]; exact hPk.2.2.2.2.2.2.2.2.2.1
  rw [kN, b89_52]
  have bk := S_back (d := d + 393) (pl := pl) (dr := dr) (rp := rp) (K := zK (d + 400) 89 60 [some (.ref 0), some (.int (nI h))] [] Kc) (la := la) (ia := ia1) (W := W) (w := 72) (p := pl) (h := h) (t := t) (Or.inl rfl) i1 hlk (by omega) (by omega) et
  rw [zPW_id hW1] at bk
  refine bk (fun la2 h5 => ?_)
  have l72 : la2 72 = la 72 := h5 72 (by decide) (by decide)
  have l82 : la2 82 = la 82 := h5 82 (by decide) (by decide)
  rw [kN, b89_60, zg (by omega) (by omega), zcln (by omega), show zPW 72 (zBack (fun g => ia1 (pl + g)) (ia1 102) h W) ia1 77 = zBack (fun g => ia1 (pl + g)) (ia1 102) h W 5 from zPW_g (g := 5) (by omega)]
  have hVf : zWf p N T D (zBack (fun g => ia1 (pl + g)) (ia1 102) h W) := zWf_e (fun g hg => (hP g hg).symm) (zWf_back hPk ho hh ht et (zWf_e hP (zC_f hC)))
  have hVc : ∀ g k, ¬ zCh h g k → zBack (fun g => ia1 (pl + g)) (ia1 102) h W g k = W g k := fun g k q => zBack_ch q
  generalize hV : zBack (fun g => ia1 (pl + g)) (ia1 102) h W = V at hVf hVc ⊢
  have sa_o : ∀ c, c < 72 ∨ 82 ≤ c → c ≠ 102 → c ≠ 113 → c ≠ 114 → c ≠ 127 → zu (zPW 72 V ia1) 127 0 0 c = ia c := fun c e0 e1 e2 e3 e7 => by rw [zu_o e7, zPW_o (by omega), i_o c e1 e2 e3]
  have sa_7 : ∀ k, k ≠ 0 → zu (zPW 72 V ia1) 127 0 0 127 k = ia 127 k := fun k hk => by rw [zu_k hk, zPW_o (by omega), i_o _ (by decide) (by decide) (by decide)]
  have fr3 : zFG (fun g => g = 0 ∨ g = 3 ∨ g = 5) ia (zu (zPW 72 V ia1) 127 0 0) := zFG_u (Or.inl rfl) (zFG_PW (fun c k h1 h2 => Or.inr (Or.inl (zgr_3 h1 (by omega)))) fr1)
  have hasx : ∀ s (A : Nat → Nat → Int32), zHas N s A r ia → zHas N s A r (zu (zPW 72 V ia1) 127 0 0) := fun s A q => zHas_in (fun c k hc => by
    have : 147 ≤ c := by rcases hc with q | q | q | q | q <;> omega
    rw [sa_o c (by omega) (by omega) (by omega) (by omega) (by omega)]) q
  have has0 := hasx 0 W (zC_0 hC)
  have hRx : zPR p (zu (zPW 72 V ia1) 127 0 0) N L T := zPR_i (fun c h1 h2 => sa_o c (by omega) (by omega) (by omega) (by omega) (by omega)) hR
  refine hc _ _ ?_
  rw [pre _ _ _ _ _ hRx has0, if_neg cm]
  refine S_keepN (Ws := Ws) d1 (by rw [sa_7 48 (by decide)]; exact d5) has0 d6 (fun i hi => hasx _ _ (d7 i hi).1) (fun na n1 n2 n3 n4 => ?_)
  rw [kN, b198_31]
  have has1 : zHas N 0 W r na := zHas_g (S := fun g => g = 5) (by decide) n1 has0
  have hRn : zPR (fun g => ia1 (pl + g)) na N L T := zPR_i (fun c h1 h2 => zFG_c n1 (fun k => by rw [zgr_2b h1 h2]; decide)) (zPR_e hP hC.2.1 hRx)
  have hOn : zOp (fun g => ia1 (pl + g)) (ia1 102) na 1 := zOp_b (b := 0) f3 o4 f5 f6 f7 (by rw [n1 127 49 (by decide), sa_7 _ (by decide)]; exact hC.2.2.2.2.2.2.2.2.1) (by rw [n1 127 50 (by decide), sa_7 _ (by decide)]; exact hC.2.2.2.2.2.2.2.2.2.1) (by rw [n1 127 51 (by decide), sa_7 _ (by decide)]; exact hC.2.2.2.2.2.2.2.2.2.2) ⟨fun q => absurd q (by decide), fun _ => rfl⟩
  have le := S_backM (d := d + 390) (pl := pl) (dr := dr) (cp := some pl) (cw := some 72) (rp := rp) (K := zK (d + 400) 198 37 [some (.ref 127), some (.int (nI h))] [] (Km (some (.int (V 5 h))))) (la := la2) (ia := na) (s := 0) (r := r) (W := W) (h := h) (t := t) (by omega) hlk hN6 hRn hOn hh ht et
  rw [zHas_eq has1, hV] at le
  refine le (fun ua lu h8 h9 => ?_)
  have e155 : zPM N 0 V r ua 155 h = V 5 h := by
    have := (zHas_M (N := N) (s := 0) (W := V) (r := r) (ia := ua)).2.2.2.2.2.2.1 h (by omega)
    rw [Nat.mul_zero, Nat.zero_add] at this
    exact this.2.2.1
  rw [kN, b198_37, zg (by omega) (by omega), zcln (by omega), e155]
  have low : ∀ c, c < 127 → zPM N 0 V r ua c = zPW 72 V ia1 c := fun c hc => by rw [zPM_o (by omega), zSc_c h8 (by omega), n2 c hc, zu_o (by omega)]
  have hF : zFG (fun g => g = 0 ∨ g = 3 ∨ g = 5) ia (zPM N 0 V r ua) := by
    refine zFG_PM (Or.inr (Or.inl rfl)) ?_
    obtain ⟨x, rfl⟩ := h8
    exact zFG_u (Or.inl rfl) (zFG_t fr3 n1 (fun g q => Or.inr (Or.inr q)))
  refine hm _ _ _ _ _ _ _ _ (zdone (V := V) (h := h) i1 i2 i3 ⟨i4, i5, i6, i7⟩ hC hM hNo d1 d2 d6 (fun i hi => (d7 i hi).2) hh hVc hVf ?_ ?_ ?_ ?_ ?_ zHas_M ?_ hF ?_ ?_) (zFG_9 hF (by decide)).1 (zFG_9 hF (by decide)).2
  · rw [low _ (by omega), zPW_o (by omega), f0 _ (by decide), hja, if_neg (by omega), if_pos ⟨rfl, rfl⟩]
  · rw [low _ (by omega), zPW_o (by omega), f0 _ (by decide), hja, if_pos ⟨rfl, rfl⟩]
  · intro k
    rw [low _ (by omega), zPW_o (by omega), f0 _ (by decide), hja, if_neg (by omega), if_neg (by omega)]
    simp only [true_and]
    rw [show ia 73 = W 1 from zC_W hC (g := 1) (by omega), show ia 74 = W 2 from zC_W hC (g := 2) (by omega), show ia 75 = W 3 from zC_W hC (g := 3) (by omega), show ia 76 = W 4 from zC_W hC (g := 4) (by omega), show ia 77 = W 5 from zC_W hC (g := 5) (by omega)]
  · rw [zPM_o (by omega), zSc_k h8 (by decide), n3]
  · intro i hi
    exact zHas_o (by omega) (zHas_sc h8 (n4 i hi))
  · intro g hg
    rw [low _ (by omega)]; exact zPW_g hg
  · rw [h9 72 (by decide) (by decide), l72]
  · rw [h9 82 (by decide) (by decide), l82]
/-- a lesson -/
def zLes (p : Nat → Nat → Int32) (h j : Nat) (V : Nat → Nat → Int32) : Nat → Nat → Int32 := zu V 2 (3 * h + j) (V 2 (3 * h + j) + (1000 * p 2 (3 * h + j) - V 2 (3 * h + j)) / 2)
theorem zLes_at {p W : Nat → Nat → Int32} {h j g k : Nat} : zLes p h j W g k = if g = 2 ∧ k = 3 * h + j then W 2 (3 * h + j) + (1000 * p 2 (3 * h + j) - W 2 (3 * h + j)) / 2 else W g k := by
  unfold zLes
  rw [zu_at]
theorem zLes_3 {p W : Nat → Nat → Int32} {h g k : Nat} : zit (zLes p h) 3 W g k = if g = 2 ∧ 3 * h ≤ k ∧ k < 3 * h + 3 then W 2 k + (1000 * p 2 k - W 2 k) / 2 else W g k := by
  show zLes p h 2 (zLes p h 1 (zLes p h 0 W)) g k = _
  rw [zLes_at]
  by_cases e2 : g = 2 ∧ k = 3 * h + 2
  · obtain ⟨rfl, rfl⟩ := e2
    rw [if_pos ⟨rfl, rfl⟩, zLes_at, if_neg (by omega), zLes_at, if_neg (by omega), if_pos (by omega)]
  · rw [if_neg e2, zLes_at]
    by_cases e1 : g = 2 ∧ k = 3 * h + 1
    · obtain ⟨rfl, rfl⟩ := e1
      rw [if_pos ⟨rfl, rfl⟩, zLes_at, if_neg (by omega), if_pos (by omega)]
    · rw [if_neg e1, zLes_at]
      by_cases e0 : g = 2 ∧ k = 3 * h + 0
      · obtain ⟨rfl, rfl⟩ := e0
        rw [if_pos ⟨rfl, rfl⟩, if_pos (by omega)]
      · rw [if_neg e0, if_neg (by omega)]
theorem zWf_les {p W : Nat → Nat → Int32} {N L T D h : Nat} (hk : zPk p N L T) (hh : h < N) (hW : zWf p N T D W) : zWf p N T D (zit (zLes p h) 3 W) := by
  have hg : ∀ g, g ≠ 2 → zit (zLes p h) 3 W g = W g := fun g hg => by funext k; rw [zLes_3, if_neg (by omega)]
  obtain ⟨⟨a1, a2, a3, a4⟩, hl, hc⟩ := hW
  refine ⟨⟨by rw [hg 0 (by decide)]; exact a1, zTd_34 (hg 3 (by decide)) (hg 4 (by decide)) a2, by rw [hg 1 (by decide), hg 3 (by decide)]; exact a3, fun i hi => ?_⟩, zWl_g (hg 6 (by decide)) (hg 7 (by decide)) (by rw [hg 0 (by decide)]) (by rw [hg 0 (by decide)]) hl, zWc_g (fun k _ q => by rw [hg 6 (by decide)]; exact q) (hg 8 (by decide)) (by rw [hg 0 (by decide)]) hc⟩
  rw [zLes_3]
  by_cases e : 3 * h ≤ i ∧ i < 3 * h + 3
  · rw [if_pos ⟨rfl, e⟩]
    obtain ⟨a, ha, ea⟩ := a4 i hi
    obtain ⟨b, hb, eb⟩ := hk.2.2.2.2.2.2.2.2.2.2.2.2.1 i hi
    rw [ea, eb]
    obtain ⟨c, hc, ec, _⟩ := zlesson ha hb
    exact ⟨c, hc, ec⟩
  · rw [if_neg (fun z => e z.2)]; exact a4 i hi
section ZP
variable {d pl dr N L T D s : Nat} {cp cw rp : Option Nat} {p ia W V : Nat → Nat → Int32} {o : Nat → Int32} {r bn x y : Int32} {la : Nat → Nat → Int64} {K : Option Value → zHP → Prop}
theorem S_lesM {h : Nat} (hs : s < 23) (hN : N ≤ 6) (hR : zPR p ia N L T) (hh : h < N) : zWM d 199 [.ref 127, .int (nI s), .int (nI h)] (zPM N s W r ia, la, zRA pl dr cp cw rp) K = K none (zPM N s (zit (zLes p h) 3 W) r ia, la, zRA pl dr cp cw rp) := by
  rw [e199, b199_0]
  have lp : ∀ (j : Nat) (V : Nat → Nat → Int32) (a4 : Option Value), j < 3 → zWP d 199 2 [some (.ref 127), some (.int (nI s)), some (.int (nI h)), some (.int (nI j)), a4] [] (zPM N s V r ia, la, zRA pl dr cp cw rp) K = zWP d 199 2 [some (.ref 127), some (.int (nI s)), some (.int (nI h)), some (.int (nI (j + 1))), some (.int (nI (3 * (6 * s + h) + j)))] [] (zPM N s (zLes p h j V) r ia, la, zRA pl dr cp cw rp) K := by
    intro j V a4 hj
    rw [b199_2, if_neg (z3le hj), m6, m3, m3, zg (by omega) (by omega), zg (by omega) (by omega), zcln (by omega), zcln (by omega), zR152 hh hN hj, zR_127 (c := 131) (by decide), hR.2.2.2.2.2.2.2.2.1 _ (by omega), ns]
    have u : ∀ v, zu (zPM N s V r ia) 152 (3 * (6 * s + h) + j) v = zPM N s (zu V 2 (3 * h + j) v) r ia := fun v => by rw [show 3 * (6 * s + h) + j = 18 * s + (3 * h + j) by omega, zPM_u152 (by omega) hN]
    rw [u]
    rfl
  refine Eq.trans (lp 0 W none (by omega)) ?_
  rw [lp 1 _ _ (by omega), lp 2 _ _ (by omega), b199_2, if_pos (by decide)]
  rfl
end ZP
theorem T_teach {d pl dr : Nat} {cp cw rp : Option Nat} {ia : Nat → Nat → Int32} {la : Nat → Nat → Int64} {Kc : Option Value → zHP → Prop} {Km : Option Value → Option Value → zHP → Prop} {x1 : Int32} (hI : zInv pl dr ia la) (hc : ∀ v hp, zWM (d + 400) 200 [.ref 127, .int x1] hp (Km v) → Kc v hp) (hm : zEndK ia Km) : zWM (d + 400) 90 [.ref 0, .int x1] (ia, la, zRA pl dr cp cw rp) Kc := by
  have fin := zfin hI hm
  obtain ⟨i1, i2, i3, i4, i5, i6, i7, p, N, L, T, D, W, r, hC, hM, hDe, hNo⟩ := hI
  have hN6 : N ≤ 6 := hC.2.1.2.1
  have hT12 : T ≤ 12 := hC.2.1.2.2.2.2.2.1
  have hR := hC.2.2.1
  have hR2 : zPR p (zu ia 127 0 0) N L T := zPR_i (fun c h1 h2 => zu_o (by omega)) hR
  have fin2 : ∀ v v2 : Option Value, v2 = v → Km v v2 (zu ia 127 0 0, la, zRA pl dr cp cw rp) := fun v v2 e => fin v v2 _ _ _ _ _ (zFr_0 zFr_r) e
  have pll := zIsP_lt i1
  rw [e90, b90_0, S_isP i1 hC, kS, b90_5]
  rcases zpers x1 (N := N) (by omega) with h1 | ⟨h, hh, rfl, hn1⟩
  · rw [if_pos h1, if_neg (fun q => q rfl)]
    refine hc _ _ ?_
    rw [e200, b200_0, S_isM hR2, kS, b200_10, if_pos h1, if_neg (fun q => q rfl)]
    exact fin2 _ _ rfl
  rw [if_neg hn1, if_pos (by decide), S_isLet (Or.inl rfl) (by omega), show ia (72 + 3) = W 3 from zC_W hC (g := 3) (by omega), kS, b90_18]
  have pre : ∀ (K : Option Value → zHP → Prop) (sa : Nat → Nat → Int32) (lb : Nat → Nat → Int64) cp cw, zPR p (zu sa 127 0 0) N L T → zHas N 0 W r (zu sa 127 0 0) → zWM (d + 400) 200 [.ref 127, .int (nI h)] (sa, lb, zRA pl dr cp cw rp) K = (if W 3 h < 0 then zWM (d + 399) 196 [.ref 127] (zu sa 127 0 0, lb, zRA pl dr cp cw rp) (zK (d + 400) 200 31 [some (.ref 127), some (.int (nI h))] [] K) else K (some (.int (-2))) (zu sa 127 0 0, lb, zRA pl dr cp cw rp)) := by
    intro K sa lb cp cw hR2 hl2
    rw [e200, b200_0, S_isM hR2, kS, b200_10, if_neg hn1, if_pos (by decide)]
    refine Eq.trans (S_ltM (s := 0) (by omega) hl2 (by omega)) ?_
    rw [kS, b200_21]
    by_cases c : W 3 h < 0
    · rw [if_pos c, if_pos rfl, if_pos c]
    · rw [if_neg c, if_neg (by decide), if_neg c]
  by_cases cm : W 3 h < 0
  case neg =>
    rw [if_neg cm, if_neg (by decide)]
    refine hc _ _ ?_
    rw [pre _ _ _ _ _ hR2 (zHas_fr (la := la) (lb := la) (by decide) (zFr_0 zFr_r) (zC_0 hC)), if_neg cm]
    exact fin2 _ _ rfl
  rw [if_pos cm, if_pos rfl]
  obtain ⟨dm, nx, Ws, d1, d2, d3, d4, d5, d6, d7⟩ := hDe
  refine S_note (by omega) d2 d1 d3 d4 (fun ja hja => ?_)
  have ja_o : ∀ c, c ≠ 113 → c ≠ 114 → ja c = ia c := fun c e1 e2 => by funext k; rw [hja, if_neg (by omega), if_neg (by omega), if_neg (by omega), if_neg (by omega), if_neg (by omega), if_neg (by omega), if_neg (by omega), if_neg (by omega)]
  have fr2 : zFG (fun g => g = 0 ∨ g = 3 ∨ g = 5) ia ja := fun c k q => by
    by_cases e1 : c = 113
    · subst e1; exact absurd (Or.inr (Or.inr rfl)) q
    by_cases e2 : c = 114
    · subst e2; exact absurd (Or.inr (Or.inr rfl)) q
    rw [ja_o c e1 e2]
  have hWj : ∀ g, g < 10 → ja (72 + g) = W g := fun g hg => by rw [ja_o _ (by omega) (by omega)]; exact zC_W hC hg
  have hpj : ja (pl + 2) = p 2 := by rw [ja_o _ (by omega) (by omega)]; exact hC.1 2 (by omega)
  have n33 : nI h * 3 + 3 = nI (3 * h + 3) := by rw [n3', show (3 : Int32) = nI 3 from rfl, nI_add]
  rw [kN, b90_36, n3']
  have lp : ∀ (j : Nat) (V : Nat → Nat → Int32), j < 3 → zWP (d + 400) 90 40 [some (.ref 0), some (.int (nI h)), some (.int (nI (3 * h + j)))] [] (zPW 72 V ja, la, zRA pl dr cp cw rp) Kc = zWP (d + 400) 90 40 [some (.ref 0), some (.int (nI h)), some (.int (nI (3 * h + (j + 1))))] [] (zPW 72 (zLes p h j V) ja, la, zRA pl dr cp cw rp) Kc := by
    intro j V hj
    rw [b90_40 i1, n33, if_neg (nI_nle1 (by omega) (by omega)), zg (by omega) (by omega), zcln (by omega), zPW_p (Or.inl rfl) i1 (by omega), hpj, show zPW 72 V ja 74 = V 2 from zPW_g (g := 2) (by omega), ns]
    have u : ∀ v, zu (zPW 72 V ja) 74 (3 * h + j) v = zPW 72 (zu V 2 (3 * h + j) v) ja := fun v => zPW_u (g := 2) (by omega)
    rw [u]
    rfl
  have l0 := lp 0 W (by omega)
  rw [zPW_id hWj] at l0
  refine Eq.mpr l0 ?_
  rw [lp 1 _ (by omega), lp 2 _ (by omega)]
  have hVf := zWf_les hC.2.1 hh (zC_f hC)
  have hVc : ∀ g k, ¬ zCh h g k → zit (zLes p h) 3 W g k = W g k := fun g k q => by unfold zCh at q; rw [zLes_3, if_neg (by omega)]
  show zWP (d + 400) 90 40 [some (.ref 0), some (.int (nI h)), some (.int (nI (3 * h + 3)))] [] (zPW 72 (zit (zLes p h) 3 W) ja, la, zRA pl dr cp cw rp) Kc
  generalize hV : zit (zLes p h) 3 W = V at hVf hVc ⊢
  rw [b90_40 i1, n33, if_pos (nI_le1 (by omega) (by omega)), S_dist i1 rfl (show 3 * h + 2 < 18 by omega) (by decide) (by omega), show zPW 72 V ja 74 = V 2 from zPW_g (g := 2) (by omega), zPW_p (Or.inl rfl) i1 (by omega), hpj, kS, b90_105]
  have sa_o : ∀ c, c < 72 ∨ 82 ≤ c → c ≠ 113 → c ≠ 114 → c ≠ 127 → zu (zPW 72 V ja) 127 0 0 c = ia c := fun c e0 e2 e3 e7 => by rw [zu_o e7, zPW_o (by omega), ja_o c e2 e3]
  have sa_7 : ∀ k, k ≠ 0 → zu (zPW 72 V ja) 127 0 0 127 k = ia 127 k := fun k hk => by rw [zu_k hk, zPW_o (by omega), ja_o _ (by decide) (by decide)]
  have fr3 : zFG (fun g => g = 0 ∨ g = 3 ∨ g = 5) ia (zu (zPW 72 V ja) 127 0 0) := zFG_u (Or.inl rfl) (zFG_PW (fun c k h1 h2 => Or.inr (Or.inl (zgr_3 h1 (by omega)))) fr2)
  have hasx : ∀ s (A : Nat → Nat → Int32), zHas N s A r ia → zHas N s A r (zu (zPW 72 V ja) 127 0 0) := fun s A q => zHas_in (fun c k hc => by
    have : 147 ≤ c := by rcases hc with q | q | q | q | q <;> omega
    rw [sa_o c (by omega) (by omega) (by omega) (by omega)]) q
  have has0 := hasx 0 W (zC_0 hC)
  have hRx : zPR p (zu (zPW 72 V ja) 127 0 0) N L T := zPR_i (fun c h1 h2 => sa_o c (by omega) (by omega) (by omega) (by omega)) hR
  refine hc _ _ ?_
  rw [pre _ _ _ _ _ hRx has0, if_pos cm]
  refine S_keepN (Ws := Ws) d1 (by rw [sa_7 48 (by decide)]; exact d5) has0 d6 (fun i hi => hasx _ _ (d7 i hi).1) (fun na n1 n2 n3 n4 => ?_)
  rw [kN, b200_31]
  have has1 : zHas N 0 W r na := zHas_g (S := fun g => g = 5) (by decide) n1 has0
  have hRn : zPR p na N L T := zPR_i (fun c h1 h2 => zFG_c n1 (fun k => by rw [zgr_2b h1 h2]; decide)) hRx
  have le := S_lesM (d := d + 399) (pl := pl) (dr := dr) (cp := cp) (cw := cw) (rp := rp) (K := zK (d + 400) 200 37 [some (.ref 127), some (.int (nI h))] [] (Km (some (.int (zds (V 2) (p 2) (3 * h) (3 * h)))))) (la := la) (ia := na) (s := 0) (r := r) (W := W) (by omega) hN6 hRn hh
  rw [zHas_eq has1, hV] at le
  refine Eq.mpr le ?_
  rw [kN, b200_37, S_aN hN6 zHas_M (zPR_M hRn) hh hh, kS, b200_44]
  have low : ∀ c, c < 127 → zPM N 0 V r na c = zPW 72 V ja c := fun c hc => by rw [zPM_o (by omega), n2 c hc, zu_o (by omega)]
  have hF : zFG (fun g => g = 0 ∨ g = 3 ∨ g = 5) ia (zPM N 0 V r na) := zFG_PM (Or.inr (Or.inl rfl)) (zFG_t fr3 n1 (fun g q => Or.inr (Or.inr q)))
  refine hm _ _ _ _ _ _ _ _ (zdone (V := V) (h := h) i1 i2 i3 ⟨i4, i5, i6, i7⟩ hC hM hNo d1 d2 d6 (fun i hi => (d7 i hi).2) hh hVc hVf ?_ ?_ ?_ ?_ ?_ zHas_M ?_ hF rfl rfl) (zFG_9 hF (by decide)).1 (zFG_9 hF (by decide)).2
  · rw [low _ (by omega), zPW_o (by omega), hja, if_neg (by omega), if_pos ⟨rfl, rfl⟩]
  · rw [low _ (by omega), zPW_o (by omega), hja, if_pos ⟨rfl, rfl⟩]
  · intro k
    rw [low _ (by omega), zPW_o (by omega), hja, if_neg (by omega), if_neg (by omega)]
    simp only [true_and]
    rw [show ia 73 = W 1 from zC_W hC (g := 1) (by omega), show ia 74 = W 2 from zC_W hC (g := 2) (by omega), show ia 75 = W 3 from zC_W hC (g := 3) (by omega), show ia 76 = W 4 from zC_W hC (g := 4) (by omega), show ia 77 = W 5 from zC_W hC (g := 5) (by omega)]
  · rw [zPM_o (by omega), n3]
  · intro i hi
    exact zHas_o (by omega) (n4 i hi)
  · intro g hg
    rw [low _ (by omega)]; exact zPW_g hg
