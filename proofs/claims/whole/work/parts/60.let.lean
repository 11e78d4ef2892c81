/-! let, end, teach -/
theorem zPW_id {w : Nat} {W ia : Nat → Nat → Int32} (h : ∀ g, g < 10 → ia (w + g) = W g) : zPW w W ia = ia := by
  funext c
  unfold zPW
  by_cases e : w ≤ c ∧ c < w + 10
  · rw [if_pos e, ← h (c - w) (by omega)]
    congr 1
    omega
  · rw [if_neg e]
section ZP
variable {d pl dr N L T D s w : Nat} {cp cw rp : Option Nat} {p ia fa W V : Nat → Nat → Int32} {o : Nat → Int32} {r bn x y : Int32} {la fb : Nat → Nat → Int64} {K : Option Value → zHP → Prop}
theorem S_cbeg {b : Int32} (hp : zIsP pl) (hw : zIsW w) (hK : ∀ ia1 : Nat → Nat → Int32, (∀ c, c ≠ 102 → ia1 c = ia c) → ia1 102 3 = b → ia1 102 4 = ia (pl + 28) 0 → ia1 102 5 = -1 → ia1 102 6 = 0 → ia1 102 7 = 0 → K none (ia1, la, zRA pl dr (some pl) (some w) rp)) : zWM d 0 [.ref 102, .ref pl, .ref w, .int b] (ia, la, zRA pl dr cp cw rp) K := by
  rw [e0, b0_0 hp hw]
  refine hK _ (fun c hc => ?_) ?_ ?_ ?_ ?_ ?_
  · rw [zu_o hc, zu_o hc, zu_o hc, zu_o hc, zu_o hc]
  · rw [zu_k (by decide), zu_k (by decide), zu_k (by decide), zu_k (by decide), zu_eq]
  · rw [zu_k (by decide), zu_k (by decide), zu_k (by decide), zu_eq, zu_o (by have := zIsP_lt hp; omega)]
  · rw [zu_k (by decide), zu_k (by decide), zu_eq]
  · rw [zu_k (by decide), zu_eq]
  · rw [zu_eq]
theorem S_bnd2 {r h m : Nat} {pr : Int32} (hp : zIsP pl) (hw : zIsW w) (hr : r < 3) (hh : h < 6) (hm : m < 6) (hz : zLk (fun g => ia (pl + g))) (hW : ∀ g, g < 10 → ia (w + g) = W g) (hK : ∀ la', zL5 la la' → K (some (.int (zBnd (fun g => ia (pl + g)) (ia 102) W r h m pr))) (ia, la', zRA pl dr (some pl) (some w) rp)) : zWM (d + 5) 10 [.ref 102, .int (nI r), .int (nI h), .int (nI m), .int pr] (ia, la, zRA pl dr (some pl) (some w) rp) K := by
  have e := S_bnd (d := d) (pl := pl) (dr := dr) (rp := rp) (K := K) (la := la) (ia := ia) (W := W) (pr := pr) hp hw hr hh hm hz
  rw [zPW_id hW] at e
  exact e hK
theorem S_may2 {h m : Nat} {rent : Int32} (hw : zIsW w) (hh : h < 6) (hm : m < 6) (hW : ∀ g, g < 10 → ia (w + g) = W g) : zWM (d + 1) 71 [.ref w, .int (nI h), .int (nI m), .int rent] (ia, la, zRA pl dr cp cw rp) K = K (some (.int (if W 3 h < 0 ∧ ¬ W 1 m < rent then 1 else 0))) (ia, la, zRA pl dr cp cw rp) := by
  have e := S_may (d := d) (pl := pl) (dr := dr) (cp := cp) (cw := cw) (rp := rp) (K := K) (la := la) (ia := ia) (W := W) (rent := rent) hw hh hm
  rw [zPW_id hW] at e
  exact e
theorem zOp_b {b : Int32} (o3 : o 3 = b) (o4 : o 4 = p 28 0) (o5 : o 5 = -1) (o6 : o 6 = 0) (o7 : o 7 = 0) (t0 : ia 127 49 = 0) (t1 : ia 127 50 = -1) (t2 : ia 127 51 = -1) (hb : (bn = 0 → b = 1) ∧ (¬ bn = 0 → b = 0)) : zOp p o ia bn := by
  refine ⟨?_, ?_, ?_, ?_, ?_, ?_, ?_⟩
  · rw [t0, o6]; exact ⟨fun q => absurd q (by decide), fun q => absurd rfl q⟩
  · rw [t0, o7]; exact ⟨fun q => absurd q (by decide), fun q => absurd rfl q⟩
  · rw [t2, o4, if_pos rfl]
  · intro n hn
    rw [o5, t0]
    exact ⟨fun q => absurd q (fun z => nI_pos (n := n) (by omega) (by rw [z]; decide)), fun q => absurd q.1 (by decide)⟩
  · rw [t0]; intro q; exact absurd q (by decide)
  · rw [t0]; intro q; exact absurd q (by decide)
  · intro _ _; rw [o3]; exact hb
theorem zdone {dr nx m h : Nat} {Ws : Nat → Nat → Nat → Int32} (i1 : zIsP pl) (i2 : zIsP dr) (i3 : pl ≠ dr) (hTx : zTx ia) (hC : zCore pl p N L T D W r ia la) (hM : zImg p N T ia la) (hNo : zNote N ia) (hm : m ≤ 20) (hnx : nx < 20) (hWm : Ws m = W) (hold : ∀ i, i < m → zWf p N T D (Ws i) ∧ zRow N (ia 114) ((nx + 20 - m + i) % 20) (Ws i) (Ws (i + 1))) (hh : h < N) (hV : ∀ g k, ¬ zCh h g k → V g k = W g k) (hVf : zWf p N T D V) (k1 : fa 113 1 = nI ((nx + 1) % 20)) (k2 : fa 113 2 = nI (if m < 20 then m + 1 else 20)) (k4 : ∀ k, fa 114 k = if 13 * nx + 7 ≤ k ∧ k < 13 * nx + 7 + 6 then W 1 (0 + (k - (13 * nx + 7))) else if 13 * nx + 4 ≤ k ∧ k < 13 * nx + 4 + 3 then W 2 (3 * h + (k - (13 * nx + 4))) else if k = 13 * nx + 3 then W 5 h else if k = 13 * nx + 2 then W 4 h else if k = 13 * nx + 1 then W 3 h else if k = 13 * nx then nI h else ia 114 k) (k3 : fa 127 48 = nI (if m < 20 then m + 1 else 20)) (hs : ∀ i, i < (if m < 20 then m + 1 else 20) → zHas N (3 + i) (if m < 20 then Ws i else Ws (i + 1)) r fa) (h0 : zHas N 0 V r fa) (hw : ∀ g, g < 10 → fa (72 + g) = V g) (hF : zFG (fun g => g = 0 ∨ g = 3 ∨ g = 5) ia fa) (l72 : fb 72 = la 72) (l82 : fb 82 = la 82) : zInv pl dr fa fb := by
  refine zInv_mk i1 i2 i3 (zTx_e hF (by decide) hTx) (zCore_p i1 hF (by decide) hC hC.2.2.2.1 hw hVf h0 (by rw [l72]; exact hC.2.2.2.2.2.2.2.1)) (zImg_e hF (by decide) l82 hM) ?_ (zNote_e hF (by decide) hNo)
  refine zDeed_note hm hnx hWm hold hC.2.2.2.2.2.1 k1 k2 k3 hs ?_ (fun k hk => ?_)
  · refine ⟨h, hh, ?_, ?_, ?_, ?_, fun i hi => ?_, fun i hi => ?_, hV⟩
    · rw [k4, if_neg (by omega), if_neg (by omega), if_neg (by omega), if_neg (by omega), if_neg (by omega), if_pos rfl]
    · rw [k4, if_neg (by omega), if_neg (by omega), if_neg (by omega), if_neg (by omega), if_pos rfl]
    · rw [k4, if_neg (by omega), if_neg (by omega), if_neg (by omega), if_pos rfl]
    · rw [k4, if_neg (by omega), if_neg (by omega), if_pos rfl]
    · rw [k4, if_neg (by omega), if_pos (by omega)]
      congr 1
      omega
    · rw [k4, if_pos (by omega)]
      congr 1
      omega
  · rw [k4, if_neg (by omega), if_neg (by omega), if_neg (by omega), if_neg (by omega), if_neg (by omega), if_neg (by omega)]
end ZP
theorem zOver_ch {W : Nat → Nat → Int32} {h m : Nat} {days rent : Int32} (hm : m < 6) (hh : h < 6) {g k : Nat} (hc : ¬ zCh h g k) : zOver W h m days rent g k = W g k := by
  unfold zCh at hc
  by_cases e : g = 1
  · subst e
    rw [zOver_1 (by omega) (by omega)]
  · rw [zOver_at e, if_neg (by omega), if_neg (by omega)]
theorem T_let {d pl dr : Nat} {cp cw rp : Option Nat} {ia : Nat → Nat → Int32} {la : Nat → Nat → Int64} {Kc : Option Value → zHP → Prop} {Km : Option Value → Option Value → zHP → Prop} {x1 x2 x3 x4 : Int32} (hI : zInv pl dr ia la) (hc : ∀ v hp, zWM (d + 400) 197 [.ref 127, .int x1, .int x2, .int x3, .int x4] hp (Km v) → Kc v hp) (hm : zEndK ia Km) : zWM (d + 400) 88 [.ref 0, .int x1, .int x2, .int x3, .int x4] (ia, la, zRA pl dr cp cw rp) Kc := by
  have fin := zfin hI hm
  obtain ⟨i1, i2, i3, i4, i5, i6, i7, p, N, L, T, D, W, r, hC, hM, hDe, hNo⟩ := hI
  have hN6 : N ≤ 6 := hC.2.1.2.1
  have hT12 : T ≤ 12 := hC.2.1.2.2.2.2.2.1
  have hR := hC.2.2.1
  have o0 : ∀ c, c ≠ 127 → zu ia 127 0 0 c = ia c := fun c h => zu_o h
  have hR2 : zPR p (zu ia 127 0 0) N L T := zPR_i (fun c h1 h2 => zu_o (by omega)) hR
  have fin2 : ∀ v v2 : Option Value, v2 = v → Km v v2 (zu ia 127 0 0, la, zRA pl dr cp cw rp) := fun v v2 e => fin v v2 _ _ _ _ _ (zFr_0 zFr_r) e
  rw [e88, b88_0, S_isP i1 hC, kS, b88_5]
  rcases zpers x1 (N := N) (by omega) with h1 | ⟨h, hh, rfl, hn1⟩
  · rw [if_pos h1, if_pos rfl]
    refine hc _ _ ?_
    rw [e197, b197_0, S_isM hR2, kS, b197_10, if_pos h1, if_pos rfl]
    exact fin2 _ _ rfl
  rw [if_neg hn1, if_neg (by decide), S_isP i1 hC, kS, b88_13]
  rcases zpers x2 (N := N) (by omega) with h2 | ⟨m, hm', rfl, hn2⟩
  · rw [if_pos h2, if_pos rfl]
    refine hc _ _ ?_
    rw [e197, b197_0, S_isM hR2, kS, b197_10, if_neg hn1, if_neg (by decide), S_isM hR2, kS, b197_18, if_pos h2, if_pos rfl]
    exact fin2 _ _ rfl
  rw [if_neg hn2, if_neg (by decide)]
  have pre : ∀ (K : Option Value → zHP → Prop) (sa : Nat → Nat → Int32) (lb : Nat → Nat → Int64) cp cw, zPR p (zu sa 127 0 0) N L T → zWM (d + 400) 197 [.ref 127, .int (nI h), .int (nI m), .int x3, .int x4] (sa, lb, zRA pl dr cp cw rp) K = (if nI h = nI m then K (some (.int (-1))) (zu sa 127 0 0, lb, zRA pl dr cp cw rp) else if x3 < 1 then K (some (.int (-1))) (zu sa 127 0 0, lb, zRA pl dr cp cw rp) else if 99 < x3 then K (some (.int (-1))) (zu sa 127 0 0, lb, zRA pl dr cp cw rp) else if x4 < 0 then K (some (.int (-1))) (zu sa 127 0 0, lb, zRA pl dr cp cw rp) else if x4 ≤ 99 then zWM (d + 399) 178 [.ref 127, .int (nI 0), .int (nI h), .int (nI m), .int x4] (zu sa 127 0 0, lb, zRA pl dr cp cw rp) (zK (d + 400) 197 60 [some (.ref 127), some (.int (nI h)), some (.int (nI m)), some (.int x3), some (.int x4)] [] K) else K (some (.int (-1))) (zu sa 127 0 0, lb, zRA pl dr cp cw rp)) := by
    intro K sa lb cp cw hR2
    rw [e197, b197_0, S_isM hR2, kS, b197_10, if_neg hn1, if_neg (by decide), S_isM hR2, kS, b197_18, if_neg hn2, if_neg (by decide)]
    rfl
  by_cases c1 : nI h = nI m
  · rw [if_neg (fun q => q c1)]
    refine hc _ _ ?_
    rw [pre _ _ _ _ _ hR2, if_pos c1]
    exact fin2 _ _ rfl
  rw [if_pos c1]
  by_cases c2 : x3 < 1
  · rw [if_pos c2]
    refine hc _ _ ?_
    rw [pre _ _ _ _ _ hR2, if_neg c1, if_pos c2]
    exact fin2 _ _ rfl
  rw [if_neg c2]
  by_cases c3 : 99 < x3
  · rw [if_pos c3]
    refine hc _ _ ?_
    rw [pre _ _ _ _ _ hR2, if_neg c1, if_neg c2, if_pos c3]
    exact fin2 _ _ rfl
  rw [if_neg c3, e87, b87_0]
  by_cases c4 : x4 < 0
  · rw [if_pos c4, kS, b88_39, if_neg (fun q => q rfl)]
    refine hc _ _ ?_
    rw [pre _ _ _ _ _ hR2, if_neg c1, if_neg c2, if_neg c3, if_pos c4]
    exact fin2 _ _ rfl
  rw [if_neg c4]
  by_cases c5 : 99 < x4
  · rw [if_pos c5, kS, b88_39, if_neg (fun q => q rfl)]
    refine hc _ _ ?_
    rw [pre _ _ _ _ _ hR2, if_neg c1, if_neg c2, if_neg c3, if_neg c4, if_neg (Int32.not_le.mpr c5)]
    exact fin2 _ _ rfl
  rw [if_neg c5, kS, b88_39, if_pos (by decide)]
  obtain ⟨days, hd99, rfl⟩ : ∃ n, n ≤ 99 ∧ x3 = nI n := nI_of2 (M := 99) (by decide) (fun z => c2 (Int32.lt_trans z (by decide))) (Int32.not_lt.mp c3)
  have hd0 : 0 < days := by
    by_cases z : days = 0
    · subst z; exact absurd (show nI 0 < 1 by decide) c2
    · omega
  refine S_cbeg i1 (Or.inl rfl) (fun ia1 f0 f3 f4 f5 f6 f7 => ?_)
  have pll := zIsP_lt i1
  have hP : ∀ g, g < 33 → (fun g => ia1 (pl + g)) g = p g := fun g hg => by show ia1 (pl + g) = p g; rw [f0 _ (by omega)]; exact hC.1 g hg
  have hlk : zLk (fun g => ia1 (pl + g)) := zLk_e hP hC.2.1.2.2.2.2.2.2.2.2.1
  have hW1 : ∀ g, g < 10 → ia1 (72 + g) = W g := fun g hg => by rw [f0 _ (by omega)]; exact zC_W hC hg
  rw [kN, b88_60]
  refine S_bnd2 (r := 0) i1 (Or.inl rfl) (by omega) (by omega) (by omega) hlk hW1 (fun la2 h5 => ?_)
  rw [kS, b88_72, S_may2 (Or.inl rfl) (by omega) (by omega) hW1, kS, b88_85]
  generalize hbd : zBnd (fun g => ia1 (pl + g)) (ia1 102) W 0 h m x4 = rent
  have fr1 : zFG (fun g => g = 0) ia ia1 := fun c k q => by
    by_cases e : c = 102
    · subst e; exact absurd rfl q
    · rw [f0 c e]
  have l72 : la2 72 = la 72 := h5 72 (by decide) (by decide)
  have l82 : la2 82 = la 82 := h5 82 (by decide) (by decide)
  have hR1 : ∀ sa, (∀ c, 129 ≤ c → c ≤ 144 → sa c = ia1 c) → zPR (fun g => ia1 (pl + g)) sa N L T := fun sa hsa => zPR_i (fun c h1 h2 => by rw [hsa c h1 h2, f0 c (by omega)]) (zPR_e hP hC.2.1 hR)
  have hO1 : ∀ sa, (∀ k, k ≠ 0 → sa 127 k = ia 127 k) → zOp (fun g => ia1 (pl + g)) (ia1 102) sa 1 := fun sa hsa => zOp_b f3 (by rw [f4]; show ia (pl + 28) 0 = ia1 (pl + 28) 0; rw [f0 _ (by omega)]) f5 f6 f7 (by rw [hsa _ (by decide)]; exact hC.2.2.2.2.2.2.2.2.1) (by rw [hsa _ (by decide)]; exact hC.2.2.2.2.2.2.2.2.2.1) (by rw [hsa _ (by decide)]; exact hC.2.2.2.2.2.2.2.2.2.2) ⟨fun q => absurd q (by decide), fun _ => rfl⟩
  have can : ∀ (K : Option Value → zHP → Prop) (sa : Nat → Nat → Int32) (lb : Nat → Nat → Int64) cp cw, (∀ c, 129 ≤ c → c ≤ 144 → sa c = ia1 c) → (∀ k, k ≠ 0 → sa 127 k = ia 127 k) → zHas N 0 W r sa → (∀ ja lc, zSc sa ja → zL7 lb lc → K (some (.int (if W 3 h < 0 ∧ ¬ W 1 m < rent then 1 else 0))) (ja, lc, zRA pl dr cp cw rp)) → zWM (d + 399) 178 [.ref 127, .int (nI 0), .int (nI h), .int (nI m), .int x4] (sa, lb, zRA pl dr cp cw rp) K := by
    intro K sa lb cp cw q1 q2 q3 q4
    have e := S_can (d := d + 389) (pl := pl) (dr := dr) (cp := cp) (cw := cw) (rp := rp) (K := K) (la := lb) (ia := sa) (s := 0) (r := r) (W := W) (pr := x4) (h := h) (m := m) hlk (hR1 sa q1) (hO1 sa q2) (by omega) hN6 hh (by omega)
    rw [zHas_eq q3, hbd] at e
    refine e (fun ja lc h6 h7 => ?_)
    rw [zHas_eq (zHas_sc h6 q3)]
    exact q4 ja lc h6 h7
  by_cases cm : W 3 h < 0 ∧ ¬ W 1 m < rent
  · rw [if_pos cm, if_pos (by decide)]
    rw [if_pos cm] at can
    obtain ⟨dm, nx, Ws, d1, d2, d3, d4, d5, d6, d7⟩ := hDe
    have g1 : ia1 113 1 = nI nx := by rw [f0 _ (by decide)]; exact d3
    have g2 : ia1 113 2 = nI dm := by rw [f0 _ (by decide)]; exact d4
    refine S_note (by omega) d2 d1 g1 g2 (fun ja hja => ?_)
    have ja_o : ∀ c, c ≠ 113 → c ≠ 114 → ja c = ia1 c := fun c e1 e2 => by funext k; rw [hja, if_neg (by omega), if_neg (by omega), if_neg (by omega), if_neg (by omega), if_neg (by omega), if_neg (by omega), if_neg (by omega), if_neg (by omega)]
    have fr2 : zFG (fun g => g = 0 ∨ g = 3 ∨ g = 5) ia ja := fun c k q => by
      by_cases e1 : c = 113
      · subst e1; exact absurd (Or.inr (Or.inr rfl)) q
      by_cases e2 : c = 114
      · subst e2; exact absurd (Or.inr (Or.inr rfl)) q
      rw [ja_o c e1 e2, fr1 c k (fun z => q (Or.inl z))]
    have hWj : ∀ g, g < 10 → ja (72 + g) = W g := fun g hg => by rw [ja_o _ (by omega) (by omega)]; exact hW1 g hg
    rw [kN, b88_103]
    have ov := S_over (d := d + 394) (pl := pl) (dr := dr) (cp := some pl) (cw := some 72) (rp := rp) (K := zK (d + 400) 88 115 [some (.ref 0), some (.int (nI h)), some (.int (nI m)), some (.int (nI days)), some (.int x4), some (.int rent)] [] Kc) (la := la2) (ia := ja) (W := W) (days := nI days) (rent := rent) (w := 72) (h := h) (m := m) (Or.inl rfl) (by omega) (by omega)
    rw [zPW_id hWj] at ov
    refine Eq.mpr ov ?_
    rw [kN, b88_115, zg (by omega) (by omega), zcln (by omega), show zPW 72 (zOver W h m (nI days) rent) ja 73 = zOver W h m (nI days) rent 1 from zPW_g (g := 1) (by omega)]
    have hVf := zWf_over (rent := rent) hh hm' hd0 (show days < 100 by omega) (zC_f hC)
    have hVc : ∀ g k, ¬ zCh h g k → zOver W h m (nI days) rent g k = W g k := fun g k q => zOver_ch (by omega) (by omega) q
    generalize hV : zOver W h m (nI days) rent = V at hVf hVc ⊢
    have sa_o : ∀ c, c < 72 ∨ 82 ≤ c → c ≠ 113 → c ≠ 114 → c ≠ 127 → zu (zPW 72 V ja) 127 0 0 c = ia1 c := fun c e0 e1 e2 e7 => by rw [zu_o e7, zPW_o (by omega), ja_o c e1 e2]
    have sa_7 : ∀ k, k ≠ 0 → zu (zPW 72 V ja) 127 0 0 127 k = ia 127 k := fun k hk => by rw [zu_k hk, zPW_o (by omega), ja_o _ (by decide) (by decide), f0 _ (by decide)]
    have fr3 : zFG (fun g => g = 0 ∨ g = 3 ∨ g = 5) ia (zu (zPW 72 V ja) 127 0 0) := zFG_u (Or.inl rfl) (zFG_PW (fun c k h1 h2 => Or.inr (Or.inl (zgr_3 h1 (by omega)))) fr2)
    have has0 : zHas N 0 W r (zu (zPW 72 V ja) 127 0 0) := zHas_in (fun c k hc => by
      have : 147 ≤ c := by rcases hc with q | q | q | q | q <;> omega
      rw [sa_o c (by omega) (by omega) (by omega) (by omega), f0 c (by omega)]) (zC_0 hC)
    have hass : ∀ i, i < dm → zHas N (3 + i) (Ws i) r (zu (zPW 72 V ja) 127 0 0) := fun i hi => zHas_in (fun c k hc => by
      have : 147 ≤ c := by rcases hc with q | q | q | q | q <;> omega
      rw [sa_o c (by omega) (by omega) (by omega) (by omega), f0 c (by omega)]) (d7 i hi).1
    refine hc _ _ ?_
    rw [pre _ _ _ _ _ (zPR_i (fun c h1 h2 => by rw [sa_o c (by omega) (by omega) (by omega) (by omega), f0 c (by omega)]) hR), if_neg c1, if_neg c2, if_neg c3, if_neg c4, if_pos (Int32.not_lt.mp c5)]
    refine can _ _ _ _ _ (fun c h1 h2 => sa_o c (by omega) (by omega) (by omega) (by omega)) sa_7 has0 (fun ka lc h6 h7 => ?_)
    rw [kS, b197_60, if_pos (by decide)]
    refine S_keepN (Ws := Ws) d1 (by rw [zSc_k h6 (by decide), sa_7 48 (by decide)]; exact d5) (zHas_sc h6 has0) d6 (fun i hi => zHas_sc h6 (hass i hi)) (fun na n1 n2 n3 n4 => ?_)
    rw [kN, b197_70]
    have has1 : zHas N 0 W r na := zHas_g (S := fun g => g = 5) (by decide) n1 (zHas_sc h6 has0)
    have le := S_lets (d := d + 389) (pl := pl) (dr := dr) (cp := some pl) (cw := some 72) (rp := rp) (K := zK (d + 400) 197 80 [some (.ref 127), some (.int (nI h)), some (.int (nI m)), some (.int (nI days)), some (.int x4)] [] (Km (some (.int (V 1 m))))) (la := lc) (ia := na) (s := 0) (r := r) (W := W) (pr := x4) (days := nI days) (h := h) (m := m) hlk (hR1 na (fun c h1 h2 => by rw [zFG_c n1 (fun k => by rw [zgr_2b h1 h2]; decide), zSc_c h6 (by omega)]; exact sa_o c (by omega) (by omega) (by omega) (by omega))) (zOp_b (b := 0) (bn := 1) f3 (by rw [f4]; show ia (pl + 28) 0 = ia1 (pl + 28) 0; rw [f0 _ (by omega)]) f5 f6 f7 (by rw [n1 127 49 (by decide), zSc_k h6 (by decide), sa_7 _ (by decide)]; exact hC.2.2.2.2.2.2.2.2.1) (by rw [n1 127 50 (by decide), zSc_k h6 (by decide), sa_7 _ (by decide)]; exact hC.2.2.2.2.2.2.2.2.2.1) (by rw [n1 127 51 (by decide), zSc_k h6 (by decide), sa_7 _ (by decide)]; exact hC.2.2.2.2.2.2.2.2.2.2) ⟨fun q => absurd q (by decide), fun _ => rfl⟩) (by omega) hN6 hh (by omega)
    rw [zHas_eq has1, hbd, hV] at le
    refine le (fun ua lu h8 h9 => ?_)
    have e156 : zPM N 0 V r ua 156 m = V 1 m := by
      have := (zHas_M (N := N) (s := 0) (W := V) (r := r) (ia := ua)).2.2.2.2.2.2.1 m (by omega)
      rw [Nat.mul_zero, Nat.zero_add] at this
      exact this.2.2.2
    rw [kN, b197_80, zg (by omega) (by omega), zcln (by omega), e156]
    have low : ∀ c, c < 127 → zPM N 0 V r ua c = zPW 72 V ja c := fun c hc => by rw [zPM_o (by omega), zSc_c h8 (by omega), n2 c hc, zSc_c h6 (by omega), zu_o (by omega)]
    have hF : zFG (fun g => g = 0 ∨ g = 3 ∨ g = 5) ia (zPM N 0 V r ua) := by
      refine zFG_PM (Or.inr (Or.inl rfl)) ?_
      obtain ⟨x, rfl⟩ := h8
      obtain ⟨y, rfl⟩ := h6
      exact zFG_u (Or.inl rfl) (zFG_t (zFG_u (Or.inl rfl) fr3) n1 (fun g q => Or.inr (Or.inr q)))
    refine hm _ _ _ _ _ _ _ _ (zdone (V := V) (h := h) i1 i2 i3 ⟨i4, i5, i6, i7⟩ hC hM hNo d1 d2 d6 (fun i hi => (d7 i hi).2) hh hVc hVf ?_ ?_ ?_ ?_ ?_ zHas_M ?_ hF ?_ ?_) (zFG_9 hF (by decide)).1 (zFG_9 hF (by decide)).2
    · rw [low _ (by omega), zPW_o (by omega), hja, if_neg (by omega), if_pos ⟨rfl, rfl⟩]
    · rw [low _ (by omega), zPW_o (by omega), hja, if_pos ⟨rfl, rfl⟩]
    · intro k
      rw [low _ (by omega), zPW_o (by omega), hja, if_neg (by omega), if_neg (by omega)]
      simp only [true_and]
      rw [show ia1 73 = W 1 from hW1 1 (by omega), show ia1 74 = W 2 from hW1 2 (by omega), show ia1 75 = W 3 from hW1 3 (by omega), show ia1 76 = W 4 from hW1 4 (by omega), show ia1 77 = W 5 from hW1 5 (by omega), f0 114 (by decide)]
    · rw [zPM_o (by omega), zSc_k h8 (by decide), n3]
    · intro i hi
      exact zHas_o (by omega) (zHas_sc h8 (n4 i hi))
    · intro g hg
      rw [low _ (by omega)]; exact zPW_g hg
    · rw [h9 72 (by decide) (by decide), h7 72 (by decide) (by decide), l72]
    · rw [h9 82 (by decide) (by decide), h7 82 (by decide) (by decide), l82]
  · rw [if_neg cm, if_neg (fun q => q rfl)]
    rw [if_neg cm] at can
    have sa_o : ∀ c, c ≠ 127 → zu ia1 127 0 0 c = ia1 c := fun c e => zu_o e
    have fr3 : zFr ia la (zu ia1 127 0 0) la2 := ⟨zFG_u rfl fr1, l72, l82⟩
    refine hc _ _ ?_
    rw [pre _ _ _ _ _ (zPR_i (fun c h1 h2 => by rw [sa_o c (by omega), f0 c (by omega)]) hR), if_neg c1, if_neg c2, if_neg c3, if_neg c4, if_pos (Int32.not_lt.mp c5)]
    refine can _ _ _ _ _ (fun c h1 h2 => sa_o c (by omega)) (fun k hk => by rw [zu_k hk, f0 _ (by decide)]) (zHas_fr (by decide) fr3 (zC_0 hC)) (fun ka lc h6 h7 => ?_)
    rw [kS, b197_60, if_neg (fun q => q rfl)]
    exact fin _ _ _ _ _ _ _ (zFr_7 (zFr_sc fr3 h6) h7) rfl
