/-! see, go, ahead, free -/
theorem zrS_rS {s : Nat} {u v : Int32} {g : Nat → Int32} : zrS s u (zrS s v g) = zrS s u g := by
  funext i
  unfold zrS
  by_cases e : i = s
  · rw [if_pos e, if_pos e]
  · rw [if_neg e, if_neg e, if_neg e]
theorem zrB_rB {b n : Nat} {f f' g : Nat → Int32} : zrB b n f (zrB b n f' g) = zrB b n f g := by
  funext i
  unfold zrB
  by_cases e : b ≤ i ∧ i < b + n
  · rw [if_pos e, if_pos e]
  · rw [if_neg e, if_neg e, if_neg e]
section ZP
variable {d pl dr N L T D s w : Nat} {cp cw rp : Option Nat} {p ia W V : Nat → Nat → Int32} {o : Nat → Int32} {r q bn x y : Int32} {la : Nat → Nat → Int64} {K : Option Value → zHP → Prop}
theorem zPM_pm : zPM N s V q (zPM N s W r ia) = zPM N s V q ia := by
  refine zPM_all ?_ (fun c h => zPM_o h)
  refine zPM_12 (P := fun c => zPM N s V q (zPM N s W r ia) c = zPM N s V q ia c) ?_ ?_ ?_ ?_ ?_ ?_ ?_ ?_ ?_ ?_ ?_ ?_
  · rw [zPM_147, zPM_147, zPM_147]; exact zrS_rS
  · rw [zPM_148, zPM_148, zPM_148]; exact zrS_rS
  · rw [zPM_149, zPM_149, zPM_149]; exact zrS_rS
  · rw [zPM_150, zPM_150, zPM_150]; exact zrS_rS
  · rw [zPM_151, zPM_151, zPM_151]; exact zrS_rS
  · rw [zPM_152, zPM_152, zPM_152]; exact zrB_rB
  · rw [zPM_153, zPM_153, zPM_153]; exact zrB_rB
  · rw [zPM_154, zPM_154, zPM_154]; exact zrB_rB
  · rw [zPM_155, zPM_155, zPM_155]; exact zrB_rB
  · rw [zPM_156, zPM_156, zPM_156]; exact zrB_rB
  · rw [zPM_157, zPM_157, zPM_157]; exact zrB_rB
  · rw [zPM_158, zPM_158, zPM_158]; exact zrB_rB
theorem zPM_v (hv : zVis N W V) : zPM N s W r ia = zPM N s V r ia := by
  have h := zHas_eq (zHas_v hv (zHas_M (N := N) (s := s) (W := W) (r := r) (ia := ia)))
  rw [zPM_pm] at h
  exact h.symm
theorem S_try {b : Int32} (hp : zIsP pl) (hW : ∀ g, g < 10 → ia (72 + g) = W g) (hK : ∀ (ia1 V : Nat → Nat → Int32), zWEq W V → (∀ c, c < 92 ∨ 102 < c → ia1 c = ia c) → (∀ g, g < 10 → ia1 (92 + g) = V g) → ia1 102 3 = b → ia1 102 4 = ia (pl + 28) 0 → ia1 102 5 = -1 → ia1 102 6 = 0 → ia1 102 7 = 0 → K none (ia1, zu la 92 1 (la 72 1), zRA pl dr (some pl) (some 92) rp)) : zWM (d + 6) 92 [.ref 0, .int b] (ia, la, zRA pl dr cp cw rp) K := by
  have pll := zIsP_lt hp
  have cw0 := S_copyW (d := d) (pl := pl) (dr := dr) (cp := cp) (cw := cw) (rp := rp) (K := zK (d + 6) 92 11 [some (.ref 0), some (.int b)] [] K) (la := la) (ia := ia) (V := fun g => ia (92 + g)) (w0 := 92) (w1 := 72) (Or.inr (Or.inr rfl)) (Or.inl rfl) (by omega)
  rw [zPW_s] at cw0
  rw [e92, b92_0]
  refine Eq.mpr cw0 ?_
  have hWq : zWEq W (zCpW (fun g => ia (72 + g)) (fun g => ia (92 + g))) := zWEq_c (fun g hg => hW g hg) zCpW_eq
  generalize zCpW (fun g => ia (72 + g)) (fun g => ia (92 + g)) = V at hWq ⊢
  rw [kN, b92_11]
  refine S_cbeg hp (Or.inr (Or.inr rfl)) (fun ia1 f0 f3 f4 f5 f6 f7 => ?_)
  rw [kN, b92_27]
  refine hK ia1 V hWq (fun c hc => ?_) (fun g hg => ?_) f3 ?_ f5 f6 f7
  · rw [f0 c (by omega), zPW_o (by omega)]
  · rw [f0 _ (by omega), zPW_g hg]
  · rw [f4, zPW_o (by omega)]
theorem S_play2 {n : Nat} (hn : n < 100000) (hw : zIsW w) (hp : zIsP pl) (hW : ∀ g, g < 10 → ia (w + g) = W g) (hk : zPk (fun g => ia (pl + g)) N L T) (hT : zTen N W) (hK : ∀ la', (∀ c, c ≠ 104 → c ≠ 105 → c ≠ w → la' c = la c) → la' w 1 = (zDays (fun g => ia (pl + g)) (ia 102) n W (la w 1)).2 → K none (zPW w (zDays (fun g => ia (pl + g)) (ia 102) n W (la w 1)).1 ia, la', zRA pl dr (some pl) (some w) rp)) : zWM (d + 8) 1 [.ref 102, .int (nI n)] (ia, la, zRA pl dr (some pl) (some w) rp) K := by
  have e := S_play (d := d) (pl := pl) (dr := dr) (rp := rp) (K := K) (la := la) (ia := ia) (W := W) (p := pl) (w := w) (N := N) (L := L) (T := T) hn hw hp hk hT
  rw [zPW_id hW] at e
  exact e hK
end ZP
theorem T_see {d pl dr : Nat} {cp cw rp : Option Nat} {ia : Nat → Nat → Int32} {la : Nat → Nat → Int64} {Kc : Option Value → zHP → Prop} {Km : Option Value → Option Value → zHP → Prop} {x1 x2 x3 x4 x5 : Int32} (hx5 : x5 = 0 ∨ x5 = 1) (hI : zInv pl dr ia la) (hc : ∀ v hp, zWM (d + 400) 224 [.ref 127, .int x1, .int x2, .int x3, .int x4, .int x5] hp (Km v) → Kc v hp) (hm : zEndK ia Km) : zWM (d + 400) 117 [.ref 0, .int x1, .int x2, .int x3, .int x4, .int x5] (ia, la, zRA pl dr cp cw rp) Kc := by
  have fin := zfin hI hm
  obtain ⟨i1, i2, i3, i4, i5, i6, i7, p, N, L, T, D, W, r, hC, hM, hDe, hNo⟩ := hI
  have hN6 : N ≤ 6 := hC.2.1.2.1
  have hT12 : T ≤ 12 := hC.2.1.2.2.2.2.2.1
  have hR2 : zPR p (zu ia 127 0 0) N L T := zPR_i (fun c h1 h2 => zu_o (by omega)) hC.2.2.1
  have fin2 : ∀ v v2 : Option Value, v2 = v → Km v v2 (zu ia 127 0 0, la, zRA pl dr cp cw rp) := fun v v2 e => fin v v2 _ _ _ _ _ (zFr_0 zFr_r) e
  have bo : vp_nar .boolean x5 = x5 := by rcases hx5 with e | e <;> subst e <;> rfl
  obtain ⟨m, k1, k2, k3, k4, k5, k6⟩ := hNo
  have pre : ∀ (K : Option Value → zHP → Prop) (sa : Nat → Nat → Int32), zPR p (zu sa 127 0 0) N L T → sa 127 57 = nI m → zWM (d + 400) 224 [.ref 127, .int x1, .int x2, .int x3, .int x4, .int x5] (sa, la, zRA pl dr cp cw rp) K = (if x1 < 1 then K (some (.int (-1))) (zu sa 127 0 0, la, zRA pl dr cp cw rp) else if 60 < x1 then K (some (.int (-1))) (zu sa 127 0 0, la, zRA pl dr cp cw rp) else if x2 < 0 ∨ nI N ≤ x2 then K (some (.int (-1))) (zu sa 127 0 0, la, zRA pl dr cp cw rp) else if x3 < 0 then K (some (.int (-1))) (zu sa 127 0 0, la, zRA pl dr cp cw rp) else if 3 ≤ x3 then K (some (.int (-1))) (zu sa 127 0 0, la, zRA pl dr cp cw rp) else if x4 < 0 then K (some (.int (-1))) (zu sa 127 0 0, la, zRA pl dr cp cw rp) else if 99 < x4 then K (some (.int (-1))) (zu sa 127 0 0, la, zRA pl dr cp cw rp) else if ¬ nI m = 24 then (vp_in (nI m) 24 ∧ K (some (.int (nI m))) (zu (zu (zu (zu (zu (zu (zu sa 127 0 0) 162 m x1) 163 m (3 * x2 + x3)) 164 m x4) 165 m x5) 166 m (-1)) 127 57 (nI (m + 1)), la, zRA pl dr cp cw rp)) else K (some (.int (-1))) (zu sa 127 0 0, la, zRA pl dr cp cw rp)) := by
    intro K sa hR e
    have e2 : zu sa 127 0 0 127 57 = nI m := by rw [zu_k (by decide)]; exact e
    rw [e224, b224_0, S_isM hR, kS, b224_21]
    simp only [zu_ne (show (127 : Nat) ≠ 162 by decide), zu_ne (show (127 : Nat) ≠ 163 by decide), zu_ne (show (127 : Nat) ≠ 164 by decide), zu_ne (show (127 : Nat) ≠ 165 by decide), zu_ne (show (127 : Nat) ≠ 166 by decide), e2, zcln (show m < 100000 by omega), bo, zu_eq, ns, np]
    by_cases c1 : x1 < 1
    · rw [if_pos c1, if_pos c1]
    rw [if_neg c1, if_neg c1]
    by_cases c2 : 60 < x1
    · rw [if_pos c2, if_pos c2]
    rw [if_neg c2, if_neg c2]
    by_cases c3 : x2 < 0 ∨ nI N ≤ x2
    · rw [if_pos c3, if_pos c3, if_pos rfl]
    rw [if_neg c3, if_neg c3, if_neg (show ¬ (1 : Int32) = 0 by decide)]
    by_cases c4 : m < 24
    · simp only [zg c4 (show 24 < 100000 by omega)]
    · have e24 : nI m = 24 := by rw [show m = 24 by omega]; rfl
      simp only [e24, not_true, if_false]
  rw [e117, b117_0]
  by_cases c1 : x1 < 1
  · rw [if_pos c1]
    refine hc _ _ ?_
    rw [pre _ _ hR2 k3, if_pos c1]
    exact fin2 _ _ rfl
  rw [if_neg c1]
  by_cases c2 : 60 < x1
  · rw [if_pos c2]
    refine hc _ _ ?_
    rw [pre _ _ hR2 k3, if_neg c1, if_pos c2]
    exact fin2 _ _ rfl
  rw [if_neg c2, S_isP i1 hC, kS, b117_16]
  rcases zpers x2 (N := N) (by omega) with c3 | ⟨h, hh, rfl, c3⟩
  · rw [if_pos c3, if_neg (fun q => q rfl)]
    refine hc _ _ ?_
    rw [pre _ _ hR2 k3, if_neg c1, if_neg c2, if_pos c3]
    exact fin2 _ _ rfl
  rw [if_neg c3, if_pos (show ¬ (1 : Int32) = 0 by decide)]
  by_cases c4 : x3 < 0
  · rw [if_pos c4]
    refine hc _ _ ?_
    rw [pre _ _ hR2 k3, if_neg c1, if_neg c2, if_neg c3, if_pos c4]
    exact fin2 _ _ rfl
  rw [if_neg c4]
  by_cases c5 : 3 ≤ x3
  · rw [if_pos c5]
    refine hc _ _ ?_
    rw [pre _ _ hR2 k3, if_neg c1, if_neg c2, if_neg c3, if_neg c4, if_pos c5]
    exact fin2 _ _ rfl
  rw [if_neg c5]
  by_cases c6 : x4 < 0
  · rw [if_pos c6]
    refine hc _ _ ?_
    rw [pre _ _ hR2 k3, if_neg c1, if_neg c2, if_neg c3, if_neg c4, if_neg c5, if_pos c6]
    exact fin2 _ _ rfl
  rw [if_neg c6]
  by_cases c7 : 99 < x4
  · rw [if_neg (Int32.not_le.mpr c7)]
    refine hc _ _ ?_
    rw [pre _ _ hR2 k3, if_neg c1, if_neg c2, if_neg c3, if_neg c4, if_neg c5, if_neg c6, if_pos c7]
    exact fin2 _ _ rfl
  rw [if_pos (Int32.not_lt.mp c7), e44, b44_0]
  simp only [zu_ne (show (106 : Nat) ≠ 107 by decide), zu_ne (show (106 : Nat) ≠ 108 by decide), zu_ne (show (106 : Nat) ≠ 109 by decide), zu_ne (show (106 : Nat) ≠ 110 by decide), zu_ne (show (106 : Nat) ≠ 111 by decide), k2, zcln (show m < 100000 by omega), bo, zu_eq, ns, np]
  by_cases c8 : m < 24
  · rw [if_pos (show nI m < 24 from nI_lt (b := 24) c8 (by omega))]
    simp only [zg c8 (show 24 < 100000 by omega)]
    rw [kS, b117_61]
    refine hc _ _ ?_
    have e57 : zu (zu (zu (zu (zu (zu ia 107 m x1) 108 m (nI h * 3 + x3)) 109 m x4) 110 m x5) 111 m (-1)) 106 0 (nI (m + 1)) 127 57 = nI m := by
      rw [zu_o (by decide), zu_o (by decide), zu_o (by decide), zu_o (by decide), zu_o (by decide), zu_o (by decide)]; exact k3
    have hR3 : zPR p (zu (zu (zu (zu (zu (zu (zu ia 107 m x1) 108 m (nI h * 3 + x3)) 109 m x4) 110 m x5) 111 m (-1)) 106 0 (nI (m + 1))) 127 0 0) N L T := zPR_i (fun c h1 h2 => by rw [zu_o (by omega), zu_o (by omega), zu_o (by omega), zu_o (by omega), zu_o (by omega), zu_o (by omega), zu_o (by omega)]) hC.2.2.1
    rw [pre _ _ hR3 e57, if_neg c1, if_neg c2, if_neg c3, if_neg c4, if_neg c5, if_neg c6, if_neg c7, if_pos (show ¬ nI m = 24 from fun z => by have := (nI_eq (b := 24) (by omega) (by omega)).mp z; omega), zg c8 (by omega)]
    obtain ⟨t, ht60, rfl⟩ : ∃ n, n ≤ 60 ∧ x1 = nI n := nI_of2 (M := 60) (by decide) (fun z => c1 (Int32.lt_trans z (by decide))) (Int32.not_lt.mp c2)
    have ht0 : 0 < t := by
      by_cases z : t = 0
      · subst z; exact absurd (show nI 0 < 1 by decide) c1
      · omega
    obtain ⟨tr, htr, rfl⟩ : ∃ n, n < 3 ∧ x3 = nI n := by
      rcases pk_ix x3 (n := 3) (by omega) with q | q | ⟨j, hj, e⟩
      · exact absurd q c4
      · exact absurd q c5
      · exact ⟨j, hj, e⟩
    rw [n3, m3]
    have hF : zFG (fun g => g = 0 ∨ g = 6) ia (zu (zu (zu (zu (zu (zu (zu (zu (zu (zu (zu (zu (zu ia 107 m (nI t)) 108 m (nI (3 * h + tr))) 109 m x4) 110 m x5) 111 m (-1)) 106 0 (nI (m + 1))) 127 0 0) 162 m (nI t)) 163 m (nI (3 * h + tr))) 164 m x4) 165 m x5) 166 m (-1)) 127 57 (nI (m + 1))) := zFG_u (Or.inr rfl) (zFG_u (Or.inr rfl) (zFG_u (Or.inr rfl) (zFG_u (Or.inr rfl) (zFG_u (Or.inr rfl) (zFG_u (Or.inr rfl) (zFG_u (Or.inl rfl) (zFG_u (Or.inr rfl) (zFG_u (Or.inr rfl) (zFG_u (Or.inr rfl) (zFG_u (Or.inr rfl) (zFG_u (Or.inr rfl) (zFG_u (Or.inr rfl) zFG_r))))))))))))
    refine hm _ _ _ _ _ _ _ _ (zInv_mk i1 i2 i3 (zTx_e hF (by decide) ⟨i4, i5, i6, i7⟩) (zCore_e i1 hF (by decide) (by decide) rfl hC) (zImg_e hF (by decide) rfl hM) (zDeed_e hF (by decide) hDe) (zNote_more c8 k5 k4 k6 ?_ ?_ ?_ ?_ ?_ ?_)) (zFG_9 hF (by decide)).1 (zFG_9 hF (by decide)).2
    · simp [zu_at]
    · simp [zu_at]
    · simp [zu_at]
    · simp [zu_at]
    · intro c k hc hk
      rw [zu_o (by omega), zu_k hk, zu_k hk, zu_k hk, zu_k hk, zu_k hk, zu_o (by omega), zu_o (by omega), zu_k hk, zu_k hk, zu_k hk, zu_k hk, zu_k hk]
    · refine ⟨by simp [zu_at], Or.inl ⟨by simp [zu_at], by simp [zu_at], by simp [zu_at], t, 3 * h + tr, ht0, ht60, by omega, by simp [zu_at], by simp [zu_at], by simp [zu_at], by simp [zu_at]⟩⟩
  · rw [if_neg (show ¬ nI m < 24 from nI_nlt (b := 24) (by omega) (by omega)), kS, b117_61]
    refine hc _ _ ?_
    rw [pre _ _ hR2 k3, if_neg c1, if_neg c2, if_neg c3, if_neg c4, if_neg c5, if_neg c6, if_neg c7, if_neg (fun z => z (by rw [show m = 24 by omega]; rfl))]
    exact fin2 _ _ rfl
