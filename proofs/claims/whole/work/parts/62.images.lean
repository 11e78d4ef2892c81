/-! undo, keep, back, see, strike, known -/
theorem zWEq_c {X Y V : Nat → Nat → Int32} (e : ∀ g, g < 10 → X g = Y g) (h : zWEq X V) : zWEq Y V := by
  unfold zWEq at h ⊢
  rw [← e 0 (by omega), ← e 1 (by omega), ← e 2 (by omega), ← e 3 (by omega), ← e 4 (by omega), ← e 5 (by omega), ← e 6 (by omega), ← e 7 (by omega), ← e 8 (by omega), ← e 9 (by omega)]
  exact h
theorem T_undo {d pl dr : Nat} {cp cw rp : Option Nat} {ia : Nat → Nat → Int32} {la : Nat → Nat → Int64} {Kc : Option Value → zHP → Prop} {Km : Option Value → Option Value → zHP → Prop} (hI : zInv pl dr ia la) (hc : ∀ v hp, zWM (d + 400) 235 [.ref 127] hp (Km v) → Kc v hp) (hm : zEndK ia Km) : zWM (d + 400) 124 [.ref 0] (ia, la, zRA pl dr cp cw rp) Kc := by
  have fin := zfin hI hm
  obtain ⟨i1, i2, i3, i4, i5, i6, i7, p, N, L, T, D, W, r, hC, hM, hDe, hNo⟩ := hI
  have hN6 : N ≤ 6 := hC.2.1.2.1
  have hT12 : T ≤ 12 := hC.2.1.2.2.2.2.2.1
  have fin2 : ∀ v v2 : Option Value, v2 = v → Km v v2 (zu ia 127 0 0, la, zRA pl dr cp cw rp) := fun v v2 e => fin v v2 _ _ _ _ _ (zFr_0 zFr_r) e
  obtain ⟨dm, nx, Ws, d1, d2, d3, d4, d5, d6, d7⟩ := hDe
  rw [e124, b124_0]
  by_cases hm0 : dm = 0
  · subst hm0
    rw [e13, b13_0 (Or.inl rfl), d4, if_neg (fun q => q rfl), kS, b124_11]
    refine hc _ _ ?_
    rw [e235, b235_0, zu_k (by decide), d5, if_neg (fun q => q rfl)]
    exact fin2 _ _ rfl
  obtain ⟨m, rfl⟩ : ∃ m, dm = m + 1 := ⟨dm - 1, by omega⟩
  obtain ⟨hw, hf, hr⟩ := d7 m (by omega)
  rw [show (nx + 20 - (m + 1) + m) % 20 = (nx + 19) % 20 by omega, d6] at hr
  obtain ⟨h, hh, r0, r1, r2, r3, r4, r5, r6⟩ := hr
  refine S_take (m := m + 1) (h := h) (by omega) d2 (by omega) d1 d3 d4 r0 (fun ja hja => ?_)
  rw [kS, b124_11]
  have ja_o : ∀ c, c < 73 ∨ 77 < c → c ≠ 113 → ja c = ia c := fun c e1 e2 => by funext k; rw [hja, if_neg (by omega), if_neg (by omega), if_neg (by omega), if_neg (by omega), if_neg (by omega), if_neg (by omega), if_neg (by omega)]
  have hjw : ∀ g, g < 10 → ja (72 + g) = Ws m g := by
    intro g hg
    funext k
    rw [hja]
    by_cases q1 : 72 + g = 73 ∧ k < 6
    · rw [if_pos q1, r5 k q1.2, show g = 1 by omega]
    rw [if_neg q1]
    by_cases q2 : 72 + g = 74 ∧ 3 * h ≤ k ∧ k < 3 * h + 3
    · rw [if_pos q2, r4 (k - 3 * h) (by omega), show g = 2 by omega, show 3 * h + (k - 3 * h) = k by omega]
    rw [if_neg q2]
    by_cases q3 : 72 + g = 77 ∧ k = h
    · rw [if_pos q3, r3, show g = 5 by omega, q3.2]
    rw [if_neg q3]
    by_cases q4 : 72 + g = 76 ∧ k = h
    · rw [if_pos q4, r2, show g = 4 by omega, q4.2]
    rw [if_neg q4]
    by_cases q5 : 72 + g = 75 ∧ k = h
    · rw [if_pos q5, r1, show g = 3 by omega, q5.2]
    rw [if_neg q5, if_neg (by omega), if_neg (by omega), zC_W hC hg]
    exact r6 g k (fun z => by unfold zCh at z; omega)
  have e48 : zu ja 127 0 0 127 48 = nI (m + 1) := by rw [zu_k (by decide), ja_o _ (by omega) (by omega)]; exact d5
  refine hc _ _ ?_
  rw [e235, b235_0, e48, if_pos (nI_ne0 (by omega) (by omega)), np, zu_eq, show (3 : Int32) + nI m = nI (3 + m) by rw [show (3 : Int32) = nI 3 from rfl, nI_add]]
  have hasx : ∀ s (A : Nat → Nat → Int32), zHas N s A r ia → zHas N s A r (zu (zu ja 127 0 0) 127 48 (nI m)) := fun s A q => zHas_low (by omega) (zHas_low (by omega) (zHas_in (fun c k hc => by
    have : 147 ≤ c := by rcases hc with q | q | q | q | q <;> omega
    rw [ja_o c (by omega) (by omega)]) q))
  refine Eq.mpr (S_copies (t := 0) (a := 3 + m) (by omega) (by omega) (by omega) (hasx _ _ hw)) ?_
  rw [kN, b235_35, zPM_o (by omega), zu_eq]
  have fr2 : zFG (fun g => g = 0 ∨ g = 3 ∨ g = 5) ia ja := fun c k q => by
    by_cases e1 : c = 113
    · subst e1; exact absurd (Or.inr (Or.inr rfl)) q
    by_cases e2 : 73 ≤ c ∧ c ≤ 77
    · exact absurd (Or.inr (Or.inl (zgr_3 (by omega) (by omega)))) q
    rw [ja_o c (by omega) e1]
  have hF : zFG (fun g => g = 0 ∨ g = 3 ∨ g = 5) ia (zPM N 0 (Ws m) r (zu (zu ja 127 0 0) 127 48 (nI m))) := zFG_PM (Or.inr (Or.inl rfl)) (zFG_u (Or.inr (Or.inr rfl)) (zFG_u (Or.inl rfl) fr2))
  have low : ∀ c, c < 127 → zPM N 0 (Ws m) r (zu (zu ja 127 0 0) 127 48 (nI m)) c = ja c := fun c hc => by rw [zPM_o (by omega), zu_o (by omega), zu_o (by omega)]
  refine hm _ _ _ _ _ _ _ _ (zInv_mk i1 i2 i3 (zTx_e hF (by decide) ⟨i4, i5, i6, i7⟩) (zCore_p i1 hF (by decide) hC hC.2.2.2.1 (fun g hg => by rw [low _ (by omega)]; exact hjw g hg) hf zHas_M hC.2.2.2.2.2.2.2.1) (zImg_e hF (by decide) rfl hM) ?_ (zNote_e hF (by decide) hNo)) (zFG_9 hF (by decide)).1 (zFG_9 hF (by decide)).2
  refine ⟨m, (nx + 19) % 20, Ws, by omega, Nat.mod_lt _ (by decide), ?_, ?_, ?_, rfl, fun i hi => ?_⟩
  · rw [low _ (by omega), hja, if_neg (by omega), if_neg (by omega), if_neg (by omega), if_neg (by omega), if_neg (by omega), if_neg (by omega), if_pos ⟨rfl, rfl⟩]
  · rw [low _ (by omega), hja, if_neg (by omega), if_neg (by omega), if_neg (by omega), if_neg (by omega), if_neg (by omega), if_pos ⟨rfl, rfl⟩]; rfl
  · rw [zPM_o (by omega), zu_eq]
  · obtain ⟨u1, u2, u3⟩ := d7 i (by omega)
    refine ⟨zHas_o (by omega) (hasx _ _ u1), u2, ?_⟩
    rw [low _ (by omega), ja_o _ (by omega) (by omega), show ((nx + 19) % 20 + 20 - m + i) % 20 = (nx + 20 - (m + 1) + i) % 20 by omega]
    exact u3
theorem T_keep {d pl dr : Nat} {cp cw rp : Option Nat} {ia : Nat → Nat → Int32} {la : Nat → Nat → Int64} {Kc : Option Value → zHP → Prop} {Km : Option Value → Option Value → zHP → Prop} (hI : zInv pl dr ia la) (hc : ∀ v hp, zWM (d + 400) 236 [.ref 127] hp (Km v) → Kc v hp) (hm : zEndK ia Km) : zWM (d + 400) 125 [.ref 0] (ia, la, zRA pl dr cp cw rp) Kc := by
  have fin := zfin hI hm
  obtain ⟨i1, i2, i3, i4, i5, i6, i7, p, N, L, T, D, W, r, hC, hM, hDe, hNo⟩ := hI
  have hN6 : N ≤ 6 := hC.2.1.2.1
  have hT12 : T ≤ 12 := hC.2.1.2.2.2.2.2.1
  have hf := zC_f hC
  have cw0 := S_copyW (d := d + 394) (pl := pl) (dr := dr) (cp := cp) (cw := cw) (rp := rp) (K := zK (d + 400) 125 11 [some (.ref 0)] [] Kc) (la := la) (ia := ia) (V := fun g => ia (82 + g)) (w0 := 82) (w1 := 72) (Or.inr (Or.inl rfl)) (Or.inl rfl) (by omega)
  rw [zPW_s] at cw0
  rw [e125, b125_0]
  refine Eq.mpr cw0 ?_
  have heq := zCpW_eq (W := fun g => ia (72 + g)) (V := fun g => ia (82 + g))
  have hWq : zWEq W (zCpW (fun g => ia (72 + g)) (fun g => ia (82 + g))) := zWEq_c (fun g hg => zC_W hC hg) heq
  generalize zCpW (fun g => ia (72 + g)) (fun g => ia (82 + g)) = V at hWq ⊢
  rw [kN, b125_11, zu_o (by decide), zPW_o (by omega), show ia 72 = W 0 from zC_W hC (g := 0) (by omega)]
  refine hc _ _ ?_
  have sa_o : ∀ c, c < 82 ∨ 92 ≤ c → c ≠ 0 → c ≠ 127 → zu (zu (zPW 82 V ia) 0 6 1) 127 0 0 c = ia c := fun c e1 e2 e3 => by rw [zu_o e3, zu_o e2, zPW_o (by omega)]
  have hasx : ∀ s (A : Nat → Nat → Int32) (q : Int32), zHas N s A q ia → zHas N s A q (zu (zu (zPW 82 V ia) 0 6 1) 127 0 0) := fun s A q h => zHas_in (fun c k hc => by
    have : 147 ≤ c := by rcases hc with q | q | q | q | q <;> omega
    rw [sa_o c (by omega) (by omega) (by omega)]) h
  rw [e236, b236_0]
  refine Eq.mpr (S_copies (t := 2) (a := 0) (by omega) (by omega) (by omega) (hasx 0 W r (zC_0 hC))) ?_
  have e147 : zu (zPM N 2 W r (zu (zu (zPW 82 V ia) 0 6 1) 127 0 0)) 127 47 1 147 0 = W 0 0 := by
    rw [zu_o (by decide)]
    exact (zHas_o (by omega) (hasx 0 W r (zC_0 hC))).1
  rw [kN, b236_11, e147]
  have hF : zFG (fun g => g = 0 ∨ g = 4) ia (zu (zPM N 2 W r (zu (zu (zPW 82 V ia) 0 6 1) 127 0 0)) 127 47 1) := zFG_u (Or.inr rfl) (zFG_PM (Or.inr rfl) (zFG_u (Or.inl rfl) (zFG_u (Or.inr rfl) (zFG_PW (fun c k h1 h2 => Or.inr (zgr_4 h1 (by omega))) zFG_r))))
  refine hm _ _ _ _ _ _ _ _ (zInv_mk i1 i2 i3 (zTx_e hF (by decide) ⟨i4, i5, i6, i7⟩) (zCore_e i1 hF (by decide) (by decide) (zu_o (by decide)) hC) ⟨?_, Or.inr ⟨D, r, V, hC.2.2.2.1, fun g hg => ?_, ?_, ?_, zWf_q hN6 hWq hf⟩⟩ (zDeed_e hF (by decide) hDe) (zNote_e hF (by decide) hNo)) (zFG_9 hF (by decide)).1 (zFG_9 hF (by decide)).2
  · rw [zu_o (by decide), zPM_o (by omega), zu_o (by decide), zu_eq, zu_eq]
  · rw [zu_o (by omega), zPM_o (by omega), zu_o (by omega), zu_o (by omega), zPW_g hg]
  · rw [zu_eq]; exact hC.2.2.2.2.2.2.2.1
  · exact zHas_v (zWEq_vis hN6 hWq) (zHas_low (by omega) zHas_M)
theorem T_back {d pl dr : Nat} {cp cw rp : Option Nat} {ia : Nat → Nat → Int32} {la : Nat → Nat → Int64} {Kc : Option Value → zHP → Prop} {Km : Option Value → Option Value → zHP → Prop} (hI : zInv pl dr ia la) (hc : ∀ v hp, zWM (d + 400) 237 [.ref 127] hp (Km v) → Kc v hp) (hm : zEndK ia Km) : zWM (d + 400) 126 [.ref 0] (ia, la, zRA pl dr cp cw rp) Kc := by
  have fin := zfin hI hm
  obtain ⟨i1, i2, i3, i4, i5, i6, i7, p, N, L, T, D, W, r, hC, hM, hDe, hNo⟩ := hI
  have hN6 : N ≤ 6 := hC.2.1.2.1
  have hT12 : T ≤ 12 := hC.2.1.2.2.2.2.2.1
  have fin2 : ∀ v v2 : Option Value, v2 = v → Km v v2 (zu ia 127 0 0, la, zRA pl dr cp cw rp) := fun v v2 e => fin v v2 _ _ _ _ _ (zFr_0 zFr_r) e
  obtain ⟨m1, m2⟩ := hM
  rw [e126, b126_0, m1]
  by_cases hz : ia 127 47 = 0
  · rw [if_neg (fun q => q hz)]
    refine hc _ _ ?_
    rw [e237, b237_0, zu_k (by decide), if_neg (fun q => q hz)]
    exact fin2 _ _ rfl
  rw [if_pos hz]
  obtain ⟨D2, q, X, y1, y2, y3, y4, y5⟩ : ∃ (D : Nat) (r : Int32) (W : Nat → Nat → Int32), D ≤ 9800 ∧ (∀ g, g < 10 → ia (82 + g) = W g) ∧ la 82 1 = r.toInt64 ∧ zHas N 2 W r ia ∧ zWf p N T D W := m2.elim (fun z => absurd z hz) id
  have cw0 := S_copyW (d := d + 394) (pl := pl) (dr := dr) (cp := cp) (cw := cw) (rp := rp) (K := zK (d + 400) 126 20 [some (.ref 0)] [] Kc) (la := la) (ia := ia) (V := fun g => ia (72 + g)) (w0 := 72) (w1 := 82) (Or.inl rfl) (Or.inr (Or.inl rfl)) (by omega)
  rw [zPW_s] at cw0
  refine Eq.mpr cw0 ?_
  have heq := zCpW_eq (W := fun g => ia (82 + g)) (V := fun g => ia (72 + g))
  have hWq : zWEq X (zCpW (fun g => ia (82 + g)) (fun g => ia (72 + g))) := zWEq_c (fun g hg => y2 g hg) heq
  generalize zCpW (fun g => ia (82 + g)) (fun g => ia (72 + g)) = V at hWq ⊢
  rw [kN, b126_20, e11, b11_0, kN, b126_27, zu_o (by decide), zPW_0]
  refine hc _ _ ?_
  have sa_o : ∀ c, c < 72 ∨ 82 ≤ c → c ≠ 113 → c ≠ 127 → zu (zu (zPW 72 V ia) 113 2 0) 127 0 0 c = ia c := fun c e1 e2 e3 => by rw [zu_o e3, zu_o e2, zPW_o (by omega)]
  have hasx : ∀ s (A : Nat → Nat → Int32) (q : Int32), zHas N s A q ia → zHas N s A q (zu (zu (zPW 72 V ia) 113 2 0) 127 0 0) := fun s A q h => zHas_in (fun c k hc => by
    have : 147 ≤ c := by rcases hc with q | q | q | q | q <;> omega
    rw [sa_o c (by omega) (by omega) (by omega)]) h
  rw [e237, b237_0, zu_k (by decide), zu_o (by decide), zPW_o (by omega), if_pos hz]
  refine Eq.mpr (S_copies (t := 0) (a := 2) (by omega) (by omega) (by omega) (hasx 2 X q y4)) ?_
  have e147 : zu (zPM N 0 X q (zu (zu (zPW 72 V ia) 113 2 0) 127 0 0)) 127 48 0 147 0 = V 0 0 := by
    rw [zu_o (by decide), hWq.1]
    exact (zHas_M (N := N) (s := 0) (W := X) (r := q)).1
  rw [kN, b237_20, e147]
  have hF : zFG (fun g => g = 0 ∨ g = 3 ∨ g = 5) ia (zu (zPM N 0 X q (zu (zu (zPW 72 V ia) 113 2 0) 127 0 0)) 127 48 0) := zFG_u (Or.inr (Or.inr rfl)) (zFG_PM (Or.inr (Or.inl rfl)) (zFG_u (Or.inl rfl) (zFG_u (Or.inr (Or.inr rfl)) (zFG_PW (fun c k h1 h2 => Or.inr (Or.inl (zgr_3 h1 (by omega)))) zFG_r))))
  obtain ⟨dm, nx, Ws, d1, d2, d3, d4, d5, d6, d7⟩ := hDe
  refine hm _ _ _ _ _ _ _ _ (zInv_mk i1 i2 i3 (zTx_e hF (by decide) ⟨i4, i5, i6, i7⟩) (zCore_p i1 hF (by decide) hC y1 (fun g hg => ?_) (zWf_q hN6 hWq y5) (zHas_v (zWEq_vis hN6 hWq) (zHas_low (by omega) zHas_M)) (by rw [zu_eq]; exact y3)) (zImg_e hF (by decide) (zu_o (by decide)) ⟨m1, m2⟩) ⟨0, nx, fun _ => V, by omega, d2, ?_, ?_, ?_, rfl, fun i hi => by omega⟩ (zNote_e hF (by decide) hNo)) (zFG_9 hF (by decide)).1 (zFG_9 hF (by decide)).2
  · rw [zu_o (by omega), zPM_o (by omega), zu_o (by omega), zu_o (by omega), zPW_g hg]
  · rw [zu_o (by omega), zPM_o (by omega), zu_o (by omega), zu_k (by omega), zPW_o (by omega)]; exact d3
  · rw [zu_o (by omega), zPM_o (by omega), zu_o (by omega), zu_eq]; rfl
  · rw [zu_eq]; rfl
theorem T_known {d pl dr : Nat} {cp cw rp : Option Nat} {ia : Nat → Nat → Int32} {la : Nat → Nat → Int64} {Kc : Option Value → zHP → Prop} {Km : Option Value → Option Value → zHP → Prop} {x1 : Int32} (hI : zInv pl dr ia la) (hc : ∀ v hp, zWM (d + 400) 226 [.ref 127, .int x1] hp (Km v) → Kc v hp) (hm : zEndK ia Km) : zWM (d + 400) 119 [.ref 0, .int x1] (ia, la, zRA pl dr cp cw rp) Kc := by
  have fin := zfin hI hm
  obtain ⟨i1, i2, i3, i4, i5, i6, i7, p, N, L, T, D, W, r, hC, hM, hDe, hNo⟩ := hI
  have hN6 : N ≤ 6 := hC.2.1.2.1
  have hT12 : T ≤ 12 := hC.2.1.2.2.2.2.2.1
  have fin2 : ∀ v v2 : Option Value, v2 = v → Km v v2 (zu ia 127 0 0, la, zRA pl dr cp cw rp) := fun v v2 e => fin v v2 _ _ _ _ _ (zFr_0 zFr_r) e
  obtain ⟨m, n1, n2, n3, n4, n5, n6⟩ := hNo
  rw [e119, b119_0, e46, b46_0, n2]
  by_cases c1 : x1 < -1
  · rw [if_pos c1, kS, b119_8, zdrop (Or.inl rfl)]
    refine hc _ _ ?_
    rw [e226, b226_0, if_pos c1]
    exact fin2 _ _ rfl
  rw [if_neg c1]
  by_cases c2 : x1 ≤ nI m
  · rw [if_pos c2, kS, b119_8, zdrop (Or.inr rfl)]
    refine hc _ _ ?_
    rw [e226, b226_0, if_neg c1, zu_k (by decide), zu_o (by decide), n3, if_pos c2]
    have hF : zFG (fun g => g = 0 ∨ g = 6) ia (zu (zu (zu ia 106 2 x1) 127 0 0) 127 58 x1) := zFG_u (Or.inr rfl) (zFG_u (Or.inl rfl) (zFG_u (Or.inr rfl) zFG_r))
    refine hm _ _ _ _ _ _ _ _ (zInv_mk i1 i2 i3 (zTx_e hF (by decide) ⟨i4, i5, i6, i7⟩) (zCore_e i1 hF (by decide) (by decide) rfl hC) (zImg_e hF (by decide) rfl hM) (zDeed_e hF (by decide) hDe) ⟨m, n1, ?_, ?_, ?_, ?_, ?_⟩) (zFG_9 hF (by decide)).1 (zFG_9 hF (by decide)).2
    · rw [zu_o (by decide), zu_o (by decide), zu_k (by decide)]; exact n2
    · rw [zu_k (by decide), zu_k (by decide), zu_o (by decide)]; exact n3
    · rw [zu_o (by decide), zu_o (by decide), zu_eq, zu_eq]
    · rw [zu_eq]
      by_cases c3 : x1 < 0
      · left
        refine Int32.le_antisymm ?_ (Int32.not_lt.mp c1)
        have := Int32.lt_iff_toInt_lt.mp c3
        refine Int32.le_iff_toInt_le.mpr ?_
        have e0 : (0 : Int32).toInt = 0 := by decide
        have e1 : (-1 : Int32).toInt = -1 := by decide
        omega
      · obtain ⟨j, hj, e⟩ := nI_of2 (M := nI m) (n := m) (nI_toInt (by omega)) c3 c2
        exact Or.inr ⟨j, hj, e⟩
    · have o : ∀ c, c ≠ 106 → c ≠ 127 → zu (zu (zu ia 106 2 x1) 127 0 0) 127 58 x1 c = ia c := fun c h1 h2 => by rw [zu_o h2, zu_o h2, zu_o h1]
      rw [o 111 (by decide) (by decide), o 166 (by decide) (by decide), o 109 (by decide) (by decide), o 164 (by decide) (by decide), o 110 (by decide) (by decide), o 165 (by decide) (by decide), o 107 (by decide) (by decide), o 162 (by decide) (by decide), o 108 (by decide) (by decide), o 163 (by decide) (by decide)]
      exact n6
  · rw [if_neg c2, kS, b119_8, zdrop (Or.inl rfl)]
    refine hc _ _ ?_
    rw [e226, b226_0, if_neg c1, zu_k (by decide), n3, if_neg c2]
    exact fin2 _ _ rfl
theorem zNote_more {N m : Nat} {ia ja : Nat → Nat → Int32} (hm : m < 24) (n5 : ia 127 58 = -1 ∨ ∃ j, j ≤ m ∧ ia 127 58 = nI j) (n4 : ia 106 2 = ia 127 58) (n6 : ∀ k, k < m → ia 111 k = ia 166 k ∧ ((ia 166 k = -1 ∧ ia 109 k = ia 164 k ∧ ia 110 k = ia 165 k ∧ ∃ t q, 0 < t ∧ t ≤ 60 ∧ q < 3 * N ∧ ia 107 k = nI t ∧ ia 162 k = nI t ∧ ia 108 k = nI q ∧ ia 163 k = nI q) ∨ ∃ j, j < k ∧ ia 166 k = nI j)) (j0 : ja 106 0 = nI (m + 1)) (j1 : ja 127 57 = nI (m + 1)) (j2 : ja 106 2 = ia 106 2) (j3 : ja 127 58 = ia 127 58) (jo : ∀ c k, (107 ≤ c ∧ c ≤ 111) ∨ (162 ≤ c ∧ c ≤ 166) → k ≠ m → ja c k = ia c k) (jm : ja 111 m = ja 166 m ∧ ((ja 166 m = -1 ∧ ja 109 m = ja 164 m ∧ ja 110 m = ja 165 m ∧ ∃ t q, 0 < t ∧ t ≤ 60 ∧ q < 3 * N ∧ ja 107 m = nI t ∧ ja 162 m = nI t ∧ ja 108 m = nI q ∧ ja 163 m = nI q) ∨ ∃ j, j < m ∧ ja 166 m = nI j)) : zNote N ja := by
  refine ⟨m + 1, by omega, j0, j1, by rw [j2, j3]; exact n4, ?_, fun k hk => ?_⟩
  · rw [j3]
    rcases n5 with q | ⟨j, hj, e⟩
    · exact Or.inl q
    · exact Or.inr ⟨j, by omega, e⟩
  · by_cases e : k = m
    · subst e; exact jm
    · rw [jo 111 k (by omega) e, jo 166 k (by omega) e, jo 109 k (by omega) e, jo 164 k (by omega) e, jo 110 k (by omega) e, jo 165 k (by omega) e, jo 107 k (by omega) e, jo 162 k (by omega) e, jo 108 k (by omega) e, jo 163 k (by omega) e]
      exact n6 k (by omega)
theorem T_strike {d pl dr : Nat} {cp cw rp : Option Nat} {ia : Nat → Nat → Int32} {la : Nat → Nat → Int64} {Kc : Option Value → zHP → Prop} {Km : Option Value → Option Value → zHP → Prop} {x1 : Int32} (hI : zInv pl dr ia la) (hc : ∀ v hp, zWM (d + 400) 225 [.ref 127, .int x1] hp (Km v) → Kc v hp) (hm : zEndK ia Km) : zWM (d + 400) 118 [.ref 0, .int x1] (ia, la, zRA pl dr cp cw rp) Kc := by
  have fin := zfin hI hm
  obtain ⟨i1, i2, i3, i4, i5, i6, i7, p, N, L, T, D, W, r, hC, hM, hDe, hNo⟩ := hI
  have hN6 : N ≤ 6 := hC.2.1.2.1
  have hT12 : T ≤ 12 := hC.2.1.2.2.2.2.2.1
  have fin2 : ∀ v v2 : Option Value, v2 = v → Km v v2 (zu ia 127 0 0, la, zRA pl dr cp cw rp) := fun v v2 e => fin v v2 _ _ _ _ _ (zFr_0 zFr_r) e
  obtain ⟨m, n1, n2, n3, n4, n5, n6⟩ := hNo
  have pre : ∀ (K : Option Value → zHP → Prop) (sa : Nat → Nat → Int32), sa 127 57 = nI m → zWM (d + 400) 225 [.ref 127, .int x1] (sa, la, zRA pl dr cp cw rp) K = (if x1 < 0 then K (some (.int (-1))) (zu sa 127 0 0, la, zRA pl dr cp cw rp) else if nI m ≤ x1 then K (some (.int (-1))) (zu sa 127 0 0, la, zRA pl dr cp cw rp) else if ¬ nI m = 24 then (vp_in (nI m) 24 ∧ K (some (.int (nI m))) (zu (zu (zu sa 127 0 0) 166 m x1) 127 57 (nI (m + 1)), la, zRA pl dr cp cw rp)) else K (some (.int (-1))) (zu sa 127 0 0, la, zRA pl dr cp cw rp)) := by
    intro K sa e
    have e2 : zu sa 127 0 0 127 57 = nI m := by rw [zu_k (by decide)]; exact e
    rw [e225, b225_0, e2, zcln (by omega), zu_eq, zu_o (show (127 : Nat) ≠ 166 by decide), e2, ns, np]
  rw [e118, b118_0, e45, b45_0, n2, zcln (by omega), zu_eq, zu_o (show (106 : Nat) ≠ 111 by decide), n2, ns, np]
  by_cases c1 : x1 < 0
  · rw [if_pos c1, kS, b118_8]
    refine hc _ _ ?_
    rw [pre _ _ n3, if_pos c1]
    exact fin2 _ _ rfl
  rw [if_neg c1]
  by_cases c2 : nI m ≤ x1
  · rw [if_pos c2, kS, b118_8]
    refine hc _ _ ?_
    rw [pre _ _ n3, if_neg c1, if_pos c2]
    exact fin2 _ _ rfl
  rw [if_neg c2]
  by_cases c3 : m < 24
  · rw [if_pos (show nI m < 24 from nI_lt (b := 24) c3 (by omega)), zg c3 (by omega), kS, b118_8]
    refine hc _ _ ?_
    have e57 : zu (zu ia 111 m x1) 106 0 (nI (m + 1)) 127 57 = nI m := by rw [zu_o (by decide), zu_o (by decide)]; exact n3
    rw [pre _ _ e57, if_neg c1, if_neg c2, if_pos (show ¬ nI m = 24 from fun z => by have := (nI_eq (b := 24) (by omega) (by omega)).mp z; omega), zg c3 (by omega)]
    have hF : zFG (fun g => g = 0 ∨ g = 6) ia (zu (zu (zu (zu (zu ia 111 m x1) 106 0 (nI (m + 1))) 127 0 0) 166 m x1) 127 57 (nI (m + 1))) := zFG_u (Or.inr rfl) (zFG_u (Or.inr rfl) (zFG_u (Or.inl rfl) (zFG_u (Or.inr rfl) (zFG_u (Or.inr rfl) zFG_r))))
    refine hm _ _ _ _ _ _ _ _ (zInv_mk i1 i2 i3 (zTx_e hF (by decide) ⟨i4, i5, i6, i7⟩) (zCore_e i1 hF (by decide) (by decide) rfl hC) (zImg_e hF (by decide) rfl hM) (zDeed_e hF (by decide) hDe) (zNote_more c3 n5 n4 n6 ?_ ?_ ?_ ?_ ?_ ?_)) (zFG_9 hF (by decide)).1 (zFG_9 hF (by decide)).2
    · simp [zu_at]
    · simp [zu_at]
    · simp [zu_at]
    · simp [zu_at]
    · intro c k hc hk
      rw [zu_o (by omega), zu_k hk, zu_o (by omega), zu_o (by omega), zu_k hk]
    · refine ⟨by simp [zu_at], Or.inr ?_⟩
      rcases pk_ix x1 (n := m) (by omega) with q | q | ⟨j, hj, e⟩
      · exact absurd q c1
      · exact absurd q c2
      · exact ⟨j, hj, by simp [zu_at, e]⟩
  · rw [if_neg (show ¬ nI m < 24 from nI_nlt (b := 24) (by omega) (by omega)), kS, b118_8]
    refine hc _ _ ?_
    rw [pre _ _ n3, if_neg c1, if_neg c2, if_neg (fun z => z (by rw [show m = 24 by omega]; rfl))]
    exact fin2 _ _ rfl
