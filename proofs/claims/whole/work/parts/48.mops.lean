/-! the reference's leases, letters, bank and ends -/
section ZP
variable {d pl dr N L T s : Nat} {cp cw rp : Option Nat} {p ia W : Nat → Nat → Int32} {o : Nat → Int32} {r bn : Int32} {la : Nat → Nat → Int64} {K : Option Value → zHP → Prop}
theorem zet_ne {v : Int32} : (zet v = -1) ↔ v < 0 := by
  unfold zet
  by_cases h : v < 0
  · simp [h]
  · simp only [h, if_false, iff_false]
    intro e
    subst e
    exact h (by decide)
theorem zR_127 {c : Nat} (h : c < 147) : zPM N s W r ia c = ia c := zPM_o (Or.inl h)
theorem S_isLetM {h : Nat} (hs : s < 23) (hh : h < 6) : zWM d 172 [.ref 127, .int (nI s), .int (nI h)] (zPM N s W r ia, la, zRA pl dr cp cw rp) K = K (some (.int (if W 3 h < 0 then 0 else 1))) (zPM N s W r ia, la, zRA pl dr cp cw rp) := by
  rw [e172, b172_0, m6, zg (by omega) (by omega), zcln (by omega), zR153 hh]
  simp only [zet_ne, zKifI]
theorem S_holderM {h : Nat} (hs : s < 23) (hh : h < 6) : zWM (d + 1) 173 [.ref 127, .int (nI s), .int (nI h)] (zPM N s W r ia, la, zRA pl dr cp cw rp) K = K (some (.int (zHd W h))) (zPM N s W r ia, la, zRA pl dr cp cw rp) := by
  rw [e173, b173_0, S_isLetM hs hh, kS, b173_6, m6, zg (by omega) (by omega), zcln (by omega), zR153 hh]
  unfold zHd zet
  by_cases h1 : W 3 h < 0
  · simp only [h1, if_true]
  · simp only [h1, if_false]; rfl
theorem zPR_M (hR : zPR p ia N L T) {N2 : Nat} : zPR p (zPM N2 s W r ia) N L T := by
  unfold zPR
  simp only [zR_127 (show 129 < 147 by decide), zR_127 (show 130 < 147 by decide), zR_127 (show 131 < 147 by decide), zR_127 (show 132 < 147 by decide), zR_127 (show 133 < 147 by decide), zR_127 (show 134 < 147 by decide), zR_127 (show 135 < 147 by decide), zR_127 (show 136 < 147 by decide), zR_127 (show 137 < 147 by decide), zR_127 (show 138 < 147 by decide), zR_127 (show 139 < 147 by decide), zR_127 (show 140 < 147 by decide), zR_127 (show 141 < 147 by decide), zR_127 (show 142 < 147 by decide), zR_127 (show 143 < 147 by decide), zR_127 (show 144 < 147 by decide)]
  exact hR
theorem zSc_M {ia' : Nat → Nat → Int32} (h : zSc (zPM N s W r ia) ia') : ∃ ja, zSc ia ja ∧ ia' = zPM N s W r ja := by
  obtain ⟨x, rfl⟩ := h
  exact ⟨zu ia 127 34 x, ⟨x, rfl⟩, zPM_127⟩
/-- within, over a slot -/
theorem S_withinM {q h m : Nat} {most plain pr : Int32} (hlk : zLk p) (hR : zPR p ia N L T) (hq : q < 3) (hK : ∀ ia' la', zSc ia ia' → zL7 la la' → K (some (.int (if zVal p (zNm W h m pr) q = zER then plain else zlcl most.toInt64 (zVal p (zNm W h m pr) q)))) (zPM N s W r ia', la', zRA pl dr cp cw rp)) : zWM (d + 8) 176 [.ref 127, .int (nI q), .int most, .int plain] (zPM N s W r ia, zTl la 145 (zNm W h m pr), zRA pl dr cp cw rp) K := by
  refine S_within (nm := zNm W h m pr) hlk (zPR_M hR) hq (fun i hi => by unfold zTl; simp [hi]) (fun i _ => zNm_b i) (fun ia' la' h1 h2 => ?_)
  obtain ⟨ja, hj, rfl⟩ := zSc_M h1
  refine hK ja la' hj (fun c c5 c6 => ?_)
  rw [h2 c c5 c6]
  funext k
  unfold zTl
  rw [if_neg (fun z => c5 z.1)]
theorem S_rent {h m : Nat} {pr : Int32} (hlk : zLk p) (hR : zPR p ia N L T) (hO : zOp p o ia bn) (hs : s < 23) (hN : N ≤ 6) (hh : h < N) (hm : m < 6) (hK : ∀ ia' la', zSc ia ia' → zL7 la la' → K (some (.int (zBnd p o W 0 h m pr))) (zPM N s W r ia', la', zRA pl dr cp cw rp)) : zWM (d + 9) 177 [.ref 127, .int (nI s), .int (nI h), .int (nI m), .int pr] (zPM N s W r ia, la, zRA pl dr cp cw rp) K := by
  rw [e177, b177_0, zR_127 (by decide)]
  unfold zBnd at hK
  by_cases h6 : ia 127 49 = 3
  · have : ¬ o 6 = 0 := hO.1.mp h6
    rw [if_neg (fun q => q h6)]
    rw [if_pos (Or.inl ⟨rfl, this⟩)] at hK
    exact hK ia la (zSc_r _) (zL7_r _)
  · have h60 : ¬ ¬ o 6 = 0 := fun q => h6 (hO.1.mpr q)
    rw [if_pos h6, S_calls hs hN hh hm, kN, b177_19]
    refine S_withinM (q := 0) hlk hR (by omega) (fun ia' la' h1 h2 => ?_)
    rw [kS, b177_29]
    have hK2 := hK ia' la' h1 h2
    rw [if_neg (fun q => q.elim (fun z => h60 z.2) (fun z => absurd z.1 (by decide)))] at hK2
    exact hK2
theorem S_can {h m : Nat} {pr : Int32} (hlk : zLk p) (hR : zPR p ia N L T) (hO : zOp p o ia bn) (hs : s < 23) (hN : N ≤ 6) (hh : h < N) (hm : m < 6) (hK : ∀ ia' la', zSc ia ia' → zL7 la la' → K (some (.int (if W 3 h < 0 ∧ ¬ W 1 m < zBnd p o W 0 h m pr then 1 else 0))) (zPM N s W r ia', la', zRA pl dr cp cw rp)) : zWM (d + 10) 178 [.ref 127, .int (nI s), .int (nI h), .int (nI m), .int pr] (zPM N s W r ia, la, zRA pl dr cp cw rp) K := by
  rw [e178, b178_0, S_isLetM hs (by omega), kS, b178_6, m6, zg (by omega) (by omega), zcln (by omega), zR156 hm]
  by_cases h3 : W 3 h < 0
  · rw [if_pos h3, if_neg (by decide)]
    refine S_rent hlk hR hO hs hN hh hm (fun ia' la' h1 h2 => ?_)
    rw [kS, b178_29]
    have hK2 := hK ia' la' h1 h2
    simp only [h3, true_and] at hK2
    by_cases h4 : W 1 m < zBnd p o W 0 h m pr
    · rw [if_pos h4]
      rw [if_neg (fun q => q h4)] at hK2
      exact hK2
    · rw [if_neg h4]
      rw [if_pos h4] at hK2
      exact hK2
  · rw [if_neg h3, if_pos (by decide)]
    have hK2 := hK ia la (zSc_r _) (zL7_r _)
    rw [if_neg (fun q => h3 q.1)] at hK2
    exact hK2
theorem S_lets {h m : Nat} {days pr : Int32} (hlk : zLk p) (hR : zPR p ia N L T) (hO : zOp p o ia bn) (hs : s < 23) (hN : N ≤ 6) (hh : h < N) (hm : m < 6) (hK : ∀ ia' la', zSc ia ia' → zL7 la la' → K none (zPM N s (zOver W h m days (zBnd p o W 0 h m pr)) r ia', la', zRA pl dr cp cw rp)) : zWM (d + 10) 179 [.ref 127, .int (nI s), .int (nI h), .int (nI m), .int days, .int pr] (zPM N s W r ia, la, zRA pl dr cp cw rp) K := by
  rw [e179, b179_0]
  refine S_rent hlk hR hO hs hN hh hm (fun ia' la' h1 h2 => ?_)
  have e3 : nI m = zet (nI m) := (zet_n (by omega)).symm
  rw [kS, b179_9, m6, m6, zg (by omega) (by omega), zg (by omega) (by omega), zcln (by omega), zcln (by omega)]
  have hK2 := hK ia' la' h1 h2
  unfold zOver at hK2
  have u1 : zu (zPM N s W r ia') 153 (6 * s + h) (nI m) = zPM N s (zu W 3 h (nI m)) r ia' := by
    conv => lhs; rw [e3]
    exact zPM_u153 (by omega)
  rw [u1, zPM_u154 (by omega), zR156 hm, zPM_u156 hm, zR156 (by omega), zPM_u156 (by omega)]
  exact hK2
end ZP
