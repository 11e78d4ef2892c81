/-! matching: the class -/
def zWv (x : Nat × Nat × (Nat → Int32)) : Nat := 10000000 * x.1 - x.2.1
def zWb (x : Nat × Nat × (Nat → Int32)) : Prop := x.1 ≤ 6 ∧ x.2.1 ≤ 297000 * x.1
theorem zWv_lt {x y : Nat × Nat × (Nat → Int32)} (hx : zWb x) (hy : zWb y) : (x.1 < y.1 ∨ (x.1 = y.1 ∧ y.2.1 < x.2.1)) ↔ zWv x < zWv y := by
  obtain ⟨x1, x2⟩ := hx
  obtain ⟨y1, y2⟩ := hy
  unfold zWv
  omega
theorem zWv_le {x : Nat × Nat × (Nat → Int32)} (hx : zWb x) : zWv x ≤ 60000000 := by
  obtain ⟨x1, x2⟩ := hx
  unfold zWv
  omega
theorem zWv_mg {x y : Nat × Nat × (Nat → Int32)} (hx : zWb x) (hy : zWb y) : zWv (zMg x y) = max (zWv x) (zWv y) := by
  unfold zMg
  by_cases c : x.1 < y.1 ∨ (x.1 = y.1 ∧ y.2.1 < x.2.1)
  · rw [if_pos c, Nat.max_eq_right (by have := (zWv_lt hx hy).mp c; omega)]
  · rw [if_neg c, Nat.max_eq_left (by have : ¬ zWv x < zWv y := fun z => c ((zWv_lt hx hy).mpr z); omega)]
theorem zFo_1 {cand : Nat → Option (Nat × Nat × (Nat → Int32))} : ∀ n : Nat, (∀ h y, h < n → cand h = some y → zWb y) → ∀ x, zFo cand n = some x → ∃ h0, h0 < n ∧ cand h0 = some x ∧ (∀ h y, h < n → cand h = some y → zWv y ≤ zWv x) ∧ (∀ h y, h < h0 → cand h = some y → zWv y < zWv x) := by
  intro n
  induction n with
  | zero => intro _ x h; exact absurd h (by simp [zFo])
  | succ n ih =>
    intro hb x hx
    have hx : (match cand n with
      | none => zFo cand n
      | some y => zMc (zFo cand n) y) = some x := hx
    have hb' := fun h y (hh : h < n) q => hb h y (by omega) q
    cases e : cand n with
    | none =>
      rw [e] at hx
      obtain ⟨h0, a1, a2, a3, a4⟩ := ih hb' x hx
      refine ⟨h0, by omega, a2, fun h y hh q => ?_, a4⟩
      by_cases en : h = n
      · rw [en, e] at q; exact absurd q (by simp)
      · exact a3 h y (by omega) q
    | some y =>
      rw [e] at hx
      have hy := hb n y (by omega) e
      cases e2 : zFo cand n with
      | none =>
        rw [e2] at hx
        have exy : y = x := Option.some.inj hx
        subst exy
        have none' : ∀ m, zFo cand m = none → ∀ h, h < m → cand h = none := by
          intro m
          induction m with
          | zero => intro _ h hh; omega
          | succ m ihm =>
            intro hz h hh
            have hz : (match cand m with
              | none => zFo cand m
              | some y => zMc (zFo cand m) y) = none := hz
            cases e3 : cand m with
            | none =>
              rw [e3] at hz
              by_cases em : h = m
              · rw [em]; exact e3
              · exact ihm hz h (by omega)
            | some w =>
              rw [e3] at hz
              cases e4 : zFo cand m <;> rw [e4] at hz <;> exact absurd hz (by simp [zMc])
        refine ⟨n, by omega, e, fun h w hh q => ?_, fun h w hh q => ?_⟩
        · by_cases en : h = n
          · rw [en, e] at q
            have := Option.some.inj q
            rw [this]; exact Nat.le_refl _
          · rw [none' n e2 h (by omega)] at q; exact absurd q (by simp)
        · rw [none' n e2 h hh] at q; exact absurd q (by simp)
      | some z =>
        rw [e2] at hx
        have exz : zMg z y = x := Option.some.inj hx
        obtain ⟨h0, a1, a2, a3, a4⟩ := ih hb' z e2
        have hz := hb h0 z (by omega) a2
        unfold zMg at exz
        by_cases c : z.1 < y.1 ∨ (z.1 = y.1 ∧ y.2.1 < z.2.1)
        · rw [if_pos c] at exz
          subst exz
          have lt := (zWv_lt hz hy).mp c
          refine ⟨n, by omega, e, fun h w hh q => ?_, fun h w hh q => ?_⟩
          · by_cases en : h = n
            · rw [en, e] at q
              have := Option.some.inj q
              rw [this]; exact Nat.le_refl _
            · have := a3 h w (by omega) q; omega
          · have := a3 h w hh q; omega
        · rw [if_neg c] at exz
          subst exz
          have ge : ¬ zWv z < zWv y := fun q => c ((zWv_lt hz hy).mpr q)
          refine ⟨h0, by omega, a2, fun h w hh q => ?_, a4⟩
          by_cases en : h = n
          · rw [en, e] at q
            have := Option.some.inj q
            rw [← this]; omega
          · exact a3 h w (by omega) q
/-- which is chosen first -/
theorem zFi_1 {cand : Nat → Option (Nat × Nat × (Nat → Int32))} {n : Nat} {sk : Nat × Nat × (Nat → Int32)} (hb : ∀ h y, h < n → cand h = some y → zWb y) (hs : zWb sk) : (∃ h0, h0 < n ∧ cand h0 = some (zFi (zFo cand n) sk) ∧ ∀ h y, h < h0 → cand h = some y → zWv y < zWv (zFi (zFo cand n) sk)) ∨ (zFi (zFo cand n) sk = sk ∧ ∀ h y, h < n → cand h = some y → zWv y < zWv (zFi (zFo cand n) sk)) := by
  cases e : zFo cand n with
  | none =>
    right
    refine ⟨rfl, fun h y hh q => ?_⟩
    exfalso
    have : ∀ m, zFo cand m = none → ∀ h, h < m → cand h = none := by
      intro m
      induction m with
      | zero => intro _ h hh; omega
      | succ m ihm =>
        intro hz h hh
        have hz : (match cand m with
          | none => zFo cand m
          | some y => zMc (zFo cand m) y) = none := hz
        cases e3 : cand m with
        | none =>
          rw [e3] at hz
          by_cases em : h = m
          · rw [em]; exact e3
          · exact ihm hz h (by omega)
        | some w =>
          rw [e3] at hz
          cases e4 : zFo cand m <;> rw [e4] at hz <;> exact absurd hz (by simp [zMc])
    rw [this n e h hh] at q
    exact absurd q (by simp)
  | some x =>
    obtain ⟨h0, a1, a2, a3, a4⟩ := zFo_1 n hb x e
    have hx := hb h0 x a1 a2
    show (∃ h0, h0 < n ∧ cand h0 = some (zMg x sk) ∧ ∀ h y, h < h0 → cand h = some y → zWv y < zWv (zMg x sk)) ∨ (zMg x sk = sk ∧ ∀ h y, h < n → cand h = some y → zWv y < zWv (zMg x sk))
    unfold zMg
    by_cases c : x.1 < sk.1 ∨ (x.1 = sk.1 ∧ sk.2.1 < x.2.1)
    · rw [if_pos c]
      right
      refine ⟨rfl, fun h y hh q => ?_⟩
      have := (zWv_lt hx hs).mp c
      have := a3 h y hh q
      omega
    · rw [if_neg c]
      left
      exact ⟨h0, a1, a2, a4⟩
theorem n6m (a h : Nat) : nI a * 6 + nI h = nI (6 * a + h) := by rw [show (6 : Int32) = nI 6 from rfl, pk_mul, nI_add]; congr 1; omega
def zCa (N : Nat) (C : Nat → Nat → Nat) (F : Nat → Nat → Bool) (n a u h : Nat) : Option (Nat × Nat × (Nat → Int32)) := if F a h = true ∧ u.testBit h = false then some (zWi C a h (zMo N C F n (u ||| 2 ^ h))) else none
theorem zMo_s {N : Nat} {C : Nat → Nat → Nat} {F : Nat → Nat → Bool} {n a u : Nat} (ha : a + (n + 1) = N) : zMo N C F (n + 1) u = zFi (zFo (zCa N C F n a u) N) (zSk a (zMo N C F n u)) := by
  show zFi (zFo (fun h => if F (N - (n + 1)) h = true ∧ u.testBit h = false then some (zWi C (N - (n + 1)) h (zMo N C F n (u ||| 2 ^ h))) else none) N) (zSk (N - (n + 1)) (zMo N C F n u)) = _
  rw [show N - (n + 1) = a by omega]
  rfl
section ZP
variable {d pl dr N L T D s w n a u h : Nat} {cp cw rp : Option Nat} {p ia sa W V : Nat → Nat → Int32} {C : Nat → Nat → Nat} {F : Nat → Nat → Bool} {o : Nat → Int32} {r bn x y : Int32} {la lb : Nat → Nat → Int64} {K : Option Value → zHP → Prop}
theorem zMo_wb (hC : ∀ p h, C p h ≤ 297000) (hN : n ≤ 6) : zWb (zMo N C F n u) := by
  have := zMo_b (N := N) (F := F) hC n u
  exact ⟨by omega, this.2⟩
theorem zCa_wb (hC : ∀ p h, C p h ≤ 297000) (hn : n + 1 ≤ 6) {y : Nat × Nat × (Nat → Int32)} (hq : zCa N C F n a u h = some y) : zWb y := by
  unfold zCa at hq
  split at hq
  · have e := Option.some.inj hq
    rw [← e]
    have := zMo_b (N := N) (F := F) hC n (u ||| 2 ^ h)
    have := hC a h
    unfold zWi zWb
    dsimp only
    omega
  · exact absurd hq (by simp)
theorem S_fits (ha : a < 6) (hh : h < 6) (hu : u < 64) (hc : sa 116 (6 * a + h) = if F a h = true then nI (C a h) else -1) (hC : ∀ p h, C p h ≤ 297000) : zWM d 17 [.ref 115, .int (nI a), .int (nI h), .int (nI u)] (sa, lb, zRA pl dr cp cw rp) K = K (some (.int (if F a h = true ∧ u.testBit h = false then 1 else 0))) (sa, lb, zRA pl dr cp cw rp) := by
  rw [e17, b17_0, zbit_at (by omega) (by omega), n6m, zg (by omega) (by omega), zcln (by omega), hc]
  by_cases c1 : u.testBit h = true
  · rw [if_pos c1, if_pos (by decide), if_neg (fun z => by rw [c1] at z; exact absurd z.2 (by decide))]
  · rw [if_neg c1, if_neg (fun z => z rfl)]
    have c1' : u.testBit h = false := by simpa using c1
    by_cases c2 : F a h = true
    · have := hC a h
      rw [if_pos c2, if_neg (fun z => nI_pos (n := C a h) (by omega) (by rw [z]; decide)), if_pos ⟨c2, c1'⟩]
    · rw [if_neg c2, if_pos rfl, if_neg (fun z => c2 z.1)]
theorem S_ww (ha : a < 6) (hh : h < 6) (hu : u < 64) (hC : ∀ p h, C p h ≤ 297000) (hn : n ≤ 6) (hF : F a h = true) (hc : sa 116 (6 * a + h) = if F a h = true then nI (C a h) else -1) (hw : sa (118 + (a + 1)) (u ||| 2 ^ h) = nI (zWv (zMo N C F n (u ||| 2 ^ h)))) : zWM d 18 [.ref 115, .int (nI a), .int (nI h), .int (nI u)] (sa, lb, zRA pl dr cp cw rp) K = K (some (.int (nI (zWv (zWi C a h (zMo N C F n (u ||| 2 ^ h))))))) (sa, lb, zRA pl dr cp cw rp) := by
  have hor := zor_lt hu hh
  have hCb := hC a h
  have hm := zMo_b (N := N) (F := F) hC n (u ||| 2 ^ h)
  rw [if_pos hF] at hc
  rw [e18, b18_0, n6m, zg (by omega) (by omega), ns, zg (by omega) (by omega), zsh1 (by omega), nI_or, zg hor (by omega), zcln (by omega), zcln (by omega), zcln (by omega), hc, hw, show (10000000 : Int32) = nI 10000000 from rfl, pk_sub (by omega), nI_add]
  congr 3
  unfold zWv zWi
  dsimp only
  congr 1
  omega
theorem S_bw (haN : a + (n + 1) = N) (hN6 : N ≤ 6) (hu : u < 64) (hC : ∀ p h, C p h ≤ 297000) (hc : ∀ h, h < N → sa 116 (6 * a + h) = if F a h = true then nI (C a h) else -1) (hw : ∀ v, v < 64 → sa (118 + (a + 1)) v = nI (zWv (zMo N C F n v))) : zWM (d + 6) 16 [.ref 115, .int (nI a), .int (nI u), .int (nI N)] (sa, lb, zRA pl dr cp cw rp) K = K (some (.int (nI (zWv (zMo N C F (n + 1) u))))) (sa, lb, zRA pl dr cp cw rp) := by
  have wsk : zWb (zSk a (zMo N C F n u)) := zMo_wb (N := N) (F := F) (u := u) hC (by omega)
  have wca := fun h y q => zCa_wb (N := N) (F := F) (n := n) (a := a) (u := u) (h := h) (y := y) hC (by omega) q
  rw [zMo_s haN, e16, b16_0, ns, zg (by omega) (by omega), zg hu (by omega), zcln (by omega), zcln (by omega), hw u hu]
  have eS : zWv (zMo N C F n u) = zWv (zSk a (zMo N C F n u)) := rfl
  rw [eS]
  generalize hsk : zSk a (zMo N C F n u) = sk at wsk
  have lp : ∀ (m h : Nat), h + m = N → zWP (d + 6) 16 15 [some (.ref 115), some (.int (nI a)), some (.int (nI u)), some (.int (nI N)), some (.int (nI (zWv (zFi (zFo (zCa N C F n a u) h) sk)))), some (.int (nI h))] [] (sa, lb, zRA pl dr cp cw rp) K = K (some (.int (nI (zWv (zFi (zFo (zCa N C F n a u) N) sk))))) (sa, lb, zRA pl dr cp cw rp) := by
    intro m
    induction m with
    | zero => intro h hh; rw [b16_15, if_pos (nI_le1 (by omega) (by omega)), show h = N by omega]
    | succ m ih =>
      intro h hh
      have ih := ih (h + 1) (by omega)
      have e1 : zFo (zCa N C F n a u) (h + 1) = match zCa N C F n a u h with
        | none => zFo (zCa N C F n a u) h
        | some y => zMc (zFo (zCa N C F n a u) h) y := rfl
      rw [e1] at ih
      rw [b16_15, if_neg (nI_nle1 (by omega) (by omega)), S_fits (F := F) (C := C) (by omega) (by omega) hu (hc h (by omega)) hC, kS, b16_29, ns]
      by_cases c : F a h = true ∧ u.testBit h = false
      · have eca : zCa N C F n a u h = some (zWi C a h (zMo N C F n (u ||| 2 ^ h))) := by unfold zCa; rw [if_pos c]
        have wy := wca h _ eca
        have hor := zor_lt hu (show h < 6 by omega)
        rw [if_pos c, if_neg (by decide), S_ww (N := N) (n := n) (by omega) (by omega) hu hC (by omega) c.1 (hc h (by omega)) (hw _ hor), kS, b16_42, ns]
        rw [eca] at ih
        dsimp only at ih
        generalize zWi C a h (zMo N C F n (u ||| 2 ^ h)) = y at ih wy ⊢
        have wx : ∀ x, zFo (zCa N C F n a u) h = some x → zWb x := zFo_p (P := zWb) h (fun j y _ q => wca j y q)
        have mx : (if nI (zWv (zFi (zFo (zCa N C F n a u) h) sk)) < nI (zWv y) then nI (zWv y) else nI (zWv (zFi (zFo (zCa N C F n a u) h) sk))) = nI (zWv (zFi (zMc (zFo (zCa N C F n a u) h) y) sk)) := by
          have fi : zWv (zFi (zMc (zFo (zCa N C F n a u) h) y) sk) = max (zWv (zFi (zFo (zCa N C F n a u) h) sk)) (zWv y) := by
            cases e2 : zFo (zCa N C F n a u) h with
            | none =>
              show zWv (zMg y sk) = max (zWv sk) (zWv y)
              rw [zWv_mg wy wsk, Nat.max_comm]
            | some x =>
              have wxx := wx x e2
              show zWv (zMg (zMg x y) sk) = max (zWv (zMg x sk)) (zWv y)
              have wxy : zWb (zMg x y) := by rcases zMg_or (x := x) (y := y) with q | q <;> rw [q] <;> assumption
              rw [zWv_mg wxy wsk, zWv_mg wxx wy, zWv_mg wxx wsk]
              omega
          have b1 : zWv (zFi (zFo (zCa N C F n a u) h) sk) ≤ 60000000 := by
            cases e2 : zFo (zCa N C F n a u) h with
            | none => exact zWv_le wsk
            | some x =>
              show zWv (zMg x sk) ≤ _
              rcases zMg_or (x := x) (y := sk) with q | q <;> rw [q]
              · exact zWv_le (wx x e2)
              · exact zWv_le wsk
          have b2 := zWv_le wy
          rw [fi]
          by_cases cc : zWv (zFi (zFo (zCa N C F n a u) h) sk) < zWv y
          · rw [if_pos (nI_lt cc (by omega)), Nat.max_eq_right (by omega)]
          · rw [if_neg (nI_nlt (by omega) (by omega)), Nat.max_eq_left (by omega)]
        rw [mx]
        exact ih
      · have eca : zCa N C F n a u h = none := by unfold zCa; rw [if_neg c]
        rw [eca] at ih
        rw [if_neg c, if_pos rfl]
        exact ih
  exact lp N 0 (by omega)
end ZP
