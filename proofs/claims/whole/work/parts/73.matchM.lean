/-! matching: the first best -/
def zMg (x y : Nat × Nat × (Nat → Int32)) : Nat × Nat × (Nat → Int32) := if x.1 < y.1 ∨ (x.1 = y.1 ∧ y.2.1 < x.2.1) then y else x
def zMc (x : Option (Nat × Nat × (Nat → Int32))) (y : Nat × Nat × (Nat → Int32)) : Option (Nat × Nat × (Nat → Int32)) := match x with
  | none => some y
  | some x => some (zMg x y)
def zFo (cand : Nat → Option (Nat × Nat × (Nat → Int32))) : Nat → Option (Nat × Nat × (Nat → Int32))
  | 0 => none
  | h + 1 => match cand h with
    | none => zFo cand h
    | some y => zMc (zFo cand h) y
def zFi (x : Option (Nat × Nat × (Nat → Int32))) (y : Nat × Nat × (Nat → Int32)) : Nat × Nat × (Nat → Int32) := match x with
  | none => y
  | some x => zMg x y
def zWi (C : Nat → Nat → Nat) (p h : Nat) (x : Nat × Nat × (Nat → Int32)) : Nat × Nat × (Nat → Int32) := (x.1 + 1, x.2.1 + C p h, va_up x.2.2 p (nI h))
def zSk (p : Nat) (x : Nat × Nat × (Nat → Int32)) : Nat × Nat × (Nat → Int32) := (x.1, x.2.1, va_up x.2.2 p (-2))
/-- the first best way for the last n of N people, when the hands u are taken -/
def zMo (N : Nat) (C : Nat → Nat → Nat) (F : Nat → Nat → Bool) : Nat → Nat → Nat × Nat × (Nat → Int32)
  | 0, _ => (0, 0, fun _ => 0)
  | n + 1, u => zFi (zFo (fun h => if F (N - (n + 1)) h = true ∧ u.testBit h = false then some (zWi C (N - (n + 1)) h (zMo N C F n (u ||| 2 ^ h))) else none) N) (zSk (N - (n + 1)) (zMo N C F n u))
/-- what was chosen ahead, before what follows -/
def zLi (k0 c0 p : Nat) (now : Nat → Int32) (x : Nat × Nat × (Nat → Int32)) : Nat × Nat × (Nat → Int32) := (k0 + x.1, c0 + x.2.1, fun q => if q < p then now q else x.2.2 q)
theorem zMg_a {x y z : Nat × Nat × (Nat → Int32)} : zMg (zMg x y) z = zMg x (zMg y z) := by
  unfold zMg
  by_cases c1 : x.1 < y.1 ∨ (x.1 = y.1 ∧ y.2.1 < x.2.1)
  · rw [if_pos c1]
    by_cases c2 : y.1 < z.1 ∨ (y.1 = z.1 ∧ z.2.1 < y.2.1)
    · rw [if_pos c2, if_pos (by omega)]
    · rw [if_neg c2, if_pos c1]
  · rw [if_neg c1]
    by_cases c2 : y.1 < z.1 ∨ (y.1 = z.1 ∧ z.2.1 < y.2.1)
    · rw [if_pos c2]
    · rw [if_neg c2, if_neg c1, if_neg (by omega)]
theorem zMc_a {x : Option (Nat × Nat × (Nat → Int32))} {y z : Nat × Nat × (Nat → Int32)} : zMc (zMc x y) z = zMc x (zMg y z) := by
  cases x with
  | none => rfl
  | some x => show some (zMg (zMg x y) z) = some (zMg x (zMg y z)); rw [zMg_a]
theorem zLi_g {k0 c0 p : Nat} {now : Nat → Int32} {x y : Nat × Nat × (Nat → Int32)} : zMg (zLi k0 c0 p now x) (zLi k0 c0 p now y) = zLi k0 c0 p now (zMg x y) := by
  unfold zMg zLi
  dsimp only
  by_cases c1 : x.1 < y.1 ∨ (x.1 = y.1 ∧ y.2.1 < x.2.1)
  · rw [if_pos c1, if_pos (by omega)]
  · rw [if_neg c1, if_neg (by omega)]
/-- merged one by one, or the first best merged -/
theorem zFo_c {cur : Option (Nat × Nat × (Nat → Int32))} {cand : Nat → Option (Nat × Nat × (Nat → Int32))} {k0 c0 p : Nat} {now : Nat → Int32} {h : Nat} : (match cand h with | none => (match zFo cand h with | none => cur | some x => zMc cur (zLi k0 c0 p now x)) | some y => zMc (match zFo cand h with | none => cur | some x => zMc cur (zLi k0 c0 p now x)) (zLi k0 c0 p now y)) = (match zFo cand (h + 1) with | none => cur | some x => zMc cur (zLi k0 c0 p now x)) := by
  have e : zFo cand (h + 1) = match cand h with
    | none => zFo cand h
    | some y => zMc (zFo cand h) y := rfl
  rw [e]
  cases cand h with
  | none => rfl
  | some y =>
    dsimp only
    cases zFo cand h with
    | none => rfl
    | some x =>
      show zMc (zMc cur (zLi k0 c0 p now x)) (zLi k0 c0 p now y) = zMc cur (zLi k0 c0 p now (zMg x y))
      rw [zMc_a, zLi_g]
def zRp (N : Nat) (sa : Nat → Nat → Int32) (x : Option (Nat × Nat × (Nat → Int32))) : Prop := match x with
  | none => sa 127 54 = -1 ∧ sa 127 55 = 0
  | some x => x.1 ≤ 6 ∧ x.2.1 ≤ 2000000 ∧ sa 127 54 = nI x.1 ∧ sa 127 55 = nI x.2.1 ∧ ∀ q, q < N → sa 160 q = x.2.2 q
theorem zMg_or {x y : Nat × Nat × (Nat → Int32)} : zMg x y = x ∨ zMg x y = y := by
  unfold zMg
  split
  · exact Or.inr rfl
  · exact Or.inl rfl
theorem zFo_p {cand : Nat → Option (Nat × Nat × (Nat → Int32))} {P : Nat × Nat × (Nat → Int32) → Prop} : ∀ n : Nat, (∀ h y, h < n → cand h = some y → P y) → ∀ x, zFo cand n = some x → P x := by
  intro n
  induction n with
  | zero => intro _ x h; exact absurd h (by simp [zFo])
  | succ n ih =>
    intro hc x hx
    have hx : (match cand n with
      | none => zFo cand n
      | some y => zMc (zFo cand n) y) = some x := hx
    cases e : cand n with
    | none => rw [e] at hx; exact ih (fun h y hh q => hc h y (by omega) q) x hx
    | some y =>
      rw [e] at hx
      have hy := hc n y (by omega) e
      cases e2 : zFo cand n with
      | none =>
        rw [e2] at hx
        have : y = x := Option.some.inj hx
        rw [← this]; exact hy
      | some z =>
        rw [e2] at hx
        have : zMg z y = x := Option.some.inj hx
        rw [← this]
        rcases zMg_or (x := z) (y := y) with q | q
        · rw [q]; exact ih (fun h y hh q => hc h y (by omega) q) z e2
        · rw [q]; exact hy
section ZP
variable {d pl dr N L T D s w : Nat} {cp cw rp : Option Nat} {p ia sa W V : Nat → Nat → Int32} {C : Nat → Nat → Nat} {F : Nat → Nat → Bool} {o : Nat → Int32} {r bn x y : Int32} {la lb : Nat → Nat → Int64} {K : Option Value → zHP → Prop}
theorem zMo_b (hC : ∀ p h, C p h ≤ 297000) : ∀ n u : Nat, (zMo N C F n u).1 ≤ n ∧ (zMo N C F n u).2.1 ≤ 297000 * (zMo N C F n u).1 := by
  intro n
  induction n with
  | zero => intro u; exact ⟨Nat.le_refl _, Nat.le_refl _⟩
  | succ n ih =>
    intro u
    have sk : (zSk (N - (n + 1)) (zMo N C F n u)).1 ≤ n + 1 ∧ (zSk (N - (n + 1)) (zMo N C F n u)).2.1 ≤ 297000 * (zSk (N - (n + 1)) (zMo N C F n u)).1 := by
      have := ih u
      unfold zSk
      exact ⟨by omega, this.2⟩
    show (zFi (zFo _ N) (zSk (N - (n + 1)) (zMo N C F n u))).1 ≤ n + 1 ∧ (zFi (zFo _ N) (zSk (N - (n + 1)) (zMo N C F n u))).2.1 ≤ 297000 * (zFi (zFo _ N) (zSk (N - (n + 1)) (zMo N C F n u))).1
    have fo := zFo_p (cand := fun h => if F (N - (n + 1)) h = true ∧ u.testBit h = false then some (zWi C (N - (n + 1)) h (zMo N C F n (u ||| 2 ^ h))) else none) (P := fun x => x.1 ≤ n + 1 ∧ x.2.1 ≤ 297000 * x.1) N (fun h y hh q => by
      split at q
      · have e : zWi C (N - (n + 1)) h (zMo N C F n (u ||| 2 ^ h)) = y := Option.some.inj q
        rw [← e]
        have := ih (u ||| 2 ^ h)
        have c := hC (N - (n + 1)) h
        unfold zWi
        dsimp only
        omega
      · exact absurd q (by simp))
    generalize zFo (fun h => if F (N - (n + 1)) h = true ∧ u.testBit h = false then some (zWi C (N - (n + 1)) h (zMo N C F n (u ||| 2 ^ h))) else none) N = z at fo
    cases z with
    | none => exact sk
    | some x =>
      show (zMg x _).1 ≤ n + 1 ∧ (zMg x _).2.1 ≤ 297000 * (zMg x _).1
      rcases zMg_or (x := x) (y := zSk (N - (n + 1)) (zMo N C F n u)) with q | q
      · rw [q]; exact fo x rfl
      · rw [q]; exact sk
theorem S_mat (hpl : zIsP pl) (hCo : zCore pl p N L T D W r ia la) (hCb : ∀ p h, C p h ≤ 297000) (hCc : ∀ a h, a < N → h < N → zds (W 2) (p 2) (3 * h) (3 * a) = nI (C a h)) (hF : ∀ a h, a < N → h < N → F a h = decide (¬ h = a ∧ W 3 h < 0)) : ∀ (n e a u k0 c0 : Nat) (sa : Nat → Nat → Int32) (cur : Option (Nat × Nat × (Nat → Int32))) (K : Option Value → zHP → Prop), n ≤ e → a + n = N → u < 64 → k0 ≤ a → c0 ≤ 297000 * a → zFr ia la sa lb → zRp N sa cur → (∀ sa', zFr ia la sa' lb → zRp N sa' (zMc cur (zLi k0 c0 a (sa 159) (zMo N C F n u))) → (∀ q, q < a → sa' 159 q = sa 159 q) → K none (sa', lb, zRA pl dr cp cw rp)) → zWM (e + 10) 207 [.ref 127, .int (nI a), .int (nI u), .int (nI k0), .int (nI c0)] (sa, lb, zRA pl dr cp cw rp) K := by
  have hN6 : N ≤ 6 := hCo.2.1.2.1
  intro n
  induction n with
  | zero =>
    intro e a u k0 c0 sa cur K he ha hu hk hc hfr hrp hK
    have hCs := zCore_fr hpl hfr hCo
    have eN : a = N := by omega
    subst eN
    have cpy : ∀ (m q : Nat) (ja : Nat → Nat → Int32), q + m = a → zFr ia la ja lb → ja 127 54 = nI k0 → ja 127 55 = nI c0 → ja 159 = sa 159 → (∀ i, i < q → ja 160 i = sa 159 i) → (∀ ja, zFr ia la ja lb → ja 127 54 = nI k0 → ja 127 55 = nI c0 → ja 159 = sa 159 → (∀ i, i < a → ja 160 i = sa 159 i) → K none (ja, lb, zRA pl dr cp cw rp)) → zWP (e + 10) 207 50 [some (.ref 127), some (.int (nI a)), some (.int (nI u)), some (.int (nI k0)), some (.int (nI c0)), some (.int (nI q))] [] (ja, lb, zRA pl dr cp cw rp) K := by
      intro m
      induction m with
      | zero =>
        intro q ja hq h1 h2 h3 h4 h5 h6
        rw [b207_50, if_pos (nI_le1 (by omega) (by omega))]
        exact h6 ja h1 h2 h3 h4 (fun i hi => h5 i (by omega))
      | succ m ih =>
        intro q ja hq h1 h2 h3 h4 h5 h6
        rw [b207_50, if_neg (nI_nle1 (by omega) (by omega)), zg (by omega) (by omega), zcln (by omega), ns]
        refine ih (q + 1) _ (by omega) (zFr_u rfl h1) (by rw [zu_o (by decide)]; exact h2) (by rw [zu_o (by decide)]; exact h3) (by rw [zu_o (by decide)]; exact h4) (fun i hi => ?_) h6
        rw [zu_at]
        by_cases ei : i = q
        · rw [if_pos ⟨rfl, ei⟩, h4, ei]
        · rw [if_neg (fun z => ei z.2)]; exact h5 i (by omega)
    have take : zMc cur (zLi k0 c0 a (sa 159) (zMo a C F 0 u)) = some (zLi k0 c0 a (sa 159) (zMo a C F 0 u)) → zWP (e + 10) 207 50 [some (.ref 127), some (.int (nI a)), some (.int (nI u)), some (.int (nI k0)), some (.int (nI c0)), some (.int 0)] [] (zu (zu sa 127 54 (nI k0)) 127 55 (nI c0), lb, zRA pl dr cp cw rp) K := by
      intro em
      refine cpy a 0 _ (by omega) (zFr_u rfl (zFr_u rfl hfr)) (by rw [zu_k (by decide), zu_eq]) (zu_eq _ _ _ _) (by rw [zu_o (by decide), zu_o (by decide)]) (fun i hi => by omega) (fun ja h1 h2 h3 h4 h5 => ?_)
      refine hK ja h1 ?_ (fun q hq => by rw [h4])
      rw [em]
      refine ⟨by show k0 + 0 ≤ 6; omega, by show c0 + 0 ≤ 2000000; omega, h2, h3, fun q hq => ?_⟩
      rw [h5 q hq]
      show _ = if q < a then sa 159 q else _
      rw [if_pos hq]
    rw [e207, b207_0, hCs.2.2.1.1, if_neg (fun z => z rfl)]
    cases cur with
    | none =>
      obtain ⟨r1, r2⟩ := hrp
      rw [r1, r2, if_neg (show ¬ nI k0 < -1 from fun z => nI_pos (n := k0) (by omega) (Int32.lt_trans z (by decide))), if_pos (fun z => nI_pos (n := k0) (by omega) (by rw [z]; decide))]
      exact take rfl
    | some x =>
      obtain ⟨b1, b2, r1, r2, r3⟩ := hrp
      rw [r1, r2]
      have lz : zLi k0 c0 a (sa 159) (zMo a C F 0 u) = (k0, c0, fun q => if q < a then sa 159 q else 0) := rfl
      by_cases c1 : k0 < x.1
      · rw [if_pos (nI_lt c1 (by omega))]
        refine hK sa hfr ?_ (fun _ _ => rfl)
        rw [lz]
        show zRp a sa (some (zMg x _))
        have : zMg x (k0, c0, fun q => if q < a then sa 159 q else 0) = x := by unfold zMg; rw [if_neg]; dsimp only; omega
        rw [this]
        exact ⟨b1, b2, r1, r2, r3⟩
      · rw [if_neg (nI_nlt (by omega) (by omega))]
        by_cases c2 : k0 = x.1
        · rw [if_neg (fun z => z (by rw [c2]))]
          by_cases c3 : c0 < x.2.1
          · rw [if_pos (nI_lt c3 (by omega))]
            refine take ?_
            rw [lz]
            show some (zMg x _) = _
            unfold zMg
            rw [if_pos]
            right; exact ⟨c2.symm, c3⟩
          · rw [if_neg (nI_nlt (by omega) (by omega))]
            refine hK sa hfr ?_ (fun _ _ => rfl)
            rw [lz]
            show zRp a sa (some (zMg x _))
            have : zMg x (k0, c0, fun q => if q < a then sa 159 q else 0) = x := by unfold zMg; rw [if_neg]; dsimp only; omega
            rw [this]
            exact ⟨b1, b2, r1, r2, r3⟩
        · rw [if_pos (fun z => c2 ((nI_eq (by omega) (by omega)).mp z))]
          refine take ?_
          rw [lz]
          show some (zMg x _) = _
          unfold zMg
          rw [if_pos]
          left; show x.1 < k0; omega
  | succ n ih =>
    intro e a u k0 c0 sa cur K he ha hu hk hc hfr hrp hK
    obtain ⟨e', rfl⟩ : ∃ e', e = e' + 1 := ⟨e - 1, by omega⟩
    have ea : N - (n + 1) = a := by omega
    have hmo : zMo N C F (n + 1) u = zFi (zFo (fun h => if F a h = true ∧ u.testBit h = false then some (zWi C a h (zMo N C F n (u ||| 2 ^ h))) else none) N) (zSk a (zMo N C F n u)) := by
      show zFi (zFo (fun h => if F (N - (n + 1)) h = true ∧ u.testBit h = false then some (zWi C (N - (n + 1)) h (zMo N C F n (u ||| 2 ^ h))) else none) N) (zSk (N - (n + 1)) (zMo N C F n u)) = _
      rw [ea]
    rw [hmo] at hK
    generalize hcd : (fun h => if F a h = true ∧ u.testBit h = false then some (zWi C a h (zMo N C F n (u ||| 2 ^ h))) else none) = cand at hK
    have hCs0 := zCore_fr hpl hfr hCo
    have loop : ∀ (m h : Nat) (ja : Nat → Nat → Int32), h + m = N → zFr ia la ja lb → (∀ q, q < a → ja 159 q = sa 159 q) → zRp N ja (match zFo cand h with | none => cur | some x => zMc cur (zLi k0 c0 a (sa 159) x)) → zWP (e' + 1 + 10) 207 80 [some (.ref 127), some (.int (nI a)), some (.int (nI u)), some (.int (nI k0)), some (.int (nI c0)), some (.int (nI h))] [] (ja, lb, zRA pl dr cp cw rp) K := by
      intro m
      induction m with
      | zero =>
        intro h ja hm h1 h2 h3
        have hCs := zCore_fr hpl h1 hCo
        have eh : h = N := by omega
        rw [b207_80, hCs.2.2.1.1, if_pos (nI_le1 (by omega) (by omega)), zg (by omega) (by omega), zcln (by omega), ns]
        refine ih e' (a + 1) u k0 c0 _ (match zFo cand h with | none => cur | some x => zMc cur (zLi k0 c0 a (sa 159) x)) _ (by omega) (by omega) hu (by omega) (by omega) (zFr_u rfl h1) ?_ (fun sa' g1 g2 g3 => ?_)
        · revert h3
          generalize (match zFo cand h with | none => cur | some x => zMc cur (zLi k0 c0 a (sa 159) x)) = z
          intro h3
          cases z with
          | none => exact ⟨by rw [zu_o (by decide)]; exact h3.1, by rw [zu_o (by decide)]; exact h3.2⟩
          | some z => exact ⟨h3.1, h3.2.1, by rw [zu_o (by decide)]; exact h3.2.2.1, by rw [zu_o (by decide)]; exact h3.2.2.2.1, fun q hq => by rw [zu_o (by decide)]; exact h3.2.2.2.2 q hq⟩
        · rw [kN, b207_180]
          refine hK sa' g1 ?_ (fun q hq => by rw [g3 q (by omega), zu_at, if_neg (by omega)]; exact h2 q hq)
          have el : zLi k0 c0 (a + 1) (zu ja 159 a (-2) 159) (zMo N C F n u) = zLi k0 c0 a (sa 159) (zSk a (zMo N C F n u)) := by
            unfold zLi zSk
            dsimp only
            congr 2
            funext q
            by_cases q1 : q < a
            · rw [if_pos (by omega), if_pos q1, zu_at, if_neg (by omega)]; exact h2 q q1
            · rw [if_neg q1]
              unfold va_up
              by_cases q2 : q = a
              · rw [if_pos (by omega), if_pos q2, zu_at, if_pos ⟨rfl, q2⟩]
              · rw [if_neg (by omega), if_neg q2]
          rw [el, eh] at g2
          have em : zMc (match zFo cand N with | none => cur | some x => zMc cur (zLi k0 c0 a (sa 159) x)) (zLi k0 c0 a (sa 159) (zSk a (zMo N C F n u))) = zMc cur (zLi k0 c0 a (sa 159) (zFi (zFo cand N) (zSk a (zMo N C F n u)))) := by
            cases zFo cand N with
            | none => rfl
            | some x =>
              show zMc (zMc cur (zLi k0 c0 a (sa 159) x)) _ = zMc cur (zLi k0 c0 a (sa 159) (zMg x _))
              rw [zMc_a, zLi_g]
          rw [em] at g2
          exact g2
      | succ m ihm =>
        intro h ja hm h1 h2 h3
        have hCs := zCore_fr hpl h1 hCo
        have fc := zFo_c (cur := cur) (cand := cand) (k0 := k0) (c0 := c0) (p := a) (now := sa 159) (h := h)
        have hca : cand h = if F a h = true ∧ u.testBit h = false then some (zWi C a h (zMo N C F n (u ||| 2 ^ h))) else none := by rw [← hcd]
        rw [hF a h (by omega) (by omega)] at hca
        rw [b207_80, hCs.2.2.1.1, if_neg (nI_nle1 (by omega) (by omega)), zbit_at (by omega) (by omega), ns]
        have skip : cand h = none → zWP (e' + 1 + 10) 207 80 [some (.ref 127), some (.int (nI a)), some (.int (nI u)), some (.int (nI k0)), some (.int (nI c0)), some (.int (nI (h + 1)))] [] (ja, lb, zRA pl dr cp cw rp) K := fun q => by
          rw [q] at fc
          refine ihm (h + 1) ja (by omega) h1 h2 ?_
          rw [← fc]
          exact h3
        by_cases c1 : h = a
        · rw [if_pos (by rw [c1])]
          exact skip (by rw [hca, if_neg]; intro z; have := of_decide_eq_true z.1; exact this.1 c1)
        rw [if_neg (fun z => c1 ((nI_eq (by omega) (by omega)).mp z))]
        by_cases c2 : u.testBit h = true
        · rw [if_pos c2, if_pos rfl]
          exact skip (by rw [hca, if_neg]; intro z; rw [c2] at z; exact absurd z.2 (by decide))
        have c2' : u.testBit h = false := by simpa using c2
        rw [if_neg c2, if_neg (by decide)]
        refine Eq.mpr (S_ltM (s := 0) (by omega) (zC_0 hCs) (by omega)) ?_
        rw [kS, b207_114]
        by_cases c3 : W 3 h < 0
        · rw [if_pos c3, if_pos rfl, zg (by omega) (by omega), zcln (by omega), ns, ns]
          have hcd2 : cand h = some (zWi C a h (zMo N C F n (u ||| 2 ^ h))) := by rw [hca, if_pos ⟨decide_eq_true ⟨c1, c3⟩, c2'⟩]
          have frj : zFr ia la (zu ja 159 a (nI h)) lb := zFr_u rfl h1
          have hCj := zCore_fr hpl frj hCo
          rw [S_aN hN6 (zC_0 hCj) hCj.2.2.1 (show h < N by omega) (show a < N by omega), kS, b207_151, hCc a h (by omega) (by omega), nI_add, zsh1 (by omega), nI_or]
          refine ih e' (a + 1) (u ||| 2 ^ h) (k0 + 1) (c0 + C a h) _ (match zFo cand h with | none => cur | some x => zMc cur (zLi k0 c0 a (sa 159) x)) _ (by omega) (by omega) (zor_lt hu (by omega)) (by omega) (by have := hCb a h; omega) frj ?_ (fun sa' g1 g2 g3 => ?_)
          · revert h3
            generalize (match zFo cand h with | none => cur | some x => zMc cur (zLi k0 c0 a (sa 159) x)) = z
            intro h3
            cases z with
            | none => exact ⟨by rw [zu_o (by decide)]; exact h3.1, by rw [zu_o (by decide)]; exact h3.2⟩
            | some z => exact ⟨h3.1, h3.2.1, by rw [zu_o (by decide)]; exact h3.2.2.1, by rw [zu_o (by decide)]; exact h3.2.2.2.1, fun q hq => by rw [zu_o (by decide)]; exact h3.2.2.2.2 q hq⟩
          · rw [kN, b207_155, ns]
            refine ihm (h + 1) sa' (by omega) g1 (fun q hq => by rw [g3 q (by omega), zu_at, if_neg (by omega)]; exact h2 q hq) ?_
            have el : zLi (k0 + 1) (c0 + C a h) (a + 1) (zu ja 159 a (nI h) 159) (zMo N C F n (u ||| 2 ^ h)) = zLi k0 c0 a (sa 159) (zWi C a h (zMo N C F n (u ||| 2 ^ h))) := by
              unfold zLi zWi
              dsimp only
              refine Prod.ext (by show k0 + 1 + _ = k0 + (_ + 1); omega) (Prod.ext (by show c0 + C a h + _ = c0 + (_ + C a h); omega) ?_)
              funext q
              show (if q < a + 1 then _ else _) = (if q < a then _ else _)
              by_cases q1 : q < a
              · rw [if_pos (by omega), if_pos q1, zu_at, if_neg (by omega)]; exact h2 q q1
              · rw [if_neg q1]
                unfold va_up
                by_cases q2 : q = a
                · rw [if_pos (by omega), if_pos q2, zu_at, if_pos ⟨rfl, q2⟩]
                · rw [if_neg (by omega), if_neg q2]
            rw [el] at g2
            rw [hcd2] at fc
            rw [← fc]
            exact g2
        · rw [if_neg c3, if_neg (by decide), ns]
          exact skip (by rw [hca, if_neg]; intro z; have := of_decide_eq_true z.1; exact c3 this.2)
    rw [e207, b207_0, hCs0.2.2.1.1, if_pos (fun z => by have := (nI_eq (by omega) (by omega)).mp z; omega)]
    refine loop N 0 sa (by omega) hfr (fun _ _ => rfl) ?_
    exact hrp
end ZP
