/-! match -/
section ZP
variable {d pl dr N L T D s w n a u h : Nat} {cp cw rp : Option Nat} {p ia sa W V : Nat → Nat → Int32} {C : Nat → Nat → Nat} {F : Nat → Nat → Bool} {o : Nat → Int32} {r bn x y : Int32} {la lb : Nat → Nat → Int64} {K : Option Value → zHP → Prop}
theorem S_choose (hN6 : N ≤ 6) (hC : ∀ p h, C p h ≤ 297000) (hc : ∀ a h, a < N → h < N → sa 116 (6 * a + h) = if F a h = true then nI (C a h) else -1) (hw : ∀ q v, q ≤ N → v < 64 → sa (118 + q) v = nI (zWv (zMo N C F (N - q) v))) (hK : ∀ ja : Nat → Nat → Int32, (∀ c k, c ≠ 125 → ¬ (c = 115 ∧ (k = 3 ∨ k = 4)) → ja c k = sa c k) → ja 115 3 = nI (zMo N C F N 0).1 → ja 115 4 = nI (zMo N C F N 0).2.1 → (∀ q, q < N → ja 125 q = (zMo N C F N 0).2.2 q) → K none (ja, lb, zRA pl dr cp cw rp)) : zWM (d + 8) 19 [.ref 115, .int (nI N)] (sa, lb, zRA pl dr cp cw rp) K := by
  have main : ∀ (n a u k0 c0 : Nat) ja a4, a + n = N → u < 64 → k0 ≤ a → c0 ≤ 297000 * a → (∀ c k, c ≠ 125 → ¬ (c = 115 ∧ (k = 3 ∨ k = 4)) → ja c k = sa c k) → ja 115 3 = nI k0 → ja 115 4 = nI c0 → k0 + (zMo N C F n u).1 = (zMo N C F N 0).1 → c0 + (zMo N C F n u).2.1 = (zMo N C F N 0).2.1 → (∀ q, q < a → ja 125 q = (zMo N C F N 0).2.2 q) → (∀ q, a ≤ q → q < N → (zMo N C F n u).2.2 q = (zMo N C F N 0).2.2 q) → zWP (d + 8) 19 14 [some (.ref 115), some (.int (nI N)), some (.int (nI u)), some (.int (nI a)), a4] [] (ja, lb, zRA pl dr cp cw rp) K := by
    intro n
    induction n with
    | zero =>
      intro a u k0 c0 ja a4 ha hu hk hcc g1 g2 g3 g4 g5 g6 g7
      rw [b19_14, if_pos (nI_le1 (by omega) (by omega))]
      have e1 : (zMo N C F 0 u).1 = 0 := rfl
      have e2 : (zMo N C F 0 u).2.1 = 0 := rfl
      refine hK ja g1 (by rw [g2, ← g4, e1]; rfl) (by rw [g3, ← g5, e2]; rfl) (fun q hq => g6 q (by omega))
    | succ n ih =>
      intro a u k0 c0 ja a4 ha hu hk hcc g1 g2 g3 g4 g5 g6 g7
      have wsk : zWb (zSk a (zMo N C F n u)) := zMo_wb (N := N) (F := F) (u := u) hC (by omega)
      have wca := fun h y (q : zCa N C F n a u h = some y) => zCa_wb (N := N) (F := F) (n := n) (a := a) (u := u) (h := h) (y := y) hC (by omega) q
      have emo := zMo_s (N := N) (C := C) (F := F) (n := n) (a := a) (u := u) ha
      have wR : zWb (zMo N C F (n + 1) u) := zMo_wb hC (by omega)
      have cases1 := zFi_1 (cand := zCa N C F n a u) (n := N) (sk := zSk a (zMo N C F n u)) (fun h y _ q => wca h y q) wsk
      rw [← emo] at cases1
      rw [b19_14, if_neg (nI_nle1 (by omega) (by omega)), zg (by omega) (by omega), zcln (by omega)]
      have f2 : ∀ c, c ≠ 125 → zu ja 125 a (-2) c = ja c := fun c h => zu_o h
      have c116 : ∀ h, h < N → zu ja 125 a (-2) 116 (6 * a + h) = if F a h = true then nI (C a h) else -1 := fun h hh => by rw [f2 _ (by decide), g1 116 _ (by decide) (by omega)]; exact hc a h (by omega) hh
      have w118 : ∀ q v, q ≤ N → v < 64 → zu ja 125 a (-2) (118 + q) v = nI (zWv (zMo N C F (N - q) v)) := fun q v hq hv => by rw [f2 _ (by omega), g1 _ _ (by omega) (by omega)]; exact hw q v hq hv
      have look : ∀ (h : Nat) (rest : Prop → Prop), h < N → True := fun _ _ _ => trivial
      -- one hand looked at
      have one : ∀ h, h < N → zWP (d + 8) 19 30 [some (.ref 115), some (.int (nI N)), some (.int (nI u)), some (.int (nI a)), some (.int (nI h))] [] (zu ja 125 a (-2), lb, zRA pl dr cp cw rp) K = (if (∃ y, zCa N C F n a u h = some y ∧ zWv y = zWv (zMo N C F (n + 1) u)) then zWP (d + 8) 19 30 [some (.ref 115), some (.int (nI N)), some (.int (nI u)), some (.int (nI a)), some (.int (nI (h + 1)))] [] (zu ja 125 a (nI h), lb, zRA pl dr cp cw rp) K else zWP (d + 8) 19 30 [some (.ref 115), some (.int (nI N)), some (.int (nI u)), some (.int (nI a)), some (.int (nI (h + 1)))] [] (zu ja 125 a (-2), lb, zRA pl dr cp cw rp) K) := by
        intro h hh
        rw [b19_30, if_neg (nI_nle1 (by omega) (by omega)), zg (by omega) (by omega), zcln (by omega), zu_eq, if_neg (fun z => z rfl), S_fits (F := F) (C := C) (by omega) (by omega) hu (c116 h hh) hC, kS, b19_55, ns]
        by_cases c : F a h = true ∧ u.testBit h = false
        · have eca : zCa N C F n a u h = some (zWi C a h (zMo N C F n (u ||| 2 ^ h))) := by unfold zCa; rw [if_pos c]
          have wy := wca h _ eca
          have b1 := zWv_le wy
          have b2 := zWv_le wR
          have hor := zor_lt hu (show h < 6 by omega)
          have ww := w118 (a + 1) (u ||| 2 ^ h) (by omega) hor
          rw [show N - (a + 1) = n by omega] at ww
          have wa := w118 a u (by omega) hu
          rw [show N - a = n + 1 by omega] at wa
          rw [if_pos c, if_neg (by decide), S_ww (N := N) (n := n) (by omega) (by omega) hu hC (by omega) c.1 (c116 h hh) ww, kS, b19_66, zg (by omega) (by omega), zg hu (by omega), zg (by omega) (by omega), zcln (by omega), zcln (by omega), wa, ns, zu_zu]
          by_cases ce : zWv (zWi C a h (zMo N C F n (u ||| 2 ^ h))) = zWv (zMo N C F (n + 1) u)
          · rw [if_neg (fun z => z (by rw [ce])), if_pos ⟨_, eca, ce⟩]
          · rw [if_pos (fun z => ce ((nI_eq (by omega) (by omega)).mp z)), if_neg]
            rintro ⟨y, q1, q2⟩
            rw [eca] at q1
            have := Option.some.inj q1
            rw [← this] at q2
            exact ce q2
        · have eca : zCa N C F n a u h = none := by unfold zCa; rw [if_neg c]
          rw [if_neg c, if_pos rfl, if_neg]
          rintro ⟨y, q1, q2⟩
          rw [eca] at q1
          exact absurd q1 (by simp)
      rcases cases1 with ⟨h0, hh0, eh0, hlt⟩ | ⟨esk, hlt⟩
      · have scan : ∀ (m h : Nat), h + m = h0 → zWP (d + 8) 19 30 [some (.ref 115), some (.int (nI N)), some (.int (nI u)), some (.int (nI a)), some (.int (nI h))] [] (zu ja 125 a (-2), lb, zRA pl dr cp cw rp) K = zWP (d + 8) 19 30 [some (.ref 115), some (.int (nI N)), some (.int (nI u)), some (.int (nI a)), some (.int (nI h0))] [] (zu ja 125 a (-2), lb, zRA pl dr cp cw rp) K := by
          intro m
          induction m with
          | zero => intro h hh; rw [show h = h0 by omega]
          | succ m ihm =>
            intro h hh
            rw [one h (by omega), if_neg, ihm (h + 1) (by omega)]
            rintro ⟨y, q1, q2⟩
            have := hlt h y (by omega) q1
            omega
        refine Eq.mpr (scan h0 0 (by omega)) ?_
        rw [one h0 hh0, if_pos ⟨_, eh0, rfl⟩]
        have ec : F a h0 = true ∧ u.testBit h0 = false := by
          unfold zCa at eh0
          by_cases c : F a h0 = true ∧ u.testBit h0 = false
          · exact c
          · rw [if_neg c] at eh0; exact absurd eh0 (by simp)
        have eR : zMo N C F (n + 1) u = zWi C a h0 (zMo N C F n (u ||| 2 ^ h0)) := by
          unfold zCa at eh0
          rw [if_pos ec] at eh0
          exact (Option.some.inj eh0).symm
        rw [eR] at g4 g5 g7
        have out : zWP (d + 8) 19 30 [some (.ref 115), some (.int (nI N)), some (.int (nI u)), some (.int (nI a)), some (.int (nI (h0 + 1)))] [] (zu ja 125 a (nI h0), lb, zRA pl dr cp cw rp) K = zWP (d + 8) 19 91 [some (.ref 115), some (.int (nI N)), some (.int (nI u)), some (.int (nI a)), some (.int (nI (h0 + 1)))] [] (zu ja 125 a (nI h0), lb, zRA pl dr cp cw rp) K := by
          rw [b19_30, zg (by omega) (by omega), zcln (by omega), zu_eq, if_pos (show ¬ nI h0 = -2 from fun z => nI_pos (n := h0) (by omega) (by rw [z]; decide))]
          split <;> rfl
        have cc : zu ja 125 a (nI h0) 116 (6 * a + h0) = nI (C a h0) := by
          rw [zu_o (by decide), g1 116 _ (by decide) (by omega), hc a h0 (by omega) (by omega), if_pos ec.1]
        have v3 : zu ja 125 a (nI h0) 115 3 = nI k0 := by rw [zu_o (by decide)]; exact g2
        have v4 : zu ja 125 a (nI h0) 115 4 = nI c0 := by rw [zu_o (by decide)]; exact g3
        have v5 : zu ja 125 a (nI h0) 125 a = nI h0 := zu_eq _ _ _ _
        rw [out, b19_91, zg (by omega) (by omega), zcln (by omega), v5, if_neg (show ¬ nI h0 = -2 from fun z => nI_pos (n := h0) (by omega) (by rw [z]; decide))]
        generalize hjb : zu ja 125 a (nI h0) = jb at cc v3 v4 v5 ⊢
        rw [v3, zu_o (show (125 : Nat) ≠ 115 by decide), zu_o (show (125 : Nat) ≠ 115 by decide), zu_o (show (125 : Nat) ≠ 115 by decide), zu_o (show (116 : Nat) ≠ 115 by decide), v5, n6m, zg (by omega) (by omega), zcln (by omega), cc, zu_k (show (4 : Nat) ≠ 3 by decide), v4, ns, nI_add, zsh1 (by omega), nI_or, ns]
        have hCb := hC a h0
        have eW1 : (zWi C a h0 (zMo N C F n (u ||| 2 ^ h0))).1 = (zMo N C F n (u ||| 2 ^ h0)).1 + 1 := rfl
        have eW2 : (zWi C a h0 (zMo N C F n (u ||| 2 ^ h0))).2.1 = (zMo N C F n (u ||| 2 ^ h0)).2.1 + C a h0 := rfl
        have eW3 : ∀ q, (zWi C a h0 (zMo N C F n (u ||| 2 ^ h0))).2.2 q = if q = a then nI h0 else (zMo N C F n (u ||| 2 ^ h0)).2.2 q := fun q => rfl
        refine ih (a + 1) (u ||| 2 ^ h0) (k0 + 1) (c0 + C a h0) _ _ (by omega) (zor_lt hu (by omega)) (by omega) (by omega) (fun c k q1 q2 => ?_) (by rw [zu_k (by decide), zu_eq]) (zu_eq _ _ _ _) (by rw [eW1] at g4; omega) (by rw [eW2] at g5; omega) (fun q hq => ?_) (fun q hq hq2 => ?_)
        · rw [zu_at, if_neg (by omega), zu_at, if_neg (by omega), ← hjb, zu_o q1]; exact g1 c k q1 q2
        · rw [zu_o (by decide), zu_o (by decide), ← hjb, zu_at]
          by_cases e : q = a
          · rw [if_pos ⟨rfl, e⟩]
            have := g7 q (by omega) (by omega)
            rw [eW3, if_pos e] at this
            exact this
          · rw [if_neg (fun z => e z.2)]; exact g6 q (by omega)
        · have := g7 q (by omega) hq2
          rw [eW3, if_neg (by omega)] at this
          exact this
      · have scan : ∀ (m h : Nat), h + m = N → zWP (d + 8) 19 30 [some (.ref 115), some (.int (nI N)), some (.int (nI u)), some (.int (nI a)), some (.int (nI h))] [] (zu ja 125 a (-2), lb, zRA pl dr cp cw rp) K = zWP (d + 8) 19 30 [some (.ref 115), some (.int (nI N)), some (.int (nI u)), some (.int (nI a)), some (.int (nI N))] [] (zu ja 125 a (-2), lb, zRA pl dr cp cw rp) K := by
          intro m
          induction m with
          | zero => intro h hh; rw [show h = N by omega]
          | succ m ihm =>
            intro h hh
            rw [one h (by omega), if_neg, ihm (h + 1) (by omega)]
            rintro ⟨y, q1, q2⟩
            have := hlt h y (by omega) q1
            omega
        refine Eq.mpr (scan N 0 (by omega)) ?_
        rw [esk] at g4 g5 g7
        rw [b19_30, if_pos (nI_le1 (by omega) (by omega)), b19_91, zg (by omega) (by omega), zcln (by omega), zu_eq, if_pos rfl, ns]
        refine ih (a + 1) u k0 c0 _ _ (by omega) hu (by omega) (by omega) (fun c k q1 q2 => by rw [zu_o q1]; exact g1 c k q1 q2) (by rw [zu_o (by decide)]; exact g2) (by rw [zu_o (by decide)]; exact g3) g4 g5 (fun q hq => ?_) (fun q hq hq2 => ?_)
        · rw [zu_at]
          by_cases e : q = a
          · rw [if_pos ⟨rfl, e⟩]
            have := g7 q (by omega) (by omega)
            have e3 : (zSk a (zMo N C F n u)).2.2 q = if q = a then -2 else (zMo N C F n u).2.2 q := rfl
            rw [e3, if_pos e] at this
            exact this
          · rw [if_neg (fun z => e z.2)]; exact g6 q (by omega)
        · have := g7 q (by omega) hq2
          have e3 : (zSk a (zMo N C F n u)).2.2 q = if q = a then -2 else (zMo N C F n u).2.2 q := rfl
          rw [e3, if_neg (by omega)] at this
          exact this
  rw [e19, b19_0]
  refine main N 0 0 0 0 _ none (by omega) (by omega) (by omega) (by omega) (fun c k q1 q2 => ?_) (by rw [zu_k (by decide), zu_eq]; rfl) (by rw [zu_eq]; rfl) (Nat.zero_add _) (Nat.zero_add _) (fun q hq => by omega) (fun _ _ _ => rfl)
  rw [zu_at, if_neg (by omega), zu_at, if_neg (by omega)]
theorem S_solve (hN6 : N ≤ 6) (hC : ∀ p h, C p h ≤ 297000) (hc : ∀ a h, a < N → h < N → sa 116 (6 * a + h) = if F a h = true then nI (C a h) else -1) (hK : ∀ ja : Nat → Nat → Int32, (∀ c k, c ≠ 125 → ¬ (c = 115 ∧ (k = 3 ∨ k = 4)) → ¬ (118 ≤ c ∧ c ≤ 124) → ja c k = sa c k) → ja 115 3 = nI (zMo N C F N 0).1 → ja 115 4 = nI (zMo N C F N 0).2.1 → (∀ q, q < N → ja 125 q = (zMo N C F N 0).2.2 q) → K none (ja, lb, zRA pl dr cp cw rp)) : zWM (d + 9) 15 [.ref 115, .int (nI N)] (sa, lb, zRA pl dr cp cw rp) K := by
  have kz : ∀ q, q ≤ 6 → zkd (118 + q) = 100 ∧ zln (118 + q) = 64 := by
    intro q hq
    rcases (show q = 0 ∨ q = 1 ∨ q = 2 ∨ q = 3 ∨ q = 4 ∨ q = 5 ∨ q = 6 by omega) with e | e | e | e | e | e | e <;> subst e <;> exact ⟨rfl, rfl⟩
  have rows : ∀ (a : Nat) ja a3, a ≤ N → (∀ c k, ¬ (118 ≤ c ∧ c ≤ 124) → ja c k = sa c k) → (∀ q v, a ≤ q → q ≤ N → v < 64 → ja (118 + q) v = nI (zWv (zMo N C F (N - q) v))) → zWP (d + 9) 15 27 [some (.ref 115), some (.int (nI N)), some (.int (nI a - 1)), a3] [] (ja, lb, zRA pl dr cp cw rp) K := by
    intro a
    induction a with
    | zero =>
      intro ja a3 _ g1 g2
      rw [b15_27, if_pos (by decide)]
      refine S_choose (C := C) (F := F) hN6 hC (fun a h ha hh => by rw [g1 116 _ (by omega)]; exact hc a h ha hh) (fun q v hq hv => g2 q v (by omega) hq hv) (fun jb k1 k2 k3 k4 => ?_)
      rw [kN, b15_71]
      exact hK jb (fun c k q1 q2 q3 => by rw [k1 c k q1 q2]; exact g1 c k q3) k2 k3 k4
    | succ a ih =>
      intro ja a3 ha g1 g2
      obtain ⟨n, hn⟩ : ∃ n, a + (n + 1) = N := ⟨N - a - 1, by omega⟩
      rw [np, b15_27, if_neg (nI_pos (by omega))]
      have row : ∀ (m v : Nat) ja, v + m = 64 → (∀ c k, ¬ (118 ≤ c ∧ c ≤ 124) → ja c k = sa c k) → (∀ q v, a + 1 ≤ q → q ≤ N → v < 64 → ja (118 + q) v = nI (zWv (zMo N C F (N - q) v))) → (∀ i, i < v → ja (118 + a) i = nI (zWv (zMo N C F (n + 1) i))) → zWP (d + 9) 15 33 [some (.ref 115), some (.int (nI N)), some (.int (nI a)), some (.int (nI v))] [] (ja, lb, zRA pl dr cp cw rp) K := by
        intro m
        induction m with
        | zero =>
          intro v ja hv h1 h2 h3
          rw [b15_33, if_pos (show (64 : Int32) ≤ nI v from nI_le1 (a := 64) (by omega) (by omega)), zm1]
          refine ih ja _ (by omega) h1 (fun q v2 hq hq2 hv2 => ?_)
          by_cases e : q = a
          · subst e
            rw [h3 v2 (by omega), show N - q = n + 1 by omega]
          · exact h2 q v2 (by omega) hq2 hv2
        | succ m ihm =>
          intro v ja hv h1 h2 h3
          have w2 : ∀ v, v < 64 → ja (118 + (a + 1)) v = nI (zWv (zMo N C F n v)) := fun v hv => by
            have := h2 (a + 1) v (by omega) (by omega) hv
            rw [show N - (a + 1) = n by omega] at this
            exact this
          rw [b15_33, if_neg (show ¬ (64 : Int32) ≤ nI v from nI_nle1 (a := 64) (by omega) (by omega)), zg (by omega) (by omega), S_bw (C := C) (F := F) hn hN6 (by omega) hC (fun h hh => by rw [h1 116 _ (by omega)]; exact hc a h (by omega) hh) w2, kS, b15_53, zcln (by omega), (kz a (by omega)).1, (kz a (by omega)).2, zdrop ⟨rfl, zvi (by omega) (by omega)⟩, zcln (by omega), ns]
          refine ihm (v + 1) _ (by omega) (fun c k q => by rw [zu_o (by omega)]; exact h1 c k q) (fun q v2 hq hq2 hv2 => by rw [zu_o (by omega)]; exact h2 q v2 hq hq2 hv2) (fun i hi => ?_)
          rw [zu_at]
          by_cases e : i = v
          · rw [if_pos ⟨rfl, e⟩, e]
          · rw [if_neg (fun z => e z.2)]; exact h3 i (by omega)
      exact row 64 0 ja (by omega) g1 g2 (fun i hi => by omega)
  have zeros : ∀ (m v : Nat) ja, v + m = 64 → (∀ c k, ¬ (118 ≤ c ∧ c ≤ 124) → ja c k = sa c k) → (∀ i, i < v → ja (118 + N) i = 0) → zWP (d + 9) 15 2 [some (.ref 115), some (.int (nI N)), some (.int (nI v)), none] [] (ja, lb, zRA pl dr cp cw rp) K := by
    intro m
    induction m with
    | zero =>
      intro v ja hv h1 h2
      rw [b15_2, if_pos (show (64 : Int32) ≤ nI v from nI_le1 (a := 64) (by omega) (by omega))]
      refine rows N ja _ (Nat.le_refl _) h1 (fun q v2 hq hq2 hv2 => ?_)
      rw [show q = N by omega, h2 v2 (by omega), Nat.sub_self]
      rfl
    | succ m ih =>
      intro v ja hv h1 h2
      rw [b15_2, if_neg (show ¬ (64 : Int32) ≤ nI v from nI_nle1 (a := 64) (by omega) (by omega)), zg (by omega) (by omega), zg (by omega) (by omega), zcln (by omega), zcln (by omega), ns]
      refine ih (v + 1) _ (by omega) (fun c k q => by rw [zu_o (by omega)]; exact h1 c k q) (fun i hi => ?_)
      rw [zu_at]
      by_cases e : i = v
      · rw [if_pos ⟨rfl, e⟩]
      · rw [if_neg (fun z => e z.2)]; exact h2 i (by omega)
  rw [e15, b15_0]
  exact zeros 64 0 sa (by omega) (fun _ _ _ => rfl) (fun i hi => by omega)
theorem zds_n {f g : Nat → Int32} {a b : Nat} (hf : ∀ i, i < 3 → ∃ x, x ≤ 99000 ∧ f (a + i) = nI x) (hg : ∀ i, i < 3 → ∃ x, x < 100 ∧ g (b + i) = nI x) : ∃ c, c ≤ 297000 ∧ zds f g a b = nI c := by
  obtain ⟨x0, h0, e0⟩ := hf 0 (by omega)
  obtain ⟨x1, h1, e1⟩ := hf 1 (by omega)
  obtain ⟨x2, h2, e2⟩ := hf 2 (by omega)
  obtain ⟨y0, g0, k0⟩ := hg 0 (by omega)
  obtain ⟨y1, g1, k1⟩ := hg 1 (by omega)
  obtain ⟨y2, g2, k2⟩ := hg 2 (by omega)
  have d0 : zdst x0 y0 ≤ 99000 := by unfold zdst; split <;> omega
  have d1 : zdst x1 y1 ≤ 99000 := by unfold zdst; split <;> omega
  have d2 : zdst x2 y2 ≤ 99000 := by unfold zdst; split <;> omega
  refine ⟨zdst x0 y0 + zdst x1 y1 + zdst x2 y2, by omega, ?_⟩
  unfold zds
  rw [show f a = nI x0 from e0, show g b = nI y0 from k0, e1, e2, k1, k2, (zab_d h0 g0).1, (zab_d h1 g1).1, (zab_d h2 g2).1, show (0 : Int32) = nI 0 from rfl, nI_add, nI_add, nI_add, Nat.zero_add]
end ZP
theorem T_match {d pl dr : Nat} {cp cw rp : Option Nat} {ia : Nat → Nat → Int32} {la : Nat → Nat → Int64} {Kc : Option Value → zHP → Prop} {Km : Option Value → Option Value → zHP → Prop} {x1 : Int32} (hI : zInv pl dr ia la) (hc : ∀ v hp, zWM (d + 400) 208 [.ref 127, .int x1] hp (Km v) → Kc v hp) (hm : zEndK ia Km) : zWM (d + 400) 99 [.ref 0, .int x1] (ia, la, zRA pl dr cp cw rp) Kc := by
  have fin := zfin hI hm
  obtain ⟨i1, i2, i3, i4, i5, i6, i7, p, N, L, T, D, W, r, hC, hM, hDe, hNo⟩ := hI
  have hN6 : N ≤ 6 := hC.2.1.2.1
  have hT12 : T ≤ 12 := hC.2.1.2.2.2.2.2.1
  have hf := zC_f hC
  have hR2 : zPR p (zu ia 127 0 0) N L T := zPR_i (fun c h1 h2 => zu_o (by omega)) hC.2.2.1
  have fin2 : ∀ v v2 : Option Value, v2 = v → Km v v2 (zu ia 127 0 0, la, zRA pl dr cp cw rp) := fun v v2 e => fin v v2 _ _ _ _ _ (zFr_0 zFr_r) e
  have htr := hC.2.1.2.2.2.2.2.2.2.2.2.2.2.2.1
  rw [e99, b99_0]
  by_cases c1 : x1 < 0
  · rw [if_pos c1]
    refine hc _ _ ?_
    rw [e208, b208_0, if_pos c1]
    exact fin2 _ _ rfl
  rw [if_neg c1]
  by_cases c2 : x1 ≤ 7
  case neg =>
    rw [if_neg c2]
    refine hc _ _ ?_
    rw [e208, b208_0, if_neg c1, if_neg c2]
    exact fin2 _ _ rfl
  rw [if_pos c2]
  have hds : ∀ a h, a < N → h < N → ∃ c, c ≤ 297000 ∧ zds (W 2) (p 2) (3 * h) (3 * a) = nI c := fun a h ha hh => zds_n (fun i hi => hf.1.2.2.2 _ (by omega)) (fun i hi => htr _ (by omega))
  obtain ⟨C, hCdef⟩ : ∃ C : Nat → Nat → Nat, C = fun a h => if a < N ∧ h < N then zct (zds (W 2) (p 2) (3 * h) (3 * a)) else 0 := ⟨_, rfl⟩
  have hCc : ∀ a h, a < N → h < N → zds (W 2) (p 2) (3 * h) (3 * a) = nI (C a h) := by
    intro a h ha hh
    obtain ⟨c, hc, e⟩ := hds a h ha hh
    rw [hCdef]
    dsimp only
    rw [if_pos ⟨ha, hh⟩, e]
    unfold zct
    rw [nI_clamp (by omega)]
  have hCb : ∀ a h, C a h ≤ 297000 := by
    intro a h
    rw [hCdef]
    dsimp only
    split
    · next q =>
      obtain ⟨c, hc, e⟩ := hds a h q.1 q.2
      rw [e]
      unfold zct
      rw [nI_clamp (by omega)]
      exact hc
    · omega
  obtain ⟨F, hFdef⟩ : ∃ F : Nat → Nat → Bool, F = fun a h => decide (¬ h = a ∧ W 3 h < 0) := ⟨_, rfl⟩
  have hF : ∀ a h, a < N → h < N → F a h = decide (¬ h = a ∧ W 3 h < 0) := fun a h _ _ => by rw [hFdef]
  -- the costs
  have men : ∀ (m a : Nat) (sa : Nat → Nat → Int32) a3 a4, a + m = N → zFr ia la sa la → (∀ q h, q < a → h < N → sa 116 (6 * q + h) = if F q h = true then nI (C q h) else -1) → (∀ sa a2 a3 a4, zFr ia la sa la → (∀ q h, q < N → h < N → sa 116 (6 * q + h) = if F q h = true then nI (C q h) else -1) → zWM (d + 399) 15 [.ref 115, .int (nI N)] (sa, la, zRA pl dr cp cw rp) (zK (d + 400) 99 118 [some (.ref 0), some (.int x1), some (.int a2), a3, a4] [] Kc)) → zWP (d + 400) 99 14 [some (.ref 0), some (.int x1), some (.int (nI a)), a3, a4] [] (sa, la, zRA pl dr cp cw rp) Kc := by
    intro m
    induction m with
    | zero =>
      intro a sa a3 a4 ha h1 h2 h3
      have hCs := zCore_fr i1 h1 hC
      rw [b99_14 i1, zC_N hCs, if_pos (nI_le1 (by omega) (by omega))]
      exact h3 sa _ _ _ h1 (fun q h hq hh => h2 q h (by omega) hh)
    | succ m ih =>
      intro a sa a3 a4 ha h1 h2 h3
      have hCs := zCore_fr i1 h1 hC
      rw [b99_14 i1, zC_N hCs, if_neg (nI_nle1 (by omega) (by omega))]
      have hands : ∀ (k h : Nat) (sa : Nat → Nat → Int32) a4, h + k = N → zFr ia la sa la → (∀ q j, q < a → j < N → sa 116 (6 * q + j) = if F q j = true then nI (C q j) else -1) → (∀ j, j < h → sa 116 (6 * a + j) = if F a j = true then nI (C a j) else -1) → zWP (d + 400) 99 27 [some (.ref 0), some (.int x1), some (.int (nI a)), some (.int (nI h)), a4] [] (sa, la, zRA pl dr cp cw rp) Kc := by
        intro k
        induction k with
        | zero =>
          intro h sa a4 hh g1 g2 g3
          have hCs := zCore_fr i1 g1 hC
          rw [b99_27 i1, zC_N hCs, if_pos (nI_le1 (by omega) (by omega)), ns]
          refine ih (a + 1) sa _ _ (by omega) g1 (fun q j hq hj => ?_) h3
          by_cases e : q = a
          · subst e; exact g3 j (by omega)
          · exact g2 q j (by omega) hj
        | succ k ihk =>
          intro h sa a4 hh g1 g2 g3
          have hCs := zCore_fr i1 g1 hC
          have put : ∀ (v : Int32) a4, v = (if F a h = true then nI (C a h) else -1) → zWP (d + 400) 99 27 [some (.ref 0), some (.int x1), some (.int (nI a)), some (.int (nI (h + 1))), a4] [] (zu sa 116 (6 * a + h) v, la, zRA pl dr cp cw rp) Kc := by
            intro v a4 hv
            refine ihk (h + 1) _ _ (by omega) (zFr_u rfl g1) (fun q j hq hj => ?_) (fun j hj => ?_)
            · rw [zu_at, if_neg (by omega)]; exact g2 q j hq hj
            · rw [zu_at]
              by_cases e : j = h
              · rw [if_pos ⟨rfl, by omega⟩, e]; exact hv
              · rw [if_neg (by omega)]; exact g3 j (by omega)
          have none' : F a h = false → zWP (d + 400) 99 58 [some (.ref 0), some (.int x1), some (.int (nI a)), some (.int (nI h)), a4] [] (sa, la, zRA pl dr cp cw rp) Kc := by
            intro q
            rw [b99_58, b99_59, if_pos rfl, e14, b14_0, n6m, zg (by omega) (by omega), zcln (by omega), kN, b99_92, ns]
            exact put (-1) _ (by rw [q]; rfl)
          rw [b99_27 i1, zC_N hCs, if_neg (nI_nle1 (by omega) (by omega))]
          by_cases e : a = h
          · rw [if_pos (by rw [e])]
            exact none' (by rw [hF a h (by omega) (by omega)]; exact decide_eq_false (fun z => z.1 e.symm))
          · rw [if_neg (fun z => e ((nI_eq (by omega) (by omega)).mp z)), S_isLet (Or.inl rfl) (by omega), show sa (72 + 3) = W 3 from zC_W hCs (g := 3) (by omega), kS, b99_51]
            by_cases e3 : W 3 h < 0
            · have yf : F a h = true := by rw [hF a h (by omega) (by omega)]; exact decide_eq_true ⟨fun z => e z.symm, e3⟩
              rw [if_pos e3, if_neg (fun z => z rfl), b99_59, if_neg (by decide), S_dN i1 hCs (by omega) (by omega), kS, b99_85, hCc a h (by omega) (by omega), e14, b14_0, n6m, zg (by omega) (by omega), zcln (by omega), kN, b99_92, ns]
              exact put _ _ (by rw [yf]; rfl)
            · rw [if_neg e3, if_pos (by decide)]
              exact none' (by rw [hF a h (by omega) (by omega)]; exact decide_eq_false (fun z => e3 z.2))
      exact hands N 0 sa a4 (by omega) h1 h2 (fun j hj => by omega)
  refine men N 0 ia none none (by omega) zFr_r (fun q h hq => by omega) (fun sa a2 a3 a4 h1 h2 => ?_)
  refine S_solve (C := C) (F := F) hN6 hCb h2 (fun ja j1 j2 j3 j4 => ?_)
  have frj : zFr ia la ja la := ⟨fun c k z => by
    by_cases e1 : c = 125
    · subst e1; exact absurd rfl z
    by_cases e2 : c = 115 ∧ (k = 3 ∨ k = 4)
    · rw [e2.1] at z; exact absurd rfl z
    by_cases e3 : 118 ≤ c ∧ c ≤ 124
    · exfalso
      refine z ?_
      show zgr c k = 0
      unfold zgr
      rw [if_neg (by omega), if_neg (by omega), if_neg (by omega), if_neg (by omega), if_neg (by omega), if_neg (by omega), if_neg (by omega), if_neg (by omega), if_neg (by omega), if_neg (by omega), if_pos (by omega)]
    rw [j1 c k e1 e2 e3]; exact h1.1 c k z, rfl, rfl⟩
  have hCj := zCore_fr i1 frj hC
  -- the reference
  have model : ∀ K : Option Value → zHP → Prop, (∀ sa', zFr ia la sa' la → sa' 127 54 = nI (zMo N C F N 0).1 → sa' 127 55 = nI (zMo N C F N 0).2.1 → (∀ q, q < N → sa' 160 q = (zMo N C F N 0).2.2 q) → zWP (d + 400) 208 35 [some (.ref 127), some (.int x1)] [] (sa', la, zRA pl dr cp cw rp) K) → zWM (d + 400) 208 [.ref 127, .int x1] (ja, la, zRA pl dr cp cw rp) K := by
    intro K hK
    rw [e208, b208_0, if_neg c1, if_pos c2]
    refine S_mat (C := C) (F := F) i1 hC hCb hCc hF N (d + 389) 0 0 0 0 _ none _ (by omega) (by omega) (by omega) (by omega) (by omega) (zFr_u rfl (zFr_u rfl (zFr_0 frj))) ⟨by rw [zu_k (by decide), zu_eq], zu_eq _ _ _ _⟩ (fun sa' g1 g2 _ => ?_)
    rw [kN]
    obtain ⟨_, _, r1, r2, r3⟩ := g2
    refine hK sa' g1 (by rw [r1]; show nI (0 + _) = _; rw [Nat.zero_add]) (by rw [r2]; show nI (0 + _) = _; rw [Nat.zero_add]) (fun q hq => by rw [r3 q hq]; rfl)
  rw [kN, b99_118]
  by_cases q6 : x1 = 6
  · rw [if_neg (fun z => z q6), j2]
    refine hc _ _ (model _ (fun sa' g1 g2 g3 g4 => ?_))
    rw [b208_35, if_neg (fun z => z q6), g2]
    exact fin _ _ _ _ _ _ _ g1 rfl
  rw [if_pos q6]
  by_cases q7 : x1 = 7
  · rw [if_neg (fun z => z q7), j3]
    refine hc _ _ (model _ (fun sa' g1 g2 g3 g4 => ?_))
    rw [b208_35, if_pos q6, if_neg (fun z => z q7), g3]
    exact fin _ _ _ _ _ _ _ g1 rfl
  rw [if_pos q7, S_isP i1 hCj, kS, b99_151]
  rcases zpers x1 (N := N) (by omega) with h1 | ⟨h, hh, rfl, hn1⟩
  · rw [if_pos h1, if_pos rfl]
    refine hc _ _ (model _ (fun sa' g1 g2 g3 g4 => ?_))
    have hCs := zCore_fr i1 g1 hC
    rw [b208_35, if_pos q6, if_pos q7, hCs.2.2.1.1, if_pos (h1.elim (fun z => absurd z c1) id)]
    exact fin _ _ _ _ _ _ _ g1 rfl
  · rw [if_neg hn1, if_neg (by decide), zg (by omega) (by omega), zcln (by omega), j4 h hh]
    refine hc _ _ (model _ (fun sa' g1 g2 g3 g4 => ?_))
    have hCs := zCore_fr i1 g1 hC
    rw [b208_35, if_pos q6, if_pos q7, hCs.2.2.1.1, if_neg (fun z => hn1 (Or.inr z)), zg (by omega) (by omega), zcln (by omega), g4 h hh]
    exact fin _ _ _ _ _ _ _ g1 rfl
