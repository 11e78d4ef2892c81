/-! putOff -/
def zTri : Nat → Nat
  | 0 => 0
  | n + 1 => zTri n + n
/-- letters told for the hand h and the day t among the first l -/
def zct2 (p : Nat → Nat → Int32) (h t l : Nat) : Nat := zcnt (fun k => decide (p (16 + k) 1 = nI h ∧ p (16 + k) 2 = nI t)) l
/-- those that wait ahead of the i-th day from D on -/
def zwq (p : Nat → Nat → Int32) (T D h : Nat) : Nat → Nat
  | 0 => 0
  | i + 1 => zwq p T D h i + zct2 p h (D + i) T - 1
def zsq (p : Nat → Nat → Int32) (T D h : Nat) : Nat → Nat
  | 0 => 0
  | i + 1 => zsq p T D h i + zwq p T D h (i + 1)
def zsm (f : Nat → Nat) : Nat → Nat
  | 0 => 0
  | n + 1 => zsm f n + f n
theorem zsm_e {f g : Nat → Nat} : ∀ n : Nat, (∀ h, h < n → f h = g h) → zsm f n = zsm g n := by
  intro n
  induction n with
  | zero => intro _; rfl
  | succ n ih =>
    intro h
    show zsm f n + f n = zsm g n + g n
    rw [ih (fun i hi => h i (by omega)), h n (by omega)]
theorem zsm_up {f g : Nat → Nat} {h0 x : Nat} (h1 : g h0 = f h0 + x) : ∀ n : Nat, h0 < n → (∀ h, h < n → h ≠ h0 → g h = f h) → zsm g n = zsm f n + x := by
  intro n
  induction n with
  | zero => intro q; omega
  | succ n ih =>
    intro q hg
    show zsm g n + g n = zsm f n + f n + x
    by_cases e : h0 = n
    · subst e
      rw [h1, zsm_e h0 (fun h hh => hg h (by omega) (by omega))]
      omega
    · rw [ih (by omega) (fun h hh hn => hg h (by omega) hn), hg n (by omega) (by omega)]
      omega
theorem zsm_le {f : Nat → Nat} {b : Nat} (h : ∀ i, f i ≤ b) : ∀ n : Nat, zsm f n ≤ n * b := by
  intro n
  induction n with
  | zero => exact Nat.zero_le _
  | succ n ih =>
    show zsm f n + f n ≤ (n + 1) * b
    have := h n
    rw [Nat.add_mul, Nat.one_mul]
    omega
theorem zcnt_add {P Q S : Nat → Bool} : ∀ n : Nat, (∀ k, k < n → S k = (P k || Q k) ∧ ¬ (P k = true ∧ Q k = true)) → zcnt S n = zcnt P n + zcnt Q n := by
  intro n
  induction n with
  | zero => intro _; rfl
  | succ n ih =>
    intro h
    have hn := h n (by omega)
    show (if S n = true then zcnt S n + 1 else zcnt S n) = (if P n = true then zcnt P n + 1 else zcnt P n) + (if Q n = true then zcnt Q n + 1 else zcnt Q n)
    rw [ih (fun k hk => h k (by omega)), hn.1]
    cases hp : P n <;> cases hq : Q n
    · simp
    · simp; omega
    · simp; omega
    · exact absurd ⟨hp, hq⟩ hn.2
section ZP
variable {d pl dr N L T D s w : Nat} {cp cw rp : Option Nat} {p ia W V : Nat → Nat → Int32} {o : Nat → Int32} {r q bn x y : Int32} {la : Nat → Nat → Int64} {K : Option Value → zHP → Prop}
theorem zsq_t {h i : Nat} : zsq p T D h (i + 1) + zTri (zwq p T D h (i + 1)) = zsq p T D h i + zTri (zwq p T D h i + zct2 p h (D + i) T) := by
  show zsq p T D h i + (zwq p T D h i + zct2 p h (D + i) T - 1) + zTri (zwq p T D h i + zct2 p h (D + i) T - 1) = _
  generalize zwq p T D h i + zct2 p h (D + i) T = m
  cases m with
  | zero => rfl
  | succ m =>
    show _ = zsq p T D h i + (zTri m + m)
    rw [Nat.succ_sub_one]
    omega
theorem zwq_le {h : Nat} (hD : D < 20000) : ∀ i : Nat, i ≤ 200 → zwq p T D h i ≤ zcnt (fun k => decide (p (16 + k) 1 = nI h) && zany (fun j => decide (p (16 + k) 2 = nI (D + j))) i) T := by
  intro i
  induction i with
  | zero => intro _; exact Nat.zero_le _
  | succ i ih =>
    intro hi
    show zwq p T D h i + zct2 p h (D + i) T - 1 ≤ _
    have e : zcnt (fun k => decide (p (16 + k) 1 = nI h) && zany (fun j => decide (p (16 + k) 2 = nI (D + j))) (i + 1)) T = zcnt (fun k => decide (p (16 + k) 1 = nI h) && zany (fun j => decide (p (16 + k) 2 = nI (D + j))) i) T + zct2 p h (D + i) T := by
      unfold zct2
      refine zcnt_add T (fun k hk => ⟨?_, ?_⟩)
      · show (decide (p (16 + k) 1 = nI h) && (zany (fun j => decide (p (16 + k) 2 = nI (D + j))) i || decide (p (16 + k) 2 = nI (D + i)))) = _
        by_cases a : p (16 + k) 1 = nI h
        · by_cases b : p (16 + k) 2 = nI (D + i)
          · simp [a, b]
          · simp [a, b]
        · simp [a]
      · rintro ⟨q1, q2⟩
        rw [Bool.and_eq_true] at q1
        obtain ⟨j, hj, ej⟩ := (zany_iff _ _).mp q1.2
        have ej := of_decide_eq_true ej
        have e2 := (of_decide_eq_true q2).2
        rw [e2] at ej
        have := (nI_eq (by omega) (by omega)).mp ej
        omega
    rw [e]
    have := ih (by omega)
    omega
theorem zwq_12 {h i : Nat} (hT : T ≤ 12) (hD : D < 20000) (hi : i ≤ 200) : zwq p T D h i ≤ 12 := by
  have h1 := zwq_le (p := p) (T := T) (h := h) hD i hi
  have h2 := zcnt_le (fun k => decide (p (16 + k) 1 = nI h) && zany (fun j => decide (p (16 + k) 2 = nI (D + j))) i) T
  omega
theorem zsq_b {h : Nat} (hT : T ≤ 12) (hD : D < 20000) : ∀ i : Nat, i ≤ 200 → zsq p T D h i ≤ i * 12 := by
  intro i
  induction i with
  | zero => intro _; exact Nat.le_refl _
  | succ i ih =>
    intro hi
    show zsq p T D h i + zwq p T D h (i + 1) ≤ (i + 1) * 12
    have := ih (by omega)
    have := zwq_12 (p := p) (h := h) hT hD hi
    omega
theorem zct2_0 (hk : zPk p N L T) {h t : Nat} (ht : 100 ≤ t) (ht2 : t < 100000) : zct2 p h t T = 0 := by
  unfold zct2
  refine zcnt_0 _ T (fun i hi => ?_)
  obtain ⟨b, hh, u, _, _, hu, _, _, e2⟩ := hk.2.2.2.2.2.2.2.1 i hi
  refine decide_eq_false (fun q => ?_)
  rw [e2] at q
  have := (nI_eq (by omega) (by omega)).mp q.2
  omega
theorem zsq_end (hk : zPk p N L T) {h : Nat} (hD : D < 20000) : zsq p T D h (112 - D) = zsq p T D h (100 - D) + zTri (zwq p T D h (100 - D)) := by
  have hT : T ≤ 12 := hk.2.2.2.2.2.1
  have st : ∀ q i, 100 ≤ D + i → D + i + q < 100000 → zsq p T D h (i + q) + zTri (zwq p T D h (i + q)) = zsq p T D h i + zTri (zwq p T D h i) ∧ zwq p T D h (i + q) = zwq p T D h i - q := by
    intro q
    induction q with
    | zero => intro i _ _; exact ⟨rfl, rfl⟩
    | succ q ih =>
      intro i h1 h2
      obtain ⟨a1, a2⟩ := ih i h1 (by omega)
      have z := zct2_0 (h := h) (t := D + (i + q)) hk (by omega) (by omega)
      refine ⟨?_, ?_⟩
      · show zsq p T D h (i + q + 1) + zTri (zwq p T D h (i + q + 1)) = _
        rw [zsq_t, z, Nat.add_zero, a1]
      · show zwq p T D h (i + q) + zct2 p h (D + (i + q)) T - 1 = _
        rw [z, a2]
        omega
  by_cases c : D ≤ 100
  · obtain ⟨a1, a2⟩ := st 12 (100 - D) (by omega) (by omega)
    have w12 := zwq_12 (p := p) (h := h) (i := 100 - D) hT hD (by omega)
    rw [show 112 - D = 100 - D + 12 by omega, ← a1, a2, show zwq p T D h (100 - D) - 12 = 0 by omega]
    rfl
  · obtain ⟨a1, _⟩ := st (112 - D) 0 (by omega) (by omega)
    rw [Nat.zero_add] at a1
    rw [show 100 - D = 0 by omega]
    have e0 : zsq p T D h 0 = 0 := rfl
    have e1 : zTri (zwq p T D h 0) = 0 := rfl
    rw [e0, e1] at a1 ⊢
    omega
theorem S_told {h t : Nat} (hpl : zIsP pl) (hC : zCore pl p N L T D W r ia la) : zWM d 105 [.ref 0, .int (nI h), .int (nI t)] (ia, la, zRA pl dr cp cw rp) K = K (some (.int (nI (zct2 p h t T)))) (ia, la, zRA pl dr cp cw rp) := by
  have hT : T ≤ 12 := hC.2.1.2.2.2.2.2.1
  rw [e105, b105_0]
  have key : ∀ m i a5, i + m = T → zWP d 105 5 [some (.ref 0), some (.int (nI h)), some (.int (nI t)), some (.int (nI (zct2 p h t i))), some (.int (nI i)), a5] [] (ia, la, zRA pl dr cp cw rp) K = K (some (.int (nI (zct2 p h t T)))) (ia, la, zRA pl dr cp cw rp) := by
    intro m
    induction m with
    | zero => intro i a5 hi; rw [b105_5 hpl, zC_T hC, if_pos (nI_le1 (by omega) (by omega)), show i = T by omega]
    | succ m ih =>
      intro i a5 hi
      have ih := fun a5 => ih (i + 1) a5 (by omega)
      rw [show zct2 p h t (i + 1) = (if decide (p (16 + i) 1 = nI h ∧ p (16 + i) 2 = nI t) = true then zct2 p h t i + 1 else zct2 p h t i) from rfl] at ih
      rw [b105_5 hpl, zC_T hC, if_neg (nI_nle1 (by omega) (by omega)), zg (by omega) (by omega), zcln (by omega), Nat.add_assoc, hC.1 (16 + i) (by omega), ns, ns]
      by_cases c1 : p (16 + i) 1 = nI h
      · rw [if_neg (fun z => z c1)]
        by_cases c2 : p (16 + i) 2 = nI t
        · rw [if_neg (fun z => z c2)]
          rw [if_pos (decide_eq_true ⟨c1, c2⟩)] at ih
          exact ih _
        · rw [if_pos c2]
          rw [if_neg (znd (fun z => c2 z.2))] at ih
          exact ih _
      · rw [if_pos c1]
        rw [if_neg (znd (fun z => c1 z.1))] at ih
        exact ih _
  exact key T 0 none (by omega)
theorem S_poff {h : Nat} (hpl : zIsP pl) (hD : D < 20000) (hC : zCore pl p N L T D W r ia la) : zWM (d + 6) 104 [.ref 0, .int (nI h)] (ia, la, zRA pl dr cp cw rp) K = K (some (.int (nI (zsq p T D h (112 - D))))) (ia, la, zRA pl dr cp cw rp) := by
  have hT : T ≤ 12 := hC.2.1.2.2.2.2.2.1
  rw [e104, b104_0, show ia 72 = W 0 from zC_W hC (g := 0) (by omega), (zC_f hC).1.1]
  have lp : ∀ n i, i + n = 112 - D → zWP (d + 6) 104 13 [some (.ref 0), some (.int (nI h)), some (.int (nI (zsq p T D h i))), some (.int (nI (zwq p T D h i))), some (.int (nI (D + i)))] [] (ia, la, zRA pl dr cp cw rp) K = K (some (.int (nI (zsq p T D h (112 - D))))) (ia, la, zRA pl dr cp cw rp) := by
    intro n
    induction n with
    | zero =>
      intro i hi
      rw [b104_13, if_pos (show (111 : Int32) < nI (D + i) from nI_lt (a := 111) (by omega) (by omega)), show i = 112 - D by omega]
    | succ n ih =>
      intro i hi
      have hc := zcnt_le (fun k => decide (p (16 + k) 1 = nI h ∧ p (16 + k) 2 = nI (D + i))) T
      have hw := zwq_12 (p := p) (h := h) (i := i) hT hD (by omega)
      have hw2 := zwq_12 (p := p) (h := h) (i := i + 1) hT hD (by omega)
      rw [b104_13, if_neg (show ¬ (111 : Int32) < nI (D + i) from nI_nlt (a := 111) (by omega) (by omega)), S_told hpl hC, kS, b104_28, nI_add, ns]
      have e : (if 0 < nI (zwq p T D h i + zct2 p h (D + i) T) - 1 then nI (zwq p T D h i + zct2 p h (D + i) T) - 1 else 0) = nI (zwq p T D h (i + 1)) := by
        show _ = nI (zwq p T D h i + zct2 p h (D + i) T - 1)
        have hc : zct2 p h (D + i) T ≤ T := hc
        have hb : zwq p T D h i + zct2 p h (D + i) T ≤ 24 := by omega
        generalize zwq p T D h i + zct2 p h (D + i) T = m at *
        cases m with
        | zero => rw [if_neg (by decide)]; rfl
        | succ m =>
          rw [np]
          by_cases e : m = 0
          · subst e; rw [if_neg (by decide)]; rfl
          · rw [if_pos (qgt_0 (by omega) (by omega))]; rfl
      rw [e, nI_add]
      exact ih (i + 1) (by omega)
  exact lp (112 - D) 0 (by omega)
theorem S_taken {h a b : Nat} (hT : T ≤ 12) (hb : b < 100000) (hR : zPR p ia N L T) : zWM d 211 [.ref 127, .int (nI h), .int (nI a), .int (nI b)] (ia, la, zRA pl dr cp cw rp) K = K (some (.int (if zany (fun k => decide (k ≠ b ∧ p (16 + k) 1 = nI h ∧ ia 161 k = nI a)) T = true then 1 else 0))) (ia, la, zRA pl dr cp cw rp) := by
  rw [e211, b211_0]
  have key : ∀ m i, i + m = T → ¬ zany (fun k => decide (k ≠ b ∧ p (16 + k) 1 = nI h ∧ ia 161 k = nI a)) i = true → zWP d 211 3 [some (.ref 127), some (.int (nI h)), some (.int (nI a)), some (.int (nI b)), some (.int (nI i))] [] (ia, la, zRA pl dr cp cw rp) K = K (some (.int (if zany (fun k => decide (k ≠ b ∧ p (16 + k) 1 = nI h ∧ ia 161 k = nI a)) T = true then 1 else 0))) (ia, la, zRA pl dr cp cw rp) := by
    intro m
    induction m with
    | zero =>
      intro i hi hz
      rw [b211_3, hR.2.2.1, if_pos (nI_le1 (by omega) (by omega))]
      rw [show i = T by omega] at hz
      rw [if_neg hz]
    | succ m ih =>
      intro i hi hz
      have step : ¬ (i ≠ b ∧ p (16 + i) 1 = nI h ∧ ia 161 i = nI a) → ¬ zany (fun k => decide (k ≠ b ∧ p (16 + k) 1 = nI h ∧ ia 161 k = nI a)) (i + 1) = true := by
        intro q
        unfold zany
        rw [Bool.or_eq_true]
        rintro (z | z)
        · exact hz z
        · exact q (of_decide_eq_true z)
      rw [b211_3, hR.2.2.1, if_neg (nI_nle1 (by omega) (by omega)), zg (by omega) (by omega), zg (by omega) (by omega), zcln (by omega), (hR.2.2.2.2.2.2.2.2.2.2.2.1 i (by omega)).2.1, ns]
      by_cases c1 : i = b
      · rw [if_pos (by rw [c1])]
        exact ih _ (by omega) (step (fun z => z.1 c1))
      · rw [if_neg (fun z => c1 ((nI_eq (by omega) (by omega)).mp z))]
        by_cases c2 : p (16 + i) 1 = nI h
        · rw [if_neg (fun z => z c2)]
          by_cases c3 : ia 161 i = nI a
          · rw [if_neg (fun z => z c3), if_pos (zany_mono (i := i) (by omega) (decide_eq_true ⟨c1, c2, c3⟩))]
          · rw [if_pos c3]
            exact ih _ (by omega) (step (fun z => c3 z.2.2))
        · rw [if_pos c2]
          exact ih _ (by omega) (step (fun z => c2 z.2.1))
  exact key T 0 (by omega) (by unfold zany; decide)
end ZP
theorem T_putOff {d pl dr : Nat} {cp cw rp : Option Nat} {ia : Nat → Nat → Int32} {la : Nat → Nat → Int64} {Kc : Option Value → zHP → Prop} {Km : Option Value → Option Value → zHP → Prop} (hI : zInv pl dr ia la) (hc : ∀ v hp, zWM (d + 400) 212 [.ref 127] hp (Km v) → Kc v hp) (hm : zEndK ia Km) : zWM (d + 400) 103 [.ref 0] (ia, la, zRA pl dr cp cw rp) Kc := by
  have fin := zfin hI hm
  obtain ⟨i1, i2, i3, i4, i5, i6, i7, p, N, L, T, D, W, r, hC, hM, hDe, hNo⟩ := hI
  have hN6 : N ≤ 6 := hC.2.1.2.1
  have hT12 : T ≤ 12 := hC.2.1.2.2.2.2.2.1
  have hR := hC.2.2.1
  have hf := zC_f hC
  have hD98 : D ≤ 9800 := hC.2.2.2.1
  have lets := hC.2.1.2.2.2.2.2.2.2.1
  have bq : ∀ h i, i ≤ 200 → zsq p T D h i ≤ 2400 := fun h i hi => by have := zsq_b (p := p) (h := h) hT12 (show D < 20000 by omega) i hi; omega
  rw [e103, b103_0]
  refine Eq.mpr (zlpE (fun i => zWP (d + 400) 103 4 [some (.ref 0), some (.int (nI (zsm (fun h => zsq p T D h (112 - D)) i))), some (.int (nI i))] [] (ia, la, zRA pl dr cp cw rp) Kc) N ?_) ?_
  · intro i hi
    show zWP (d + 400) 103 4 [some (.ref 0), some (.int (nI (zsm (fun h => zsq p T D h (112 - D)) i))), some (.int (nI i))] [] (ia, la, zRA pl dr cp cw rp) Kc = zWP (d + 400) 103 4 [some (.ref 0), some (.int (nI (zsm (fun h => zsq p T D h (112 - D)) i + zsq p T D i (112 - D)))), some (.int (nI (i + 1)))] [] (ia, la, zRA pl dr cp cw rp) Kc
    rw [b103_4 i1, zC_N hC, if_neg (nI_nle1 hi (by omega)), S_poff i1 (by omega) hC, kS, b103_21, nI_add, ns]
  show zWP (d + 400) 103 4 [some (.ref 0), some (.int (nI (zsm (fun h => zsq p T D h (112 - D)) N))), some (.int (nI N))] [] (ia, la, zRA pl dr cp cw rp) Kc
  rw [b103_4 i1, zC_N hC, if_pos (nI_le1 (by omega) (by omega))]
  refine hc _ _ ?_
  rw [e212, b212_0]
  -- all days are untold
  have init : ∀ (n l : Nat) ja, l + n = T → zFr ia la ja la → (∀ k, k < l → ja 161 k = -1) → (∀ ja, zFr ia la ja la → (∀ k, k < T → ja 161 k = -1) → zWP (d + 400) 212 39 [some (.ref 127), some (.int 0), some (.int (nI D)), none, none] [] (ja, la, zRA pl dr cp cw rp) (Km (some (.int (nI (zsm (fun h => zsq p T D h (112 - D)) N)))))) → zWP (d + 400) 212 9 [some (.ref 127), some (.int 0), some (.int (nI l)), none, none] [] (ja, la, zRA pl dr cp cw rp) (Km (some (.int (nI (zsm (fun h => zsq p T D h (112 - D)) N))))) := by
    intro n
    induction n with
    | zero =>
      intro l ja hl hfr h1 h2
      have hCs := zCore_fr i1 hfr hC
      rw [b212_9, hCs.2.2.1.2.2.1, if_pos (nI_le1 (by omega) (by omega)), (zC_0 hCs).1, hf.1.1]
      exact h2 ja hfr (fun k hk => h1 k (by omega))
    | succ n ih =>
      intro l ja hl hfr h1 h2
      have hCs := zCore_fr i1 hfr hC
      rw [b212_9, hCs.2.2.1.2.2.1, if_neg (nI_nle1 (by omega) (by omega)), zg (by omega) (by omega), zcln (by omega), ns]
      refine ih (l + 1) _ (by omega) (zFr_u rfl hfr) (fun k hk => ?_) h2
      rw [zu_at]
      by_cases e : k = l
      · rw [if_pos ⟨rfl, e⟩]
      · rw [if_neg (fun z => e z.2)]; exact h1 k (by omega)
  refine init T 0 _ (by omega) (zFr_0 zFr_r) (fun k hk => by omega) (fun ja0 hfr0 hun0 => ?_)
  -- what is put off when the i-th day has l letters done
  have days : ∀ (n i : Nat) ja a3 a4, D + i + n = 100 ∨ (100 ≤ D ∧ i = 0 ∧ n = 0) → zFr ia la ja la → (∀ h, h < N → ∀ a, D + i ≤ a → a < 50000 → ((∃ k, k < T ∧ p (16 + k) 1 = nI h ∧ ja 161 k = nI a) ↔ a < D + i + zwq p T D h i)) → (∀ k t, k < T → p (16 + k) 2 = nI t → t < 100 → D + i ≤ t → ja 161 k = -1) → zWP (d + 400) 212 39 [some (.ref 127), some (.int (nI (zsm (fun h => zsq p T D h i + zTri (zwq p T D h i)) N))), some (.int (nI (D + i))), a3, a4] [] (ja, la, zRA pl dr cp cw rp) (Km (some (.int (nI (zsm (fun h => zsq p T D h (112 - D)) N))))) := by
    intro n
    induction n with
    | zero =>
      intro i ja a3 a4 hi hfr ho hu
      rw [b212_39, if_pos (show (99 : Int32) < nI (D + i) from nI_lt (a := 99) (by omega) (by omega))]
      refine fin _ _ _ _ _ _ _ hfr ?_
      congr 3
      refine zsm_e N (fun h hh => ?_)
      rw [zsq_end hC.2.1 (show D < 20000 by omega), show i = 100 - D by omega]
    | succ n ih =>
      intro i ja a3 a4 hi hfr ho hu
      have hi100 : D + i < 100 := by omega
      rw [b212_39, if_neg (show ¬ (99 : Int32) < nI (D + i) from nI_nlt (a := 99) (by omega) (by omega))]
      have letters : ∀ (m l : Nat) ja a4, l + m = T → zFr ia la ja la → (∀ h, h < N → ∀ a, D + i ≤ a → a < 50000 → ((∃ k, k < T ∧ p (16 + k) 1 = nI h ∧ ja 161 k = nI a) ↔ a < D + i + (zwq p T D h i + zct2 p h (D + i) l))) → (∀ k t, k < T → p (16 + k) 2 = nI t → t < 100 → (D + i < t ∨ (t = D + i ∧ l ≤ k)) → ja 161 k = -1) → zWP (d + 400) 212 47 [some (.ref 127), some (.int (nI (zsm (fun h => zsq p T D h i + zTri (zwq p T D h i + zct2 p h (D + i) l)) N))), some (.int (nI (D + i))), some (.int (nI l)), a4] [] (ja, la, zRA pl dr cp cw rp) (Km (some (.int (nI (zsm (fun h => zsq p T D h (112 - D)) N))))) := by
        intro m
        induction m with
        | zero =>
          intro l ja a4 hl hfr ho hu
          have hCs := zCore_fr i1 hfr hC
          have el : l = T := by omega
          subst el
          rw [b212_47, hCs.2.2.1.2.2.1, if_pos (nI_le1 (by omega) (by omega)), ns, zsm_e (g := fun h => zsq p l D h (i + 1) + zTri (zwq p l D h (i + 1))) N (fun h hh => zsq_t.symm)]
          refine ih (i + 1) ja _ _ (Or.inl (by omega)) hfr (fun h hh a ha ha2 => ?_) (fun k t hk et ht hd => hu k t hk et ht (by omega))
          rw [ho h hh a (by omega) ha2]
          show _ ↔ a < D + (i + 1) + (zwq p l D h i + zct2 p h (D + i) l - 1)
          omega
        | succ m ihm =>
          intro l ja a4 hl hfr ho hu
          have hCs := zCore_fr i1 hfr hC
          have hRs := hCs.2.2.1
          obtain ⟨b, h0, t, hb, hh0, ht, e0, e1, e2⟩ := lets l (by omega)
          obtain ⟨w0, w1, w2⟩ := hRs.2.2.2.2.2.2.2.2.2.2.2.1 l (by omega)
          have ctl : ∀ h, h < N → zct2 p h (D + i) (l + 1) = if (h0 = h ∧ t = D + i) then zct2 p h (D + i) l + 1 else zct2 p h (D + i) l := by
            intro h hhN
            show (if decide (p (16 + l) 1 = nI h ∧ p (16 + l) 2 = nI (D + i)) = true then zct2 p h (D + i) l + 1 else zct2 p h (D + i) l) = _
            by_cases q : p (16 + l) 1 = nI h ∧ p (16 + l) 2 = nI (D + i)
            · rw [if_pos (decide_eq_true q), if_pos]
              rw [e1, e2] at q
              exact ⟨(nI_eq (by omega) (by omega)).mp q.1, (nI_eq (by omega) (by omega)).mp q.2⟩
            · rw [if_neg (znd q), if_neg]
              rintro ⟨z1, z2⟩
              exact q ⟨by rw [e1, z1], by rw [e2, z2]⟩
          rw [b212_47, hRs.2.2.1, if_neg (nI_nle1 (by omega) (by omega)), zg (by omega) (by omega), zcln (by omega), w2, e2]
          by_cases ct : t = D + i
          · rw [if_pos (by rw [ct])]
            have hw := zwq_12 (p := p) (h := h0) (i := i) hT12 (show D < 20000 by omega) (by omega)
            have hcl := zcnt_le (fun k => decide (p (16 + k) 1 = nI h0 ∧ p (16 + k) 2 = nI (D + i))) l
            have hcl : zct2 p h0 (D + i) l ≤ l := hcl
            have unl : ja 161 l = -1 := hu l t (by omega) e2 ht (Or.inr ⟨ct, Nat.le_refl _⟩)
            have hoh := ho h0 hh0
            have upS : zsm (fun h => zsq p T D h i + zTri (zwq p T D h i + zct2 p h (D + i) (l + 1))) N = zsm (fun h => zsq p T D h i + zTri (zwq p T D h i + zct2 p h (D + i) l)) N + (zwq p T D h0 i + zct2 p h0 (D + i) l) := by
              refine zsm_up (h0 := h0) ?_ N hh0 (fun h hh hne => ?_)
              · show zsq p T D h0 i + zTri (zwq p T D h0 i + zct2 p h0 (D + i) (l + 1)) = zsq p T D h0 i + zTri (zwq p T D h0 i + zct2 p h0 (D + i) l) + (zwq p T D h0 i + zct2 p h0 (D + i) l)
                rw [ctl h0 hh0, if_pos ⟨rfl, ct⟩, ← Nat.add_assoc (zwq p T D h0 i)]
                show zsq p T D h0 i + (zTri (zwq p T D h0 i + zct2 p h0 (D + i) l) + (zwq p T D h0 i + zct2 p h0 (D + i) l)) = _
                omega
              · show zsq p T D h i + zTri (zwq p T D h i + zct2 p h (D + i) (l + 1)) = _
                rw [ctl h hh, if_neg (fun z => hne z.1.symm)]
            have nx := ihm (l + 1) (zu ja 161 l (nI (D + i + (zwq p T D h0 i + zct2 p h0 (D + i) l)))) (some (.int (nI (D + i + (zwq p T D h0 i + zct2 p h0 (D + i) l))))) (by omega) (zFr_u rfl hfr)
            rw [upS] at nx
            generalize zsm (fun h => zsq p T D h i + zTri (zwq p T D h i + zct2 p h (D + i) l)) N = S at nx ⊢
            generalize hM : zwq p T D h0 i + zct2 p h0 (D + i) l = M at nx hoh
            have hM24 : M ≤ 24 := by omega
            have walk : ∀ (q a : Nat), a + q = D + i + M → D + i ≤ a → zWP (d + 400) 212 73 [some (.ref 127), some (.int (nI S)), some (.int (nI (D + i))), some (.int (nI l)), some (.int (nI a))] [] (ja, la, zRA pl dr cp cw rp) (Km (some (.int (nI (zsm (fun h => zsq p T D h (112 - D)) N))))) = zWP (d + 400) 212 47 [some (.ref 127), some (.int (nI (S + M))), some (.int (nI (D + i))), some (.int (nI (l + 1))), some (.int (nI (D + i + M)))] [] (zu ja 161 l (nI (D + i + M)), la, zRA pl dr cp cw rp) (Km (some (.int (nI (zsm (fun h => zsq p T D h (112 - D)) N))))) := by
              intro q
              induction q with
              | zero =>
                intro a ha ha2
                have ea : a = D + i + M := by omega
                subst ea
                have nt : ¬ zany (fun k => decide (k ≠ l ∧ p (16 + k) 1 = nI h0 ∧ ja 161 k = nI (D + i + M))) T = true := by
                  intro z
                  obtain ⟨k, hk, ek⟩ := (zany_iff _ _).mp z
                  have ek := of_decide_eq_true ek
                  have := (hoh (D + i + M) (by omega) (by omega)).mp ⟨k, hk, ek.2⟩
                  omega
                rw [b212_73, zg (by omega) (by omega), zcln (by omega), w1, e1, S_taken hT12 (by omega) hRs, if_neg nt, kS, b212_86, if_pos rfl, zg (by omega) (by omega), zcln (by omega), pk_sub (by omega), nI_add, ns, show D + i + M - (D + i) = M by omega]
              | succ q ihq =>
                intro a ha ha2
                have ta : zany (fun k => decide (k ≠ l ∧ p (16 + k) 1 = nI h0 ∧ ja 161 k = nI a)) T = true := by
                  obtain ⟨k, hk, q1, q2⟩ := (hoh a ha2 (by omega)).mpr (by omega)
                  refine (zany_iff _ _).mpr ⟨k, hk, decide_eq_true ⟨?_, q1, q2⟩⟩
                  intro e
                  rw [e, unl] at q2
                  exact nI_pos (n := a) (by omega) (by rw [← q2]; decide)
                rw [b212_73, zg (by omega) (by omega), zcln (by omega), w1, e1, S_taken hT12 (by omega) hRs, if_pos ta, kS, b212_86, if_neg (by decide), ns]
                exact ihq (a + 1) (by omega) (by omega)
            refine Eq.mpr (walk M (D + i) (by omega) (by omega)) ?_
            refine nx (fun h hh a ha ha2 => ?_) (fun k t2 hk et ht2 hd => ?_)
            · rw [ctl h hh]
              by_cases eh : h0 = h
              · subst eh
                rw [if_pos ⟨rfl, ct⟩]
                constructor
                · rintro ⟨k, hk, q1, q2⟩
                  rw [zu_at] at q2
                  by_cases ek : k = l
                  · rw [if_pos ⟨rfl, ek⟩] at q2
                    have := (nI_eq (by omega) (by omega)).mp q2
                    omega
                  · rw [if_neg (fun z => ek z.2)] at q2
                    have := (hoh a ha ha2).mp ⟨k, hk, q1, q2⟩
                    omega
                · intro q
                  by_cases ea : a = D + i + M
                  · refine ⟨l, by omega, e1, ?_⟩
                    rw [zu_at, if_pos ⟨rfl, rfl⟩, ea]
                  · obtain ⟨k, hk, q1, q2⟩ := (hoh a ha ha2).mpr (by omega)
                    refine ⟨k, hk, q1, ?_⟩
                    have ek : k ≠ l := by
                      intro e
                      rw [e, unl] at q2
                      exact nI_pos (n := a) (by omega) (by rw [← q2]; decide)
                    rw [zu_at, if_neg (fun z => ek z.2)]
                    exact q2
              · rw [if_neg (fun z => eh z.1), ← ho h hh a ha ha2]
                constructor
                · rintro ⟨k, hk, q1, q2⟩
                  have ek : k ≠ l := by
                    intro e
                    rw [e, e1] at q1
                    exact eh ((nI_eq (by omega) (by omega)).mp q1)
                  rw [zu_at, if_neg (fun z => ek z.2)] at q2
                  exact ⟨k, hk, q1, q2⟩
                · rintro ⟨k, hk, q1, q2⟩
                  have ek : k ≠ l := by
                    intro e
                    rw [e, e1] at q1
                    exact eh ((nI_eq (by omega) (by omega)).mp q1)
                  exact ⟨k, hk, q1, by rw [zu_at, if_neg (fun z => ek z.2)]; exact q2⟩
            · have ek : k ≠ l := by
                intro e
                subst e
                rw [e2] at et
                have := (nI_eq (by omega) (by omega)).mp et
                omega
              rw [zu_at, if_neg (fun z => ek z.2)]
              exact hu k t2 hk et ht2 (by omega)
          · rw [if_neg (fun z => ct ((nI_eq (by omega) (by omega)).mp z)), ns]
            have same : ∀ h, h < N → zct2 p h (D + i) (l + 1) = zct2 p h (D + i) l := fun h hh => by rw [ctl h hh, if_neg (fun z => ct z.2)]
            rw [zsm_e (g := fun h => zsq p T D h i + zTri (zwq p T D h i + zct2 p h (D + i) (l + 1))) N (fun h hh => by rw [same h hh])]
            exact ihm (l + 1) ja a4 (by omega) hfr (fun h hh a ha ha2 => by rw [same h hh]; exact ho h hh a ha ha2) (fun k t2 hk et ht2 hd => hu k t2 hk et ht2 (by omega))
      rw [show zsm (fun h => zsq p T D h i + zTri (zwq p T D h i)) N = zsm (fun h => zsq p T D h i + zTri (zwq p T D h i + zct2 p h (D + i) 0)) N from rfl]
      exact letters T 0 ja a4 (by omega) hfr (fun h hh a ha ha2 => by rw [ho h hh a ha ha2]; rfl) (fun k t hk et ht hd => hu k t hk et ht (by omega))
  have fn := days (100 - D) 0 ja0 none none (by omega) hfr0 (fun h hh a ha ha2 => ⟨fun ⟨k, hk, q1, q2⟩ => by
    rw [hun0 k hk] at q2
    exact absurd q2 (fun z => nI_pos (n := a) (by omega) (by rw [← z]; decide)), fun q => by
    have : zwq p T D h 0 = 0 := rfl
    omega⟩) (fun k t hk _ _ _ => hun0 k hk)
  have z0 : zsm (fun h => zsq p T D h 0 + zTri (zwq p T D h 0)) N = 0 := by
    have : ∀ n, zsm (fun h => zsq p T D h 0 + zTri (zwq p T D h 0)) n = 0 := by
      intro n
      induction n with
      | zero => rfl
      | succ n ih =>
        show zsm (fun h => zsq p T D h 0 + zTri (zwq p T D h 0)) n + 0 = 0
        rw [ih]
    exact this N
  rw [z0] at fn
  exact fn
