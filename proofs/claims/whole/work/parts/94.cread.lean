/-! the class: a law's line; all lines -/
section ZP
variable {d pl dr n i N L T t ln rp : Nat} {cp cw : Option Nat} {b : Nat → Nat} {ia sa : Nat → Nat → Int32} {la : Nat → Nat → Int64} {K : Option Value → zHP → Prop} {l : List (Nat × Nat)} {P : Nat → Nat → Nat} {D : Nat → Nat → Prop} {e : Nat × Nat}
theorem Ge_1 {k : Nat} {v : Int32} (h : yCe rp ia N e sa) (hrp : zIsP rp) (h3 : k ≠ 3) (h4 : k ≠ 4) : yCe rp ia N e (zu sa 1 k v) := by
  have hr : rp = 6 ∨ rp = 39 := hrp
  exact ⟨by rw [zu_k (Ne.symm h3)]; exact h.1, by rw [zu_k (Ne.symm h4)]; exact h.2.1, h.2.2.1, by rw [zu_o (by omega)]; exact h.2.2.2.1, yFl_u h.2.2.2.2 (Or.inl rfl)⟩
theorem yV_U {c k : Nat} (h : yV rp c k) : yU rp c k := by
  rcases h with h | h | h | h | h | h
  · exact Or.inl h.1
  · exact Or.inr (Or.inl h)
  · exact Or.inr (Or.inr (Or.inl h))
  · exact Or.inr (Or.inr (Or.inr ⟨by omega, by omega⟩))
  · exact Or.inr (Or.inr (Or.inr ⟨by omega, by omega⟩))
  · exact Or.inr (Or.inr (Or.inr ⟨by omega, by omega⟩))
theorem yCf_e {s1 : Nat → Nat → Int32} (hrp : zIsP rp) (h1 : s1 rp 1 = nI N) (h2 : yFl rp ia s1) (h : yCf rp s1 e sa) : yCe rp ia N e sa := by
  have hr : rp = 6 ∨ rp = 39 := hrp
  obtain ⟨q1, q2, q3, _, _, q4⟩ := h
  refine ⟨q1, q2, q3, ?_, fun a q hn => ?_⟩
  · rw [q4 rp 1 (by rintro (z | z | z | z | z | z) <;> omega)]; exact h1
  · rw [q4 a q (fun z => hn (yV_U z))]; exact h2 a q hn
theorem M_law (hrp : zIsP rp) (h : yCL b n rp ia (yDm N L T) i N L T t P l ln sa) (w : yW1 N L T t P l) (hO : ∀ st ja, yBlaw b n N L T t P l i = .ok st → zkN b n st.1 = 4 → yCLs b n rp ia st ln ja → K none (ja, la, zRA pl dr cp cw (some rp))) (hE : ∀ e N' ja, yEr b n (yBlaw b n N L T t P l i) e → N' ≤ 6 → yCe rp ia N' e ja → K none (ja, la, zRA pl dr cp cw (some rp))) : zWM (d + 5) 33 [.ref 1] (sa, la, zRA pl dr cp cw (some rp)) K := by
  have hr : rp = 6 ∨ rp = 39 := hrp
  have hN := w.1
  have h6 : l.length ≤ 64 := w.2.2.2.2.1
  have n7 := h.1.2.1.1
  have hb := yTc_b h.1
  have hi := h.1.1
  have I : ∀ k, yit b n k i ≤ n := fun k => yit_n k hi hb
  have hE' : ∀ e N' ja, yBlaw b n N L T t P l i = .error e → N' ≤ 6 → yCe rp ia N' e ja → K none (ja, la, zRA pl dr cp cw (some rp)) := fun e N' ja q => hE e N' ja (Or.inl q)
  have uB : yBlaw b n N L T t P l i = yTh b n (if 27 ≤ zkN b n (yit b n 1 i) ∧ zkN b n (yit b n 1 i) ≤ 29 then (if t.testBit (3 + (zkN b n (yit b n 1 i) - 27)) = true then 3 else 0) else 1) (yit b n 1 i) (match yPx b n (yfuel n) 1 0 (yit b n 2 i) l.length l with
     | .error e => .error e
     | .ok r => .ok (r.1, N, L, T, t ||| 2 ^ (3 + (zkN b n (yit b n 1 i) - 27)), zu (zu P 29 (zkN b n (yit b n 1 i) - 27) l.length) 30 (zkN b n (yit b n 1 i) - 27) r.2.2.length, r.2.2)) := rfl
  rw [e33, b33_0]
  refine L_adv hrp h (fun j1 h1 => ?_)
  change yCL b n rp ia (yDm N L T) (yit b n 1 i) N L T t P l ln j1 at h1
  obtain ⟨k4, _⟩ := yCL_k h1
  rw [kN, b33_7, h1.1.2.2.1]
  by_cases kr : 27 ≤ zkN b n (yit b n 1 i) ∧ zkN b n (yit b n 1 i) ≤ 29
  case neg =>
    rw [if_neg kr, yTh_n (by decide)] at uB
    have fl : zWM (d + 4) 23 [.ref 1, .int 1] (j1, la, zRA pl dr cp cw (some rp)) (zK (d + 5) 33 32 [some (.ref 1), some (.int (nI (zkN b n (yit b n 1 i)) - 27)), none, none] [] K) := L_fail h1 hrp rfl (by decide) (by decide) (fun ja hj => by rw [kN, b33_32]; exact hE' _ N ja uB hN hj)
    by_cases c : zkN b n (yit b n 1 i) < 27
    · have : ∀ k, k < 27 → nI k - 27 < 0 := by decide +kernel
      rw [if_pos (this _ c)]; exact fl
    · have e27 : nI (zkN b n (yit b n 1 i)) - 27 = nI (zkN b n (yit b n 1 i) - 27) := by rw [show (27 : Int32) = nI 27 from rfl, pk_sub (by omega)]
      rw [if_neg (by rw [e27]; exact nI_pos (by omega)), if_neg (show ¬ nI (zkN b n (yit b n 1 i)) - 27 < 3 by rw [e27]; exact nI_nlt (b := 3) (by omega) (by omega))]; exact fl
  rw [if_pos kr] at uB
  obtain ⟨rr, hrr⟩ : ∃ rr, rr = zkN b n (yit b n 1 i) - 27 := ⟨_, rfl⟩
  have hr3 : rr < 3 := by omega
  have e27 : nI (zkN b n (yit b n 1 i)) - 27 = nI rr := by rw [show (27 : Int32) = nI 27 from rfl, pk_sub (by omega), hrr]
  rw [← hrr] at uB
  rw [e27, if_neg (nI_pos (by omega)), if_pos (show nI rr < 3 from nI_lt (b := 3) hr3 (by omega)), show (3 : Int32) = nI 3 from rfl, nI_add]
  refine L_tell (j := 3 + rr) h1 hrp rfl (by omega) w.2.2.2.1 (fun c0 j2 h2 => ?_) (fun c0 ja hj => ?_)
  case refine_2 =>
    rw [c0, if_pos rfl, yTh_n (by decide)] at uB
    rw [kN, b33_40 hrp, zg (by omega) (by omega), zcln (by omega), b33_67, if_neg (by decide)]
    have hj2 := Ge_1 (k := 7) (v := 0) (Ge_1 (k := 6) (v := 0) (Ge_w (c := rp + 29) (k := rr) (v := ja 1 8) hj hrp (by omega) (by omega)) hrp (by decide) (by decide)) hrp (by decide) (by decide)
    rw [if_pos (yCe_n hj2), e41, b41_0, zu_k (show (6 : Nat) ≠ 7 by decide), zu_eq, if_pos (by decide), kN, b33_133 hrp, zg (by omega) (by omega), zcln (by omega)]
    exact hE' _ N _ uB hN (Ge_w hj2 hrp (by omega) (by omega))
  rw [if_neg (show ¬ t.testBit (3 + rr) = true by rw [c0]; decide), yTh_0 rfl] at uB
  change yCL b n rp ia (yDm N L T) (yit b n 2 i) N L T (t ||| 2 ^ (3 + rr)) P l ln j2 at h2
  have e18 := h2.2.2.2.2.1
  have h3 := L_w (g := 29) (k := rr) (v := l.length) h2 hrp (Or.inr (Or.inr ⟨by decide, by decide⟩))
  rw [kN, b33_40 hrp, zg (by omega) (by omega), zcln (by omega), e18]
  generalize hs1 : zu (zu (zu j2 (rp + 29) rr (nI l.length)) 1 6 0) 1 7 0 = s1
  have s1c : ∀ a, a ≠ 1 → s1 a = zu j2 (rp + 29) rr (nI l.length) a := fun a ha => by rw [← hs1, zu_o ha, zu_o ha]
  have s1k : ∀ q, q ≠ 6 → q ≠ 7 → s1 1 q = zu j2 (rp + 29) rr (nI l.length) 1 q := fun q g1 g2 => by rw [← hs1, zu_k g2, zu_k g1]
  obtain ⟨p1, p2, p3, p4, p5, p6, p7, p8, p9, p10, p11, p12, p13⟩ := h3
  have f1 : yFl rp ia s1 := by rw [← hs1]; exact yFl_u (yFl_u p13 (Or.inl rfl)) (Or.inl rfl)
  have hcs : yCS b n rp s1 (yit b n 2 i) 0 l.length l [] s1 := ⟨yTc_e p1 (fun k _ _ => by rw [s1c 2 (by decide)]) (s1c 3 (by decide)) (s1c 4 (by decide)), by rw [s1k 3 (by decide) (by decide)]; exact p2, by rw [s1k 4 (by decide) (by decide)]; exact p3, by rw [← hs1, zu_k (by decide), zu_eq]; rfl, trivial, by rw [← hs1, zu_eq]; rfl, by rw [s1k 8 (by decide) (by decide)]; exact p5, by rw [s1c rp (by omega)]; exact p10, fun j hj => by rw [s1c (rp + 31) (by omega), s1c (rp + 32) (by omega)]; exact p12 j hj, fun _ _ _ => rfl⟩
  have rp1 : s1 rp 1 = nI N := by rw [s1c rp (by omega)]; exact p7
  -- behind a fault
  have eF : ∀ (e : Nat × Nat) (k : Nat) (v : Int32) (sb : Nat → Nat → Int32), yEr b n (yBlaw b n N L T t P l i) e → yCf rp s1 e sb → yLH (d + 5) pl dr rp cp cw la (nI rr) v k sb K := by
    intro e k v sb he hf
    have go : zWM (d + 4) 41 [.ref 1, .int 1] (sb, la, zRA pl dr cp cw (some rp)) (zK (d + 5) 33 133 [some (.ref 1), some (.int (nI rr)), some (.int v), some (.int (nI k))] [] K) := by
      refine G_settle hrp hf (fun ja hj => ?_)
      rw [kN, b33_133 hrp, zg (by omega) (by omega), zcln (by omega)]
      exact hE e N _ he hN (Ge_w (yCf_e hrp rp1 f1 hj) hrp (by omega) (by omega))
    show zWP (d + 5) 33 67 [some (.ref 1), some (.int (nI rr)), some (.int v), some (.int (nI k))] [] (sb, la, zRA pl dr cp cw (some rp)) K
    rw [b33_67, if_pos (yCf_n hf)]
    split
    · exact go
    · exact go
  have b1 : yit b n 1 i < yit b n 2 i := yit_s hb hi 1 (by omega)
  refine yCS_go hrp (yfuel n) 1 0 (yit b n 2 i) l.length l l [] [] 0 d (nI rr) 1 s1 K yX_1 (by show 10 * (n - yit b n 2 i) + 6 ≤ 10 * n + 10; omega) h6 (by omega) (fun _ => ⟨rfl, rfl⟩) (fun z => by omega) (List.append_nil _).symm (by decide) (fun z => by omega) (by decide) (by show 0 + 0 + l.length = l.length + 0; omega) (by omega) hcs (fun r w' k' out' sb q1 q2 q3 q4 q5 q6 q7 => ?_) (fun e k' v' sb q1 q2 q3 => eF e (k' + 1) v' sb (Or.inl (by rw [uB, q1])) q2)
  rw [q1] at uB
  have uB : yBlaw b n N L T t P l i = .ok (r.1, N, L, T, t ||| 2 ^ (3 + rr), zu (zu P 29 rr l.length) 30 rr r.2.2.length, r.2.2) := uB
  have A := (yPx_A hb (yfuel n) 1 0 (yit b n 2 i) l.length l yX_1 (I 2) (by show 10 * (n - yit b n 2 i) + 6 ≤ 10 * n + 10; omega) h6).2 r q1
  have q7 : w'.length + 0 + out'.length = r.2.1 + 0 := q7
  have r64 := A.2.2.2.2.1
  have rn := A.1
  have q4 : ∀ e ∈ w', 1 ≤ yrk e := q4
  have q5 : ybl 1 w' (zkN b n r.1) := q5
  have lr : r.2.2.length = out'.length + w'.length := by rw [q3, List.length_append, ymp_l]
  obtain ⟨z1, z2⟩ := ytw_a (r := 1) (t := []) (by decide) w' q4
  have wl : (w' ++ ([] : List Nat)).length ≤ 72 := by rw [List.append_nil]; omega
  by_cases k4 : zkN b n r.1 = 4
  · show zWP (d + 5) 33 67 [some (.ref 1), some (.int (nI rr)), some (.int 0), some (.int (nI k'))] [] (sb, la, zRA pl dr cp cw (some rp)) K
    rw [b33_67, if_neg (show ¬ (700 : Int32) ≤ nI k' from nI_nle1 (a := 700) (by omega) (by omega)), if_neg (fun y => y q2.2.1), if_neg (fun y => y rfl), q2.2.2.2.2.2.1, if_neg (show ¬ ¬ nI 0 = 0 by decide), q2.1.2.2.1, k4, if_neg (show ¬ ¬ nI 4 = 4 by decide)]
    refine C_settle (r := 1) (by decide) (by decide) rfl hrp q2 wl (by rw [z1]; omega) (fun ja hj => ?_)
    rw [z1, z2, ← q3] at hj
    rw [kN, b33_133 hrp, zg (by omega) (by omega), zcln (by omega), hj.2.2.2.2.2.2.1]
    obtain ⟨g1, g2, g3, g4, g5, g6, g7, g8, g9, g10⟩ := hj
    have nv : ∀ a q, a ≠ 5 → a ≠ 2 → a ≠ rp + 31 → a ≠ rp + 32 → ¬ (a = rp ∧ q = 4) → ¬ (a = 1 ∧ (q = 3 ∨ q = 4 ∨ q = 6 ∨ q = 7 ∨ q = 8)) → ja a q = s1 a q := fun a q x1 x2 x3 x4 x5 x6 => g10 a q (by
      rintro (z | z | z | z | z | z)
      · exact x6 z
      · exact x2 z.1
      · exact x1 z
      · exact x5 z
      · exact x3 z
      · exact x4 z)
    have h4 : yCL b n rp ia (fun a q => yDm N L T a q ∨ (a = 29 ∧ q = rr)) r.1 N L T (t ||| 2 ^ (3 + rr)) (zu P 29 rr l.length) r.2.2 ln ja := by
      refine ⟨g1, g2, g3, ?_, g7, ?_, ?_, ?_, ?_, ?_, fun g k hg => ⟨(p11 g k hg).1, ?_⟩, g9, fun a q hn => ?_⟩
      · rw [nv 1 2 (by omega) (by omega) (by omega) (by omega) (by omega) (by omega), s1k 2 (by decide) (by decide)]; exact p4
      · rw [nv rp 0 (by omega) (by omega) (by omega) (by omega) (by omega) (by omega), s1c rp (by omega)]; exact p6
      · rw [nv rp 1 (by omega) (by omega) (by omega) (by omega) (by omega) (by omega), s1c rp (by omega)]; exact p7
      · rw [nv rp 2 (by omega) (by omega) (by omega) (by omega) (by omega) (by omega), s1c rp (by omega)]; exact p8
      · rw [nv rp 3 (by omega) (by omega) (by omega) (by omega) (by omega) (by omega), s1c rp (by omega)]; exact p9
      · rw [g8]; congr 1; omega
      · have hg2 : (1 ≤ g ∧ g ≤ 3) ∨ (5 ≤ g ∧ g ≤ 14) ∨ (16 ≤ g ∧ g ≤ 30) := (p11 g k hg).1
        rw [nv (rp + g) k (by omega) (by omega) (by omega) (by omega) (by omega) (by omega), s1c (rp + g) (by omega)]; exact (p11 g k hg).2
      · rw [g10 a q (fun z => hn (yV_U z))]; exact f1 a q hn
    have h5 := L_w (g := 30) (k := rr) (v := r.2.2.length) h4 hrp (Or.inr (Or.inr ⟨by decide, by decide⟩))
    exact hO _ _ uB k4 (yCL_m h5 (fun g k hg => Or.inl (Or.inl hg)))
  · refine C_head0 q2 q6 (by omega) (fun z => k4 z.2) ?_
    refine C_block hrp q2 (by omega) ?_ wl (by omega) (fun _ => ?_) (fun v ja hj => ?_)
    · rcases q5 with z | z | z
      · exact Or.inl ⟨by omega, fun y => by omega⟩
      · exact Or.inr (Or.inl z)
      · exact Or.inr (Or.inr ⟨z.1, ycm_t z.2⟩)
    · have := ydw_l (r := 4) (w' ++ [])
      rw [List.append_nil] at this ⊢
      omega
    · rw [kS, b33_121, ns]
      exact eF _ _ _ _ (Or.inr ⟨_, uB, k4, rfl⟩) hj
/-- all lines -/
theorem C_read (hrp : zIsP rp) : ∀ (f ln k : Nat) (s : yS7) (sa : Nat → Nat → Int32) (i1 : Int32), n < s.1 + f → yCLs b n rp ia s ln sa → yWf s → k ≤ s.1 → (∀ ln' s' sa', yTx b n f ln s = .ok (ln', s') → yCLs b n rp ia s' ln' sa' → yWf s' → K none (sa', la, zRA pl dr cp cw (some rp))) → (∀ e N' sa', yTx b n f ln s = .error e → N' ≤ 6 → yCe rp ia N' e sa' → K none (sa', la, zRA pl dr cp cw (some rp))) → zWP (d + 7) 22 42 [some (.ref 1), some (.int i1), some (.ref rp), some (.int (nI k))] [] (sa, la, zRA pl dr cp cw (some rp)) K := by
  have hr : rp = 6 ∨ rp = 39 := hrp
  intro f
  induction f with
  | zero =>
    intro ln k s sa i1 hf h
    have := h.1.1
    omega
  | succ f ih =>
    intro ln k s sa i1 hf h w hk hO hE
    have hb := yTc_b h.1
    have hn : s.1 ≤ n := h.1.1
    have n7 : n ≤ 700 := h.1.2.1.1
    obtain ⟨t1, t2, t3, t4, _⟩ := yt_f hb hn
    have uT : yTx b n (f + 1) ln s = if zkN b n s.1 = 0 then .ok (ln, s) else match yLn b n s with
      | .error e => .error e
      | .ok q => yTx b n f (ln + 1) q := rfl
    rw [b22_42 hrp, h.1.2.2.1]
    by_cases k0 : zkN b n s.1 = 0
    · rw [if_pos k0] at uT
      have := hO ln s sa uT h w
      by_cases c7 : (700 : Int32) ≤ nI k
      · rw [if_pos c7]; exact this
      rw [if_neg c7, if_neg (fun y => y h.2.1), if_pos (show nI (zkN b n s.1) = 0 by rw [k0]; rfl)]
      exact this
    have t3 := t3 k0
    rw [if_neg k0] at uT
    have N' : ∀ j, ¬ zkN b n s.1 = j → j < 100 → ¬ nI (zkN b n s.1) = nI j := fun j hj h1 z => hj ((nI_eq (by omega) (by omega)).mp z)
    rw [if_neg (show ¬ (700 : Int32) ≤ nI k from nI_nle1 (a := 700) (by omega) (by omega)), if_neg (fun y => y h.2.1), if_neg (show ¬ nI (zkN b n s.1) = 0 from N' 0 k0 (by decide))]
    -- behind a line
    have nd : ∀ (K2 : Option Value → zHP → Prop), (∀ ja, K2 none (ja, la, zRA pl dr cp cw (some rp)) = zWP (d + 7) 22 153 [some (.ref 1), some (.int i1), some (.ref rp), some (.int (nI k))] [] (ja, la, zRA pl dr cp cw (some rp)) K) → (∀ q ja, yBd b n s = .ok q → yCLs b n rp ia q ln ja → zWM (d + 6) 24 [.ref 1, .int 4] (ja, la, zRA pl dr cp cw (some rp)) K2) ∧ (∀ e N2 ja, yEr b n (yBd b n s) e → N2 ≤ 6 → yCe rp ia N2 e ja → zWM (d + 6) 24 [.ref 1, .int 4] (ja, la, zRA pl dr cp cw (some rp)) K2) := by
      intro K2 e2
      have ef : ∀ e N2 ja, yEr b n (yBd b n s) e → N2 ≤ 6 → yCe rp ia N2 e ja → zWP (d + 7) 22 153 [some (.ref 1), some (.int i1), some (.ref rp), some (.int (nI k))] [] (ja, la, zRA pl dr cp cw (some rp)) K := by
        intro e N2 ja he h2 hj
        have hj2 := Ge_rp (k := 0) (v := ja rp 0 + 1) hj hrp (by decide)
        have uL : yLn b n s = .error e := by
          unfold yLn
          rcases he with he | ⟨q, he, h4, h5⟩
          · rw [he]
          · rw [he]; dsimp only; rw [if_neg h4, h5]
        rw [uL] at uT
        have := hE e N2 _ uT h2 hj2
        rw [b22_153 hrp hrp, ns, b22_42 hrp]
        by_cases c7 : (700 : Int32) ≤ nI (k + 1)
        · rw [if_pos c7]; exact this
        · rw [if_neg c7, if_pos (yCe_n hj2)]; exact this
      refine ⟨fun q ja hq hj => ?_, fun e N2 ja he h2 hj => ?_⟩
      · obtain ⟨wq, p1, p2⟩ := yBd_W hb hn w hq
        refine L_take (k := 4) hj hrp rfl (by decide) (fun k4 jb hb4 => ?_) (fun k4 jb hb4 => ?_)
        · rw [e2]
          have uL : yLn b n s = .ok (zTn b n q.1, q.2) := by unfold yLn; rw [hq]; dsimp only; rw [if_pos k4]
          rw [uL] at uT
          have uT : yTx b n (f + 1) ln s = yTx b n f (ln + 1) (zTn b n q.1, q.2) := uT
          have t5 := (yt_f hb p2).2.2.1 (by omega)
          rw [b22_153 hrp hrp, ns, hb4.2.2.2.2.2.1, ns]
          have h5 := L_rp (k := 0) (v := ln + 1) hb4 hrp (by decide)
          exact ih (ln + 1) (k + 1) (zTn b n q.1, q.2) _ i1 (by show n < zTn b n q.1 + f; omega) h5 wq (by show k + 1 ≤ zTn b n q.1; omega) (fun ln' s' sa' z1 z2 z3 => hO ln' s' sa' (uT.trans z1) z2 z3) (fun e N' sa' z1 z2 z3 => hE e N' sa' (uT.trans z1) z2 z3)
        · rw [e2]
          exact ef _ _ _ (Or.inr ⟨q, hq, k4, rfl⟩) wq.1.1 hb4
      · rw [G_take (yCe_n hj), e2]
        exact ef _ _ _ he h2 hj
    have eR : ∀ e, yBd b n s = .error e → yEr b n (yBd b n s) e := fun e he => Or.inl he
    have w1 := w.1
    by_cases c20 : zkN b n s.1 = 20
    · rw [if_pos (show nI (zkN b n s.1) = 20 by rw [c20]; rfl)]
      have uD : yBd b n s = yBman b n s.2.1 s.2.2.1 s.2.2.2.1 s.2.2.2.2.1 s.2.2.2.2.2.1 s.2.2.2.2.2.2 s.1 := if_pos c20
      refine M_man hrp h w1 (fun q ja hq hj => ?_) (fun e N2 ja he h2 hj => ?_)
      · rw [kN, b22_120 hrp]; exact (nd _ (fun _ => rfl)).1 q ja (uD.trans hq) hj
      · rw [kN, b22_120 hrp]; exact (nd _ (fun _ => rfl)).2 e N2 ja (eR e (uD.trans he)) h2 hj
    rw [if_neg (show ¬ nI (zkN b n s.1) = 20 from N' 20 c20 (by decide))]
    by_cases c21 : zkN b n s.1 = 21
    · rw [if_pos (show nI (zkN b n s.1) = 21 by rw [c21]; rfl)]
      have uD : yBd b n s = yBlea b n s.2.1 s.2.2.1 s.2.2.2.1 s.2.2.2.2.1 s.2.2.2.2.2.1 s.2.2.2.2.2.2 s.1 := (if_neg c20).trans (if_pos c21)
      refine M_lease hrp h w1 (fun q ja hq hj => ?_) (fun e N2 ja he h2 hj => ?_)
      · rw [kN, b22_127 hrp]; exact (nd _ (fun _ => rfl)).1 q ja (uD.trans hq) hj
      · rw [kN, b22_127 hrp]; exact (nd _ (fun _ => rfl)).2 e N2 ja (eR e (uD.trans he)) h2 hj
    rw [if_neg (show ¬ nI (zkN b n s.1) = 21 from N' 21 c21 (by decide))]
    by_cases c22 : zkN b n s.1 = 22
    · rw [if_pos (show nI (zkN b n s.1) = 22 by rw [c22]; rfl)]
      have uD : yBd b n s = yBlet b n s.2.1 s.2.2.1 s.2.2.2.1 s.2.2.2.2.1 s.2.2.2.2.2.1 s.2.2.2.2.2.2 s.1 := (if_neg c20).trans ((if_neg c21).trans (if_pos c22))
      refine M_letter hrp h w1 (fun q ja hq hj => ?_) (fun e N2 ja he h2 hj => ?_)
      · rw [kN, b22_134 hrp]; exact (nd _ (fun _ => rfl)).1 q ja (uD.trans hq) hj
      · rw [kN, b22_134 hrp]; exact (nd _ (fun _ => rfl)).2 e N2 ja (eR e (uD.trans he)) h2 hj
    rw [if_neg (show ¬ nI (zkN b n s.1) = 22 from N' 22 c22 (by decide))]
    have st : zWM (d + 6) 31 [.ref 1] (sa, la, zRA pl dr cp cw (some rp)) (zK (d + 7) 22 148 [some (.ref 1), some (.int i1), some (.ref rp), some (.int (nI k))] [] K) ∨ zkN b n s.1 = 26 := by
      by_cases c26 : zkN b n s.1 = 26
      · exact Or.inr c26
      refine Or.inl ?_
      by_cases c3 : 23 ≤ zkN b n s.1 ∧ zkN b n s.1 ≤ 25
      · have uD : yBd b n s = yBset b n s.2.1 s.2.2.1 s.2.2.2.1 s.2.2.2.2.1 s.2.2.2.2.2.1 s.2.2.2.2.2.2 s.1 := (if_neg c20).trans ((if_neg c21).trans ((if_neg c22).trans (if_pos c3)))
        refine M_set hrp h w1 c3 (fun q ja hq hj => ?_) (fun e N2 ja he h2 hj => ?_)
        · rw [kN, b22_148 hrp]; exact (nd _ (fun _ => rfl)).1 q ja (uD.trans hq) hj
        · rw [kN, b22_148 hrp]; exact (nd _ (fun _ => rfl)).2 e N2 ja (eR e (uD.trans he)) h2 hj
      · have uD : yBd b n s = .error (1, zTp b n s.1) := (if_neg c20).trans ((if_neg c21).trans ((if_neg c22).trans ((if_neg c3).trans (if_neg c26))))
        refine M_bad hrp h c3 (fun ja hj => ?_)
        rw [kN, b22_148 hrp]; exact (nd _ (fun _ => rfl)).2 _ _ ja (eR _ uD) w1.1 hj
    by_cases c26 : zkN b n s.1 = 26
    · rw [if_neg (show ¬ nI (zkN b n s.1) = 23 from N' 23 (by omega) (by decide)), if_neg (show ¬ nI (zkN b n s.1) = 24 from N' 24 (by omega) (by decide)), if_neg (show ¬ nI (zkN b n s.1) = 25 from N' 25 (by omega) (by decide)), if_pos (show nI (zkN b n s.1) = 26 by rw [c26]; rfl)]
      have uD : yBd b n s = yBlaw b n s.2.1 s.2.2.1 s.2.2.2.1 s.2.2.2.2.1 s.2.2.2.2.2.1 s.2.2.2.2.2.2 s.1 := (if_neg c20).trans ((if_neg c21).trans ((if_neg c22).trans ((if_neg (by omega)).trans (if_pos c26))))
      refine M_law (d := d + 1) hrp h w1 (fun q ja hq h4 hj => ?_) (fun e N2 ja he h2 hj => ?_)
      · rw [kN, b22_141 hrp]; exact (nd _ (fun _ => rfl)).1 q ja (uD.trans hq) hj
      · rw [kN, b22_141 hrp]; exact (nd _ (fun _ => rfl)).2 e N2 ja (by rw [uD]; exact he) h2 hj
    · have st := st.resolve_right c26
      rw [if_neg (show ¬ nI (zkN b n s.1) = 26 from N' 26 c26 (by decide))]
      rw [ite_self, ite_self, ite_self]
      exact st
end ZP
