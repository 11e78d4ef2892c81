/-! the class: an operand, a joint -/
theorem ytw_a {r : Nat} {t : List Nat} (ht : ytop t < r) : ∀ w : List Nat, (∀ e ∈ w, r ≤ yrk e) → ytw r (w ++ t) = w ∧ ydw r (w ++ t) = t := by
  intro w
  induction w with
  | nil =>
    intro _
    cases t with
    | nil => exact ⟨rfl, rfl⟩
    | cons k t =>
      have ht : yrk k < r := ht
      exact ⟨ytw_n (by omega), ydw_n (by omega)⟩
  | cons k w ih =>
    intro h
    have h1 := h k List.mem_cons_self
    obtain ⟨i1, i2⟩ := ih (fun e he => h e (List.mem_cons_of_mem _ he))
    show ytw r (k :: (w ++ t)) = k :: w ∧ ydw r (k :: (w ++ t)) = t
    rw [ytw_p h1, ydw_p h1, i1, i2]
    exact ⟨rfl, rfl⟩
theorem ytd {y : Nat} : ∀ s : List Nat, ytw (y + 1) s ++ ytw y (ydw (y + 1) s) = ytw y s ∧ ydw y (ydw (y + 1) s) = ydw y s := by
  intro s
  induction s with
  | nil => exact ⟨rfl, rfl⟩
  | cons k t ih =>
    by_cases c : y + 1 ≤ yrk k
    · rw [ytw_p c, ydw_p c, ytw_p (show y ≤ yrk k by omega), ydw_p (show y ≤ yrk k by omega)]
      exact ⟨by rw [← ih.1]; rfl, ih.2⟩
    · rw [ytw_n c, ydw_n c]
      exact ⟨rfl, rfl⟩
theorem ymp_a (u v : List Nat) : ymp (u ++ v) = ymp u ++ ymp v := List.map_append
theorem ymp_l (u : List Nat) : (ymp u).length = u.length := List.length_map _
theorem ydw_l {r : Nat} : ∀ s : List Nat, (ytw r s).length + (ydw r s).length = s.length := by
  intro s
  induction s with
  | nil => rfl
  | cons k t ih =>
    by_cases c : r ≤ yrk k
    · rw [ytw_p c, ydw_p c]; show (ytw r t).length + 1 + (ydw r t).length = t.length + 1; omega
    · rw [ytw_n c, ydw_n c]; show 0 + _ = _; omega
section ZP
variable {d pl dr n i o c rp : Nat} {cp cw : Option Nat} {b : Nat → Nat} {ia sa : Nat → Nat → Int32} {la : Nat → Nat → Int64} {K : Option Value → zHP → Prop} {l : List (Nat × Nat)} {s : List Nat} {e : Nat × Nat}
theorem yCS_k (h : yCS b n rp ia i o c l s sa) : zkN b n i < 40 ∧ zTv b n i < 2 ^ 30 := by
  obtain ⟨_, _, _, t4, _, t6, _⟩ := yt_f (yTc_b h.1) h.1.1
  exact ⟨t4, t6⟩
theorem S_deny (h : yCS b n rp ia i o c l s sa) (hs : s.length ≤ 72) : zWM (d + 1) 35 [.ref 1] (sa, la, zRA pl dr cp cw (some rp)) K = K (some (.int (if ytop s ≤ 3 then 1 else 0))) (sa, la, zRA pl dr cp cw (some rp)) := by
  rw [e35, b35_0, h.2.2.2.1]
  cases s with
  | nil => rfl
  | cons k t =>
    have h4 : sa 1 6 = nI (t.length + 1) := h.2.2.2.1
    have hs : t.length + 1 ≤ 72 := hs
    obtain ⟨q1, q2, q3⟩ : sa 5 t.length = nI k ∧ k < 40 ∧ ySt t sa := h.2.2.2.2.1
    have k6 := (yrk_i k).2.2.2.2.2.2
    show (if nI (t.length + 1) = 0 then _ else (vp_in (nI (t.length + 1) - 1) 72 ∧ zWM d 42 [.int (sa 5 (nI (t.length + 1) - 1).toNatClampNeg)] (sa, la, zRA pl dr cp cw (some rp)) (zK (d + 1) 35 21 [some (.ref 1)] [] K))) = K (some (.int (if yrk k ≤ 3 then 1 else 0))) (sa, la, zRA pl dr cp cw (some rp))
    rw [if_neg (show ¬ nI (t.length + 1) = 0 from fun z => by have := (nI_eq (b := 0) (by omega) (by omega)).mp z; omega), np, zg (by omega) (by omega), zcln (by omega), q1, S_rank (by omega), kS, b35_21, show (32 : Int32) = nI 32 from rfl, S_rank (by omega), kS, b35_26]
    by_cases c : yrk k ≤ 3
    · rw [if_neg (show ¬ nI (yrk 32) < nI (yrk k) from nI_nlt (show yrk k ≤ yrk 32 from c) (by decide)), if_pos c]
    · rw [if_pos (show nI (yrk 32) < nI (yrk k) from nI_lt (show yrk 32 < yrk k by show 3 < yrk k; omega) (by omega)), if_neg c]
theorem C_pre (h : yCS b n rp ia i o c l s sa) (hs : s.length ≤ 72) : zWM (d + 2) 34 [.ref 1] (sa, la, zRA pl dr cp cw (some rp)) K = zWP (d + 2) 34 55 [some (.ref 1), some (.int (nI (zkN b n i))), some (.int (if zkN b n i = 2 then 1 else 0)), some (.int (if 33 ≤ zkN b n i then 1 else 0)), none] [.int (if zkN b n i = 32 ∧ ytop s ≤ 3 then 1 else 0)] (sa, la, zRA pl dr cp cw (some rp)) K := by
  obtain ⟨k4, _⟩ := yCS_k h
  have n2 : nI (zkN b n i) = 2 ↔ zkN b n i = 2 := nI_eq (b := 2) (by omega) (by omega)
  have n32 : nI (zkN b n i) = 32 ↔ zkN b n i = 32 := nI_eq (b := 32) (by omega) (by omega)
  have two : ∀ v0 v1 : Int32, zWP (d + 2) 34 36 [some (.ref 1), some (.int (nI (zkN b n i))), some (.int v0), none, none] [.int v1] (sa, la, zRA pl dr cp cw (some rp)) K = zWP (d + 2) 34 55 [some (.ref 1), some (.int (nI (zkN b n i))), some (.int v0), some (.int v1), none] [.int (if zkN b n i = 32 ∧ ytop s ≤ 3 then 1 else 0)] (sa, la, zRA pl dr cp cw (some rp)) K := by
    intro v0 v1
    rw [b34_36]
    by_cases c : zkN b n i = 32
    · rw [if_neg (show ¬ ¬ nI (zkN b n i) = 32 from fun y => y (n32.mpr c)), S_deny h hs, kS, b34_47]
      by_cases c3 : ytop s ≤ 3
      · rw [if_pos c3, if_neg (by decide), if_pos ⟨c, c3⟩]
      · rw [if_neg c3, if_pos rfl, b34_54, if_neg (fun y => c3 y.2)]
    · rw [if_pos (show ¬ nI (zkN b n i) = 32 from fun y => c (n32.mp y)), b34_54, if_neg (fun y => c y.1)]
  have one : ∀ v0 : Int32, zWP (d + 2) 34 18 [some (.ref 1), some (.int (nI (zkN b n i))), none, none, none] [.int v0] (sa, la, zRA pl dr cp cw (some rp)) K = zWP (d + 2) 34 36 [some (.ref 1), some (.int (nI (zkN b n i))), some (.int v0), none, none] [.int (if 33 ≤ zkN b n i then 1 else 0)] (sa, la, zRA pl dr cp cw (some rp)) K := by
    intro v0
    rw [b34_18]
    by_cases c : 33 ≤ zkN b n i
    · rw [if_neg (show ¬ nI (zkN b n i) < 33 from nI_nlt (b := 33) c (by omega)), if_neg (show ¬ (39 : Int32) < nI (zkN b n i) from nI_nlt (a := 39) (by omega) (by omega)), if_pos c]
    · rw [if_pos (show nI (zkN b n i) < 33 from nI_lt (b := 33) (by omega) (by omega)), b34_35, if_neg c]
  rw [e34, b34_0, h.1.2.2.1]
  by_cases c : zkN b n i = 2
  · rw [if_neg (show ¬ ¬ nI (zkN b n i) = 2 from fun y => y (n2.mpr c)), one, two, if_pos c]
  · rw [if_pos (show ¬ nI (zkN b n i) = 2 from fun y => c (n2.mp y)), one, two, if_neg c]
theorem G_o80 {i1 i2 i3 i4 : Int32} (hK : ∀ v, K (some (.int v)) (sa, la, zRA pl dr cp cw (some rp))) : zWP d 34 180 [some (.ref 1), some (.int i1), some (.int i2), some (.int i3), some (.int i4)] [] (sa, la, zRA pl dr cp cw (some rp)) K := by
  rw [b34_180]
  split
  · exact hK _
  · split <;> exact hK _
theorem G_o110 {i1 i2 i3 i4 : Int32} (hrp : zIsP rp) (h : yCf rp ia e sa) (hK : ∀ v ja, yCf rp ia e ja → K (some (.int v)) (ja, la, zRA pl dr cp cw (some rp))) : zWP (d + 2) 34 110 [some (.ref 1), some (.int i1), some (.int i2), some (.int i3), some (.int i4)] [] (sa, la, zRA pl dr cp cw (some rp)) K := by
  have tk : ∀ ja, yCf rp ia e ja → zWM (d + 1) 24 [.ref 1, .int i1] (ja, la, zRA pl dr cp cw (some rp)) (zK (d + 2) 34 180 [some (.ref 1), some (.int i1), some (.int i2), some (.int i3), some (.int i4)] [] K) := fun ja hj => by
    rw [G_take (yCf_n hj), kN]; exact G_o80 (fun v => hK v ja hj)
  have st : zWM (d + 1) 40 [.ref 1, .int i1, .int (sa 2 7)] (sa, la, zRA pl dr cp cw (some rp)) (zK (d + 2) 34 130 [some (.ref 1), some (.int i1), some (.int i2), some (.int i3), some (.int i4)] [] K) := G_set hrp h (fun ja hj => by rw [kN, b34_130]; exact tk ja hj)
  rw [b34_110]
  by_cases c2 : i2 = 0
  · rw [if_neg (fun y => y c2)]
    by_cases c3 : i3 = 0
    · rw [if_pos c3]
      by_cases c4 : i4 = 0
      · rw [if_pos c4]
        by_cases c5 : i1 = 5
        · rw [if_neg (fun y => y c5)]
          have h' : ∀ x, yCf rp ia e (zu sa 1 7 x) := by
            intro x
            obtain ⟨h1, h2, h3, ⟨m, m1, m2⟩, ⟨q, q1, q2⟩, h5⟩ := h
            exact ⟨by rw [zu_k (by decide)]; exact h1, by rw [zu_k (by decide)]; exact h2, h3, ⟨m, m1, by rw [zu_k (by decide)]; exact m2⟩, ⟨q, q1, by rw [zu_k (by decide)]; exact q2⟩, yFq_u h5 (Or.inl ⟨rfl, by omega⟩)⟩
          exact G_hold (h' _) (fun ja hj => by rw [kN, b34_167]; exact tk ja hj)
        · rw [if_pos c5, G_fail (yCf_n h), kN, b34_175]; exact tk sa h
      · rw [if_neg c4]
        exact G_hold h (fun ja hj => by rw [kN, b34_144]; exact tk ja hj)
    · rw [if_neg c3]; exact st
  · rw [if_pos c2]; exact st
theorem G_o93 {i1 i2 i3 i4 : Int32} (hrp : zIsP rp) (h : yCf rp ia e sa) (hK : ∀ v ja, yCf rp ia e ja → K (some (.int v)) (ja, la, zRA pl dr cp cw (some rp))) : zWP (d + 2) 34 93 [some (.ref 1), some (.int i1), some (.int i2), some (.int i3), some (.int i4)] [] (sa, la, zRA pl dr cp cw (some rp)) K := by
  have st : zWM (d + 1) 38 [.ref 1] (sa, la, zRA pl dr cp cw (some rp)) (zK (d + 2) 34 110 [some (.ref 1), some (.int i1), some (.int i2), some (.int i3), some (.int i4)] [] K) := G_cnt hrp h (fun ja hj => by rw [kN]; exact G_o110 hrp hj hK)
  rw [b34_93]
  split
  · exact st
  · split
    · exact st
    · split
      · exact G_o110 hrp h hK
      · exact st
theorem C_opV (hrp : zIsP rp) (h : yCS b n rp ia i o c l s sa) (hk : (zkN b n i = 2 ∧ zTv b n i ≤ 9999) ∨ 33 ≤ zkN b n i) (hc : c < 64) (hl : l.length < 64) (hs : s.length ≤ 72) (hK : ∀ ja, yCS b n rp ia (zTn b n i) o (c + 1) (l ++ [(zkN b n i, zTv b n i)]) s ja → K (some (.int 0)) (ja, la, zRA pl dr cp cw (some rp))) : zWM (d + 4) 34 [.ref 1] (sa, la, zRA pl dr cp cw (some rp)) K := by
  obtain ⟨k4, k5⟩ := yCS_k h
  rw [C_pre h hs]
  have n5 : ¬ nI (zkN b n i) = 5 := fun z => by have := (nI_eq (b := 5) (by omega) (by omega)).mp z; omega
  have tl : ∀ (i2 i3 i4 : Int32), (¬ i2 = 0 ∨ ¬ i3 = 0) → zWP (d + 4) 34 93 [some (.ref 1), some (.int (nI (zkN b n i))), some (.int i2), some (.int i3), some (.int i4)] [] (sa, la, zRA pl dr cp cw (some rp)) K := by
    intro i2 i3 i4 hf
    have go : zWM (d + 3) 38 [.ref 1] (sa, la, zRA pl dr cp cw (some rp)) (zK (d + 4) 34 110 [some (.ref 1), some (.int (nI (zkN b n i))), some (.int i2), some (.int i3), some (.int i4)] [] K) := by
      refine C_cnt h hc hrp (fun ja hj => ?_)
      have go2 : zWM (d + 3) 40 [.ref 1, .int (nI (zkN b n i)), .int (ja 2 7)] (ja, la, zRA pl dr cp cw (some rp)) (zK (d + 4) 34 130 [some (.ref 1), some (.int (nI (zkN b n i))), some (.int i2), some (.int i3), some (.int i4)] [] K) := by
        refine C_set hj rfl hj.1.2.2.2.2.1 hl hrp (fun jb hj2 => ?_)
        rw [kN, b34_130]
        refine C_take hj2 rfl hrp (fun jc hj3 => ?_)
        rw [kN, b34_180]
        by_cases c2 : i2 = 0
        · rw [if_neg (fun y => y c2), if_pos (by rcases hf with z | z; exact absurd c2 z; exact z)]; exact hK _ hj3
        · rw [if_pos c2]; exact hK _ hj3
      rw [kN, b34_110]
      by_cases c2 : i2 = 0
      · rw [if_neg (fun y => y c2), if_neg (by rcases hf with z | z; exact absurd c2 z; exact z)]; exact go2
      · rw [if_pos c2]; exact go2
    rw [b34_93]
    by_cases c2 : i2 = 0
    · rw [if_neg (fun y => y c2), if_pos (by rcases hf with z | z; exact absurd c2 z; exact z)]; exact go
    · rw [if_pos c2]; exact go
  rw [b34_55]
  rcases hk with ⟨q1, q2⟩ | q
  · rw [if_pos q1, if_neg (by decide), h.1.2.2.2.2.1, if_neg (show ¬ (9999 : Int32) < nI (zTv b n i) from nI_nlt (a := 9999) q2 (by omega)), b34_74, if_pos n5]
    exact tl _ _ _ (Or.inl (by decide))
  · rw [if_neg (show ¬ zkN b n i = 2 by omega), if_pos rfl, b34_74, if_pos n5, if_pos q]
    exact tl _ _ _ (Or.inr (by decide))
theorem C_opD (hrp : zIsP rp) (h : yCS b n rp ia i o c l s sa) (hk : zkN b n i = 32) (ht : ytop s ≤ 3) (hc : c < 64) (hs : s.length < 72) (hK : ∀ ja, yCS b n rp ia (zTn b n i) o (c + 1) l (32 :: s) ja → K (some (.int 1)) (ja, la, zRA pl dr cp cw (some rp))) : zWM (d + 4) 34 [.ref 1] (sa, la, zRA pl dr cp cw (some rp)) K := by
  rw [C_pre h (by omega), if_neg (by omega), if_neg (by omega), if_pos ⟨hk, ht⟩, b34_55, if_pos rfl, b34_74, if_pos (show ¬ nI (zkN b n i) = 5 by rw [hk]; decide), b34_93, if_neg (fun y => y rfl), if_neg (fun y => y rfl), if_neg (by decide)]
  refine C_cnt h hc hrp (fun ja hj => ?_)
  rw [kN, b34_110, if_neg (fun y => y rfl), if_pos rfl, if_neg (by decide)]
  refine C_hold (k := 32) hj rfl (by decide) hs hrp (fun jb hj => ?_)
  rw [kN, b34_144]
  refine C_take hj rfl hrp (fun jc hj => ?_)
  rw [kN, b34_180, if_neg (fun y => y rfl), if_neg (fun y => y rfl)]
  exact hK _ hj
theorem C_opO (hrp : zIsP rp) (h : yCS b n rp ia i o c l s sa) (hk : zkN b n i = 5) (ho : o < 8) (hs : s.length < 72) (hK : ∀ ja, yCS b n rp ia (zTn b n i) (o + 1) c l (5 :: s) ja → K (some (.int 1)) (ja, la, zRA pl dr cp cw (some rp))) : zWM (d + 4) 34 [.ref 1] (sa, la, zRA pl dr cp cw (some rp)) K := by
  rw [C_pre h (by omega), if_neg (by omega), if_neg (by omega), if_neg (by omega), b34_55, if_pos rfl, b34_74, if_neg (show ¬ ¬ nI (zkN b n i) = 5 by rw [hk]; decide), h.2.2.2.2.2.1, if_pos (show nI o < 8 from nI_lt (b := 8) ho (by omega)), b34_93, if_neg (fun y => y rfl), if_neg (fun y => y rfl), if_pos rfl, b34_110, if_neg (fun y => y rfl), if_pos rfl, if_pos rfl, if_neg (show ¬ ¬ nI (zkN b n i) = 5 by rw [hk]; decide), h.2.2.2.2.2.1, ns]
  have h' : yCS b n rp ia i (o + 1) c l s (zu sa 1 7 (nI (o + 1))) := by
    have hr : rp = 6 ∨ rp = 39 := hrp
    obtain ⟨h1, h2, h3, h4, h5, h6, h7, h8, h10, h11⟩ := h
    exact ⟨yTc_e h1 (fun k _ _ => by rw [zu_o (by decide)]) (zu_o (by decide)) (zu_o (by decide)), by rw [zu_k (by decide)]; exact h2, by rw [zu_k (by decide)]; exact h3, by rw [zu_k (by decide)]; exact h4, ySt_e s (fun j _ => by rw [zu_o (by decide)]) h5, zu_eq _ _ _ _, by rw [zu_k (by decide)]; exact h7, by rw [zu_o (by omega)]; exact h8, fun j hj => by rw [zu_o (by omega), zu_o (by omega)]; exact h10 j hj, yFq_u h11 (Or.inl ⟨rfl, by omega⟩)⟩
  refine C_hold (k := 5) h' rfl (by decide) hs hrp (fun jb hj => ?_)
  rw [kN, b34_167]
  refine C_take hj rfl hrp (fun jc hj => ?_)
  rw [kN, b34_180, if_neg (fun y => y rfl), if_neg (fun y => y rfl)]
  exact hK _ hj
theorem C_opE1 (hrp : zIsP rp) (h : yCS b n rp ia i o c l s sa) (k2 : ¬ zkN b n i = 2) (k3 : ¬ 33 ≤ zkN b n i) (k5 : ¬ zkN b n i = 5) (kd : ¬ (zkN b n i = 32 ∧ ytop s ≤ 3)) (hs : s.length ≤ 72) (hl : l.length ≤ 64) (hK : ∀ v ja, yCf rp ia (1, zTp b n i) ja → K (some (.int v)) (ja, la, zRA pl dr cp cw (some rp))) : zWM (d + 4) 34 [.ref 1] (sa, la, zRA pl dr cp cw (some rp)) K := by
  obtain ⟨k4, _⟩ := yCS_k h
  have n5 : ¬ nI (zkN b n i) = 5 := fun z => by have := (nI_eq (b := 5) (by omega) (by omega)).mp z; omega
  rw [C_pre h hs, if_neg k2, if_neg k3, if_neg kd, b34_55, if_pos rfl, b34_74, if_pos n5, b34_93, if_neg (fun y => y rfl), if_neg (fun y => y rfl), if_pos rfl, b34_110, if_neg (fun y => y rfl), if_pos rfl, if_pos rfl, if_pos n5]
  refine C_fail h rfl (by decide) (by decide) hs hl (fun ja hj => ?_)
  rw [kN, b34_175, G_take (yCf_n hj), kN]
  exact G_o80 (fun v => hK v ja hj)
theorem C_opE2 (hrp : zIsP rp) (h : yCS b n rp ia i o c l s sa) (hk : (zkN b n i = 2 ∧ 9999 < zTv b n i) ∨ (zkN b n i = 5 ∧ o = 8) ∨ (c = 64 ∧ (zkN b n i = 2 ∨ 33 ≤ zkN b n i ∨ (zkN b n i = 32 ∧ ytop s ≤ 3)))) (hs : s.length ≤ 72) (hl : l.length ≤ 64) (hK : ∀ v ja, yCf rp ia (2, zTp b n i) ja → K (some (.int v)) (ja, la, zRA pl dr cp cw (some rp))) : zWM (d + 4) 34 [.ref 1] (sa, la, zRA pl dr cp cw (some rp)) K := by
  obtain ⟨k4, kv⟩ := yCS_k h
  have n5 : nI (zkN b n i) = 5 ↔ zkN b n i = 5 := nI_eq (b := 5) (by omega) (by omega)
  have fl : ∀ i2 i3 i4 : Int32, zWM (d + 3) 23 [.ref 1, .int 2] (sa, la, zRA pl dr cp cw (some rp)) (zK (d + 4) 34 93 [some (.ref 1), some (.int (nI (zkN b n i))), some (.int i2), some (.int i3), some (.int i4)] [] K) := fun i2 i3 i4 =>
    C_fail h rfl (by decide) (by decide) hs hl (fun ja hj => by rw [kN]; exact G_o93 hrp hj hK)
  have cf : ∀ i2 i3 i4 : Int32, c = 64 → zWM (d + 3) 38 [.ref 1] (sa, la, zRA pl dr cp cw (some rp)) (zK (d + 4) 34 110 [some (.ref 1), some (.int (nI (zkN b n i))), some (.int i2), some (.int i3), some (.int i4)] [] K) := fun i2 i3 i4 hc =>
    C_c64 h hc hs hl hrp (fun ja hj => by rw [kN]; exact G_o110 hrp hj hK)
  rw [C_pre h hs, b34_55]
  by_cases k2 : zkN b n i = 2
  · rw [if_pos k2, if_neg (by decide), h.1.2.2.2.2.1]
    by_cases hv : 9999 < zTv b n i
    · rw [if_pos (show (9999 : Int32) < nI (zTv b n i) from nI_lt (a := 9999) hv (by omega))]; exact fl _ _ _
    · rw [if_neg (show ¬ (9999 : Int32) < nI (zTv b n i) from nI_nlt (a := 9999) (by omega) (by omega)), b34_74, if_pos (show ¬ nI (zkN b n i) = 5 from fun z => by have := n5.mp z; omega), b34_93, if_pos (by decide)]
      exact cf _ _ _ (by omega)
  rw [if_neg k2, if_pos rfl, b34_74]
  by_cases k5 : zkN b n i = 5
  · rw [if_neg (show ¬ ¬ nI (zkN b n i) = 5 from fun y => y (n5.mpr k5)), h.2.2.2.2.2.1]
    rw [if_neg (show ¬ nI o < 8 from nI_nlt (b := 8) (by omega) (by omega))]; exact fl _ _ _
  rw [if_pos (show ¬ nI (zkN b n i) = 5 from fun y => k5 (n5.mp y)), b34_93, if_neg (fun y => y rfl)]
  by_cases k3 : 33 ≤ zkN b n i
  · rw [if_pos k3, if_pos (by decide)]; exact cf _ _ _ (by omega)
  rw [if_neg k3, if_neg (fun y => y rfl), if_pos (show zkN b n i = 32 ∧ ytop s ≤ 3 by omega), if_neg (by decide)]
  exact cf _ _ _ (by omega)
/-! a joint -/
theorem C_close {w t : List Nat} (hrp : zIsP rp) (h : yCS b n rp ia i (o + 1) c l (w ++ 5 :: t) sa) (hk : zkN b n i = 6) (ho : o < 8) (hw : ∀ e ∈ w, 1 ≤ yrk e) (hs : (w ++ 5 :: t).length ≤ 72) (hl : l.length + w.length ≤ 64) (hK : ∀ ja, yCS b n rp ia (zTn b n i) o c (l ++ ymp w) t ja → K (some (.int 0)) (ja, la, zRA pl dr cp cw (some rp))) : zWM (d + 4) 36 [.ref 1] (sa, la, zRA pl dr cp cw (some rp)) K := by
  obtain ⟨w1, w2⟩ := ytw_a (r := 1) (t := 5 :: t) (show yrk 5 < 1 by decide) w hw
  rw [e36, b36_0, h.1.2.2.1, hk, S_rank (by decide), kS, b36_12, if_neg (show ¬ ¬ nI 6 = 6 by decide), h.2.2.2.2.2.1, if_neg (show ¬ nI (o + 1) ≤ 0 from nI_nle1 (b := 0) (by omega) (by omega))]
  refine C_settle (r := 1) (by decide) (by decide) rfl hrp h hs (by rw [w1]; exact hl) (fun ja hj => ?_)
  rw [w1, w2] at hj
  rw [List.length_append] at hs
  have hs : w.length + (t.length + 1) ≤ 72 := hs
  have h4 : ja 1 6 = nI (t.length + 1) := hj.2.2.2.1
  have h' : yCS b n rp ia i o c (l ++ ymp w) t (zu (zu ja 1 6 (nI t.length)) 1 7 (nI o)) := by
    have hr : rp = 6 ∨ rp = 39 := hrp
    obtain ⟨h1, h2, h3, _, h5, h6, h7, h8, h10, h11⟩ := hj
    have o1 : ∀ a, a ≠ 1 → zu (zu ja 1 6 (nI t.length)) 1 7 (nI o) a = ja a := fun a ha => by rw [zu_o ha, zu_o ha]
    have o2 : ∀ q, q ≠ 6 → q ≠ 7 → zu (zu ja 1 6 (nI t.length)) 1 7 (nI o) 1 q = ja 1 q := fun q g1 g2 => by rw [zu_k g2, zu_k g1]
    exact ⟨yTc_e h1 (fun k _ _ => by rw [o1 2 (by decide)]) (o1 3 (by decide)) (o1 4 (by decide)), by rw [o2 3 (by decide) (by decide)]; exact h2, by rw [o2 4 (by decide) (by decide)]; exact h3, by rw [zu_k (by decide), zu_eq], ySt_e t (fun j _ => by rw [o1 5 (by decide)]) h5.2.2, zu_eq _ _ _ _, by rw [o2 8 (by decide) (by decide)]; exact h7, by rw [o1 rp (by omega)]; exact h8, fun j hj => by rw [o1 (rp + 31) (by omega), o1 (rp + 32) (by omega)]; exact h10 j hj, yFq_u (yFq_u h11 (Or.inl ⟨rfl, by omega⟩)) (Or.inl ⟨rfl, by omega⟩)⟩
  rw [kN, b36_31, h4, np, zu_k (show (7 : Nat) ≠ 6 by decide), hj.2.2.2.2.2.1, np]
  refine C_take h' (by rw [hk]) hrp (fun jb hb => ?_)
  rw [kN, b36_83, if_pos (by decide)]
  exact hK _ hb
theorem C_hj {y : Nat} {u v : Int32} (hrp : zIsP rp) (h : yCS b n rp ia i o c l s sa) (hu : u = nI (zkN b n i)) (hv : v = nI y) (hy : 1 ≤ y ∧ y ≤ 6) (hs : s.length ≤ 72) (hl : l.length + (ytw y s).length ≤ 64) (h4 : y = 4 → ¬ ytop (ydw 5 s) = 4) (hE : c = 64 → ∀ ja, yCf rp ia (2, zTp b n i) ja → K none (ja, la, zRA pl dr cp cw (some rp))) (hK : c < 64 → ∀ ja, yCS b n rp ia i o (c + 1) (l ++ ymp (ytw y s)) (zkN b n i :: ydw y s) ja → K none (ja, la, zRA pl dr cp cw (some rp))) (hc : c ≤ 64) (h72 : c < 64 → (ydw y s).length < 72) : zWM (d + 3) 37 [.ref 1, .int u, .int v] (sa, la, zRA pl dr cp cw (some rp)) K := by
  obtain ⟨k4, _⟩ := yCS_k h
  obtain ⟨z1, z2⟩ := ytd (y := y) s
  have lz : (ytw (y + 1) s).length + (ytw y (ydw (y + 1) s)).length = (ytw y s).length := by rw [← z1, List.length_append]
  have lq := ydw_l (r := y + 1) s
  rw [e37, b37_0, hv, hu, ns]
  refine C_settle (r := y + 1) (by omega) (by omega) rfl hrp h hs (by omega) (fun ja hj => ?_)
  have cont : ∀ i3 : Int32, zWM (d + 2) 38 [.ref 1] (ja, la, zRA pl dr cp cw (some rp)) (zK (d + 3) 37 60 [some (.ref 1), some (.int (nI (zkN b n i))), some (.int (nI y)), some (.int i3)] [] K) := by
    intro i3
    by_cases c6 : c = 64
    · refine C_c64 hj c6 (by omega) (by rw [List.length_append, ymp_l]; omega) hrp (fun jb hb => ?_)
      rw [kN, b37_60]
      refine G_settle hrp hb (fun jc hc => ?_)
      rw [kN, b37_65]
      refine G_hold hc (fun jd hd => ?_)
      rw [kN, b37_70]
      exact hE c6 _ hd
    · refine C_cnt hj (by omega) hrp (fun jb hb => ?_)
      rw [kN, b37_60]
      refine C_settle (r := y) (by omega) (by omega) rfl hrp hb (by omega) (by rw [List.length_append, ymp_l]; omega) (fun jc hc => ?_)
      rw [List.append_assoc, ← ymp_a, z1, z2] at hc
      rw [kN, b37_65]
      refine C_hold hc rfl k4 (h72 (by omega)) hrp (fun jd hd => ?_)
      rw [kN, b37_70]
      exact hK (by omega) _ hd
  rw [kN, b37_7, hj.2.2.2.1]
  cases hw : ydw (y + 1) s with
  | nil =>
    rw [if_pos (show nI ([] : List Nat).length ≤ 0 by decide)]
    exact cont 0
  | cons k t =>
    rw [hw] at hj lq
    have lq : (ytw (y + 1) s).length + (t.length + 1) = s.length := lq
    obtain ⟨q1, q2, q3⟩ : ja 5 t.length = nI k ∧ k < 40 ∧ ySt t ja := hj.2.2.2.2.1
    have k6 := (yrk_i k).2.2.2.2.2.2
    show (if nI (t.length + 1) ≤ 0 then _ else (vp_in (nI (t.length + 1) - 1) 72 ∧ zWM (d + 2) 42 [.int (ja 5 (nI (t.length + 1) - 1).toNatClampNeg)] (ja, la, zRA pl dr cp cw (some rp)) (zK (d + 3) 37 28 [some (.ref 1), some (.int (nI (zkN b n i))), some (.int (nI y)), none] [] K)))
    rw [if_neg (show ¬ nI (t.length + 1) ≤ 0 from nI_nle1 (b := 0) (by omega) (by omega)), np, zg (by omega) (by omega), zcln (by omega), q1, S_rank (by omega), kS, b37_28]
    by_cases ey : yrk k = y
    · rw [if_neg (fun z => z (by rw [ey])), show (9 : Int32) = nI 9 from rfl, S_rank (by decide), kS, b37_48]
      have y4 : ¬ y = 4 := fun z => h4 z (by subst z; rw [hw]; exact ey)
      rw [if_pos (show ¬ nI y = nI (yrk 9) from fun z => y4 ((nI_eq (b := 4) (by omega) (by omega)).mp z))]
      exact cont 1
    · rw [if_pos (fun z => ey ((nI_eq (by omega) (by omega)).mp z))]
      exact cont 0
theorem C_hj4 {u v : Int32} (hrp : zIsP rp) (h : yCS b n rp ia i o c l s sa) (hu : u = nI (zkN b n i)) (hv : v = nI 4) (hs : s.length ≤ 72) (hl : l.length + (ytw 4 s).length ≤ 64) (h4 : ytop (ydw 5 s) = 4) (hE : ∀ ja, yCf rp ia (1, zTp b n i) ja → K none (ja, la, zRA pl dr cp cw (some rp))) : zWM (d + 3) 37 [.ref 1, .int u, .int v] (sa, la, zRA pl dr cp cw (some rp)) K := by
  obtain ⟨z1, z2⟩ := ytd (y := 4) s
  have lz : (ytw 5 s).length + (ytw 4 (ydw 5 s)).length = (ytw 4 s).length := by rw [← z1, List.length_append]
  have lq := ydw_l (r := 5) s
  rw [e37, b37_0, hv, hu, ns]
  refine C_settle (r := 5) (by omega) (by omega) rfl hrp h hs (by omega) (fun ja hj => ?_)
  rw [kN, b37_7, hj.2.2.2.1]
  cases hw : ydw 5 s with
  | nil => rw [hw] at h4; exact absurd h4 (by decide)
  | cons k t =>
    rw [hw] at hj lq h4
    have lq : (ytw 5 s).length + (t.length + 1) = s.length := lq
    have h4 : yrk k = 4 := h4
    obtain ⟨q1, q2, q3⟩ : ja 5 t.length = nI k ∧ k < 40 ∧ ySt t ja := hj.2.2.2.2.1
    show (if nI (t.length + 1) ≤ 0 then _ else (vp_in (nI (t.length + 1) - 1) 72 ∧ zWM (d + 2) 42 [.int (ja 5 (nI (t.length + 1) - 1).toNatClampNeg)] (ja, la, zRA pl dr cp cw (some rp)) (zK (d + 3) 37 28 [some (.ref 1), some (.int (nI (zkN b n i))), some (.int (nI 4)), none] [] K)))
    rw [if_neg (show ¬ nI (t.length + 1) ≤ 0 from nI_nle1 (b := 0) (by omega) (by omega)), np, zg (by omega) (by omega), zcln (by omega), q1, S_rank (by omega), kS, b37_28, h4, if_neg (fun z => z rfl), show (9 : Int32) = nI 9 from rfl, S_rank (by decide), kS, b37_48, if_neg (show ¬ ¬ nI 4 = nI (yrk 9) from fun z => z rfl)]
    refine C_fail hj rfl (by decide) (by decide) (by show t.length + 1 ≤ 72; omega) (by rw [List.length_append, ymp_l]; omega) (fun jb hb => ?_)
    rw [kN, b37_56]
    refine G_cnt hrp hb (fun jc hc => ?_)
    rw [kN, b37_60]
    refine G_settle hrp hc (fun jd hd => ?_)
    rw [kN, b37_65]
    refine G_hold hd (fun je he => ?_)
    rw [kN, b37_70]
    exact hE _ he
theorem C_sign {y : Nat} (hrp : zIsP rp) (h : yCS b n rp ia i o c l s sa) (hy : yrk (zkN b n i) = y) (h1 : 1 ≤ y) (h3 : ¬ y = 3) (hs : s.length ≤ 72) (hl : l.length + (ytw y s).length ≤ 64) (h4 : y = 4 → ¬ ytop (ydw 5 s) = 4) (hc : c ≤ 64) (h72 : c < 64 → (ydw y s).length < 72) (hE : c = 64 → ∀ v ja, yCf rp ia (2, zTp b n i) ja → K (some (.int v)) (ja, la, zRA pl dr cp cw (some rp))) (hK : c < 64 → ∀ ja, yCS b n rp ia (zTn b n i) o (c + 1) (l ++ ymp (ytw y s)) (zkN b n i :: ydw y s) ja → K (some (.int 1)) (ja, la, zRA pl dr cp cw (some rp))) : zWM (d + 4) 36 [.ref 1] (sa, la, zRA pl dr cp cw (some rp)) K := by
  obtain ⟨k4, _⟩ := yCS_k h
  have k6 := (yrk_i (zkN b n i)).2.2.2.2.2.2
  have n6 : ¬ zkN b n i = 6 := fun z => by rw [z] at hy; have : y = 0 := hy.symm; omega
  have n32 : ¬ zkN b n i = 32 := fun z => by rw [z] at hy; have : y = 3 := hy.symm; omega
  have m6 : ¬ nI (zkN b n i) = 6 := fun z => n6 ((nI_eq (b := 6) (by omega) (by omega)).mp z)
  rw [e36, b36_0, h.1.2.2.1, S_rank (by omega), kS, b36_12, if_pos m6, b36_54, hy, if_neg (show ¬ nI y = 0 from fun z => by have := (nI_eq (b := 0) (by omega) (by omega)).mp z; omega), if_pos (show ¬ nI (zkN b n i) = 32 from fun z => n32 ((nI_eq (b := 32) (by omega) (by omega)).mp z))]
  refine C_hj hrp h rfl rfl ⟨h1, by omega⟩ hs hl h4 (fun c6 ja hj => ?_) (fun c6 ja hj => ?_) hc h72
  · rw [kN, b36_78, G_take (yCf_n hj), kN, b36_83, if_neg m6]
    exact hE c6 _ _ hj
  · rw [kN, b36_78]
    refine C_take hj rfl hrp (fun jb hb => ?_)
    rw [kN, b36_83, if_neg m6]
    exact hK c6 _ hb
theorem C_block (hrp : zIsP rp) (h : yCS b n rp ia i o c l s sa) (ho : o ≤ 8) (hk : (yrk (zkN b n i) = 0 ∧ ¬ (zkN b n i = 6 ∧ 0 < o)) ∨ zkN b n i = 32 ∨ (yrk (zkN b n i) = 4 ∧ ytop (ydw 5 s) = 4)) (hs : s.length ≤ 72) (hl : l.length ≤ 64) (hl4 : yrk (zkN b n i) = 4 → l.length + (ytw 4 s).length ≤ 64) (hE : ∀ v ja, yCf rp ia (1, zTp b n i) ja → K (some (.int v)) (ja, la, zRA pl dr cp cw (some rp))) : zWM (d + 4) 36 [.ref 1] (sa, la, zRA pl dr cp cw (some rp)) K := by
  obtain ⟨k4, _⟩ := yCS_k h
  have k6 := (yrk_i (zkN b n i)).2.2.2.2.2.2
  have n6 : nI (zkN b n i) = 6 ↔ zkN b n i = 6 := nI_eq (b := 6) (by omega) (by omega)
  have n32 : nI (zkN b n i) = 32 ↔ zkN b n i = 32 := nI_eq (b := 32) (by omega) (by omega)
  have e83 : ∀ (i2 : Int32) (ja : Nat → Nat → Int32), yCf rp ia (1, zTp b n i) ja → zWM (d + 3) 24 [.ref 1, .int (nI (zkN b n i))] (ja, la, zRA pl dr cp cw (some rp)) (zK (d + 4) 36 83 [some (.ref 1), some (.int (nI (zkN b n i))), some (.int i2)] [] K) := by
    intro i2 ja hj
    rw [G_take (yCf_n hj), kN, b36_83]
    split <;> exact hE _ _ hj
  have fl : ∀ i2 : Int32, zWM (d + 3) 23 [.ref 1, .int 1] (sa, la, zRA pl dr cp cw (some rp)) (zK (d + 4) 36 69 [some (.ref 1), some (.int (nI (zkN b n i))), some (.int i2)] [] K) := fun i2 =>
    C_fail h rfl (by decide) (by decide) hs hl (fun ja hj => by rw [kN, b36_69]; exact e83 _ _ hj)
  have e54 : zWP (d + 4) 36 54 [some (.ref 1), some (.int (nI (zkN b n i))), some (.int (nI (yrk (zkN b n i))))] [] (sa, la, zRA pl dr cp cw (some rp)) K := by
    rw [b36_54]
    by_cases r0 : yrk (zkN b n i) = 0
    · rw [if_pos (by rw [r0]; rfl)]; exact fl _
    rw [if_neg (show ¬ nI (yrk (zkN b n i)) = 0 from fun z => r0 ((nI_eq (b := 0) (by omega) (by omega)).mp z))]
    by_cases k32 : zkN b n i = 32
    · rw [if_neg (show ¬ ¬ nI (zkN b n i) = 32 from fun z => z (n32.mpr k32))]; exact fl _
    rw [if_pos (show ¬ nI (zkN b n i) = 32 from fun z => k32 (n32.mp z))]
    obtain ⟨y1, y2⟩ : yrk (zkN b n i) = 4 ∧ ytop (ydw 5 s) = 4 := by
      rcases hk with z | z | z
      · exact absurd z.1 r0
      · exact absurd z k32
      · exact z
    refine C_hj4 hrp h rfl (by rw [y1]) hs (hl4 y1) y2 (fun ja hj => ?_)
    rw [kN, b36_78]; exact e83 _ _ hj
  rw [e36, b36_0, h.1.2.2.1, S_rank (by omega), kS, b36_12]
  by_cases c6 : zkN b n i = 6
  · have o0 : o = 0 := by
      rcases hk with z | z | z
      · omega
      · omega
      · rw [c6] at z; exact absurd z.1 (by decide)
    rw [if_neg (show ¬ ¬ nI (zkN b n i) = 6 from fun z => z (n6.mpr c6)), h.2.2.2.2.2.1, if_pos (show nI o ≤ 0 by rw [o0]; decide)]
    exact e54
  · rw [if_pos (show ¬ nI (zkN b n i) = 6 from fun z => c6 (n6.mp z))]
    exact e54
end ZP
