/-! a text that is read is a plan of both -/
theorem yck_z {p : Nat → Nat → Int32} : ∀ (m : List (Nat × Nat)) (k d : Nat), (∀ j, j < m.length → p 31 (k + j) = nI (m.getD j (0, 0)).1 ∧ (m.getD j (0, 0)).1 < 100) → yck m d → zchk p m.length k d := by
  intro m
  induction m with
  | nil => intro k d _ h; exact h
  | cons x r ih =>
    intro k d hp h
    obtain ⟨h1, h2⟩ := hp 0 (Nat.zero_lt_succ _)
    have h1 : p 31 k = nI x.1 := h1
    have h2 : x.1 < 100 := h2
    have hr : ∀ j, j < r.length → p 31 (k + 1 + j) = nI (r.getD j (0, 0)).1 ∧ (r.getD j (0, 0)).1 < 100 := fun j hj => by
      have := hp (j + 1) (Nat.succ_lt_succ hj)
      rw [show k + (j + 1) = k + 1 + j by omega] at this
      exact this
    have h : (if x.1 = 2 ∨ 33 ≤ x.1 then yck r (d + 1) else if x.1 = 32 then 0 < d ∧ yck r d else 1 < d ∧ yck r (d - 1)) := h
    show (if p 31 k = 2 ∨ ¬ p 31 k < 33 then zchk p r.length (k + 1) (d + 1) else if p 31 k = 32 then 0 < d ∧ zchk p r.length (k + 1) d else 1 < d ∧ zchk p r.length (k + 1) (d - 1))
    rw [h1]
    by_cases c1 : x.1 = 2 ∨ 33 ≤ x.1
    · rw [if_pos c1] at h
      rw [if_pos (show nI x.1 = 2 ∨ ¬ nI x.1 < 33 by
        rcases c1 with c | c
        · exact Or.inl (by rw [c]; rfl)
        · exact Or.inr (nI_nlt (b := 33) c (by omega)))]
      exact ih _ _ hr h
    · rw [if_neg c1] at h
      rw [if_neg (show ¬ (nI x.1 = 2 ∨ ¬ nI x.1 < 33) by
        rintro (c | c)
        · exact c1 (Or.inl ((nI_eq (b := 2) (by omega) (by omega)).mp c))
        · exact c (nI_lt (b := 33) (by omega) (by omega)))]
      by_cases c2 : x.1 = 32
      · rw [if_pos c2] at h
        rw [if_pos (show nI x.1 = 32 by rw [c2]; rfl)]
        exact ⟨h.1, ih _ _ hr h.2⟩
      · rw [if_neg c2] at h
        rw [if_neg (show ¬ nI x.1 = 32 from fun z => c2 ((nI_eq (b := 32) (by omega) (by omega)).mp z))]
        exact ⟨h.1, ih _ _ hr h.2⟩
theorem ygetD_m {u m v : List (Nat × Nat)} {j : Nat} (hj : j < m.length) : (u ++ (m ++ v)).getD (u.length + j) (0, 0) = m.getD j (0, 0) := by
  rw [List.getD_eq_getElem?_getD, List.getD_eq_getElem?_getD, List.getElem?_append_right (by omega), show u.length + j - u.length = j by omega, List.getElem?_append_left hj]
theorem ygetD_k {l : List (Nat × Nat)} {j : Nat} (h : ∀ k ∈ l, yokk k) (hj : j < l.length) : yokk (l.getD j (0, 0)) := by
  rw [List.getD_eq_getElem?_getD, List.getElem?_eq_getElem hj]
  exact h _ (List.getElem_mem hj)
theorem yokk_z {k : Nat × Nat} (h : yokk k) : zkk (nI k.1) := by
  rcases h with h | h | h | h
  · exact Or.inl (by rw [h.1]; rfl)
  · exact Or.inr (Or.inl ⟨nI_le1 (a := 7) h.1 (by omega), nI_le1 (b := 16) h.2 (by omega)⟩)
  · exact Or.inr (Or.inr (Or.inl ⟨nI_le1 (a := 30) h.1 (by omega), nI_le1 (b := 32) h.2 (by omega)⟩))
  · exact Or.inr (Or.inr (Or.inr ⟨k.1 - 33, by omega, by congr 1; omega⟩))
theorem ylw_b {P : Nat → Nat → Nat} {l : List (Nat × Nat)} {r : Nat} (h : ylw P l r) : P 29 r ≤ P 30 r ∧ P 30 r ≤ l.length := by
  obtain ⟨u, m, v, q1, q2, q3, _⟩ := h
  have : l.length = u.length + (m.length + v.length) := by rw [q1, List.length_append, List.length_append]
  omega
section ZP
variable {n rp ln i N L T t : Nat} {b : Nat → Nat} {s9 sa : Nat → Nat → Int32} {P : Nat → Nat → Nat} {l : List (Nat × Nat)}
theorem yPk_c (h : yCLs b n rp s9 (i, N, L, T, t, P, l) ln sa) (w : yWf (i, N, L, T, t, P, l)) : zPk (fun g => sa (rp + g)) N L T := by
  obtain ⟨⟨w1, w2, w3, w4, w5, w6⟩, w7, w8, w9, w10, w11, w12, w13⟩ := w
  dsimp only at w1 w2 w3 w4 w5 w6 w7 w8 w9 w10 w11 w12 w13
  obtain ⟨h1, h2, h3, h4, h5, h6, h7, h8, h9, h10, h11, h12, h13⟩ := h
  dsimp only at h5 h6 h7 h8 h9 h10 h11 h12
  refine ⟨h7, w1, h8, w2, h9, w3, fun k hk => ?_, fun k hk => ?_, fun r hr => ?_, ⟨P 28 0, w11.1, ?_⟩, ⟨P 28 1, w11.2.1, ?_⟩, ⟨P 28 2, w11.2.2, ?_⟩, fun k hk => ⟨P 2 k, w7 k hk, ?_⟩, fun k hk => ⟨P 3 k, w8 k hk, ?_⟩⟩
  · obtain ⟨x1, x2, x3, x4, x5, x6, x7⟩ := w9 k hk
    have d : ∀ j, j < 5 → sa (rp + (5 + k)) j = nI (P (5 + k) j) := fun j hj => (h11 (5 + k) j (Or.inr (Or.inr (Or.inr (Or.inl ⟨by omega, by omega, hj⟩))))).2
    exact ⟨_, _, _, _, _, x1, x2, x3, x4, x5, x6, x7, d 0 (by decide), d 1 (by decide), d 2 (by decide), d 3 (by decide), d 4 (by decide)⟩
  · obtain ⟨x1, x2, x3⟩ := w10 k hk
    have d : ∀ j, j < 3 → sa (rp + (16 + k)) j = nI (P (16 + k) j) := fun j hj => (h11 (16 + k) j (Or.inr (Or.inr (Or.inr (Or.inr (Or.inl ⟨by omega, by omega, hj⟩)))))).2
    exact ⟨_, _, _, x1, x2, x3, d 0 (by decide), d 1 (by decide), d 2 (by decide)⟩
  · have lb := ylw_b (w12 r hr)
    refine ⟨P 29 r, P 30 r, lb.1, by omega, (h11 29 r (Or.inr (Or.inr (Or.inr (Or.inr (Or.inr ⟨by decide, by decide, hr⟩)))))).2, (h11 30 r (Or.inr (Or.inr (Or.inr (Or.inr (Or.inr ⟨by decide, by decide, hr⟩)))))).2, fun j j1 j2 => ?_⟩
    show zkk (sa (rp + 31) j)
    rw [(h12 j (by omega)).1]
    exact yokk_z (ygetD_k w13 (by omega))
  · exact (h11 28 0 (Or.inr (Or.inr (Or.inr (Or.inr (Or.inr ⟨by decide, by decide, by decide⟩)))))).2
  · exact (h11 28 1 (Or.inr (Or.inr (Or.inr (Or.inr (Or.inr ⟨by decide, by decide, by decide⟩)))))).2
  · exact (h11 28 2 (Or.inr (Or.inr (Or.inr (Or.inr (Or.inr ⟨by decide, by decide, by decide⟩)))))).2
  · exact (h11 2 k (Or.inr (Or.inl ⟨rfl, hk⟩))).2
  · exact (h11 3 k (Or.inr (Or.inr (Or.inl ⟨rfl, hk⟩)))).2
theorem yPR_c {s8 sb G X : Nat → Nat → Int32} {ln' : Nat} (h : yCLs b n rp s9 (i, N, L, T, t, P, l) ln sa) (w : yWf (i, N, L, T, t, P, l)) (hm : yMLs b n s8 (i, N, L, T, t, P, l) ln' sb) (hX : ∀ c k, c ≠ 127 → X c k = sb c k) (hG : yHv 145 X G) : zPR (fun g => sa (rp + g)) G N L T := by
  obtain ⟨⟨w1, w2, w3, w4, w5, w6⟩, w7, w8, w9, w10, w11, w12, w13⟩ := w
  dsimp only at w1 w2 w3 w4 w5 w6 w7 w8 w9 w10 w11 w12 w13
  obtain ⟨h1, h2, h3, h4, h5, h6, h7, h8, h9, h10, h11, h12, h13⟩ := h
  dsimp only at h5 h6 h7 h8 h9 h10 h11 h12
  obtain ⟨m1, m2, m3, m4, m5, m6, m7, m8, m9, m10, m11, m12, m13, m14⟩ := hm
  dsimp only at m7 m8 m9 m10 m11 m12 m13
  have g : ∀ c k, 129 ≤ c → c ≤ 144 → k < yhf c → G c k = sb c (yhf c + k) := fun c k q1 q2 q3 => by rw [hG, if_pos ⟨q1, by omega, q3⟩, hX _ _ (by omega)]
  have e : ∀ g k, yDm N L T g k → sb (ymc1 g k) (ymc2 g k) = sa (rp + g) k := fun g k hg => by rw [(m12 g k hg).2, (h11 g k hg).2]
  have d28 : ∀ k, k < 3 → yDm N L T 28 k := fun k hk => Or.inr (Or.inr (Or.inr (Or.inr (Or.inr ⟨by decide, by decide, hk⟩))))
  refine ⟨?_, ?_, ?_, ?_, ?_, ?_, ?_, fun k hk => ?_, fun k hk => ?_, fun k hk => ?_, fun k hk => ?_, fun k hk => ?_, fun r hr => ?_⟩
  · rw [g 129 0 (by decide) (by decide) (by decide)]; exact m8
  · rw [g 129 1 (by decide) (by decide) (by decide)]; exact m9
  · rw [g 129 2 (by decide) (by decide) (by decide)]; exact m10
  · rw [g 129 3 (by decide) (by decide) (by decide)]; exact e 28 0 (d28 0 (by decide))
  · rw [g 129 4 (by decide) (by decide) (by decide)]; exact e 28 1 (d28 1 (by decide))
  · rw [g 129 5 (by decide) (by decide) (by decide)]; exact e 28 2 (d28 2 (by decide))
  · rw [g 129 6 (by decide) (by decide) (by decide)]
    show sb 129 13 = sa rp 4
    rw [m11, h10]
  · rw [g 130 k (by decide) (by decide) (by show k < 6; omega)]; exact e 1 k (Or.inl ⟨rfl, hk⟩)
  · rw [g 131 k (by decide) (by decide) (by show k < 18; omega)]; exact e 2 k (Or.inr (Or.inl ⟨rfl, hk⟩))
  · rw [g 132 k (by decide) (by decide) (by show k < 6; omega)]; exact e 3 k (Or.inr (Or.inr (Or.inl ⟨rfl, hk⟩)))
  · have d5 : ∀ j, j < 5 → G (133 + j) k = sa (rp + (5 + k)) j := by
      intro j hj
      have y10 : yhf (133 + j) = 10 := by unfold yhf; rw [if_neg (by omega), if_neg (by omega), if_neg (by omega), if_neg (by omega), if_pos (by omega)]
      have e5 := e (5 + k) j (Or.inr (Or.inr (Or.inr (Or.inl ⟨by omega, by omega, hj⟩))))
      have v : ymc1 (5 + k) j = 133 + j ∧ ymc2 (5 + k) j = 10 + k := by
        constructor
        · unfold ymc1; rw [if_neg (by omega), if_neg (by omega), if_neg (by omega), if_pos (by omega)]
        · unfold ymc2; rw [if_neg (by omega), if_neg (by omega), if_neg (by omega), if_pos (by omega)]; omega
      rw [v.1, v.2] at e5
      rw [g (133 + j) k (by omega) (by omega) (by rw [y10]; omega), y10]; exact e5
    exact ⟨d5 0 (by decide), d5 1 (by decide), d5 2 (by decide), d5 3 (by decide), d5 4 (by decide)⟩
  · have d3 : ∀ j, j < 3 → G (138 + j) k = sa (rp + (16 + k)) j := by
      intro j hj
      have y12 : yhf (138 + j) = 12 := by unfold yhf; rw [if_neg (by omega), if_neg (by omega), if_neg (by omega), if_neg (by omega), if_neg (by omega), if_pos (by omega)]
      have e5 := e (16 + k) j (Or.inr (Or.inr (Or.inr (Or.inr (Or.inl ⟨by omega, by omega, hj⟩)))))
      have v : ymc1 (16 + k) j = 138 + j ∧ ymc2 (16 + k) j = 12 + k := by
        constructor
        · unfold ymc1; rw [if_neg (by omega), if_neg (by omega), if_neg (by omega), if_neg (by omega), if_pos (by omega)]
        · unfold ymc2; rw [if_neg (by omega), if_neg (by omega), if_neg (by omega), if_neg (by omega), if_pos (by omega)]; omega
      rw [v.1, v.2] at e5
      rw [g (138 + j) k (by omega) (by omega) (by rw [y12]; omega), y12]; exact e5
    exact ⟨d3 0 (by decide), d3 1 (by decide), d3 2 (by decide)⟩
  · have d29 : yDm N L T 29 r := Or.inr (Or.inr (Or.inr (Or.inr (Or.inr ⟨by decide, by decide, hr⟩))))
    have d30 : yDm N L T 30 r := Or.inr (Or.inr (Or.inr (Or.inr (Or.inr ⟨by decide, by decide, hr⟩))))
    have lb := ylw_b (w12 r hr)
    have z29 : zct (sa (rp + 29) r) = P 29 r := by rw [(h11 29 r d29).2]; exact zcln (by omega)
    have z30 : zct (sa (rp + 30) r) = P 30 r := by rw [(h11 30 r d30).2]; exact zcln (by omega)
    refine ⟨?_, ?_, fun j j1 j2 => ?_, fun _ => ?_⟩
    · rw [g 141 r (by decide) (by decide) (by show r < 3; omega)]; exact e 29 r d29
    · rw [g 142 r (by decide) (by decide) (by show r < 3; omega)]; exact e 30 r d30
    · dsimp only at j1 j2 ⊢
      rw [z29] at j1
      rw [z30] at j2
      rw [g 143 j (by decide) (by decide) (by show j < 64; omega), g 144 j (by decide) (by decide) (by show j < 64; omega), (h12 j (by omega)).1, (h12 j (by omega)).2]
      exact m13 j (by omega)
    · rename_i hlt
      dsimp only at hlt ⊢
      rw [z29, z30] at hlt ⊢
      obtain ⟨u, m, v, q1, q2, q3, q4⟩ := w12 r hr
      have ml : m.length = P 30 r - P 29 r := by omega
      rw [← ml]
      have mn : m ≠ [] := fun z => by rw [z] at ml; have : 0 = P 30 r - P 29 r := ml; omega
      refine yck_z m (P 29 r) 0 (fun j hj => ?_) (q4 mn)
      have hj2 : P 29 r + j < l.length := by omega
      have gm : l.getD (P 29 r + j) (0, 0) = m.getD j (0, 0) := by rw [q1, ← q2]; exact ygetD_m hj
      show sa (rp + 31) (P 29 r + j) = _ ∧ _
      rw [(h12 _ hj2).1, gm]
      refine ⟨rfl, ?_⟩
      have := ygetD_k w13 hj2
      rw [gm] at this
      rcases this with z | z | z | z <;> omega
end ZP
