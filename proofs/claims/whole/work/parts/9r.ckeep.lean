/-! what runs over the first nn cells leave alone -/
theorem ckd_lt {nn k t : Nat} (h : ckd nn k = t) (ht : t ≠ 999) : k < nn := by
  apply Nat.not_le.mp
  intro q
  apply ht
  rw [← h]
  unfold ckd
  rw [List.getD_eq_getElem?_getD, List.getElem?_eq_none (by rw [List.length_take]; omega)]
  rfl
def cS (nn : Nat) (hp hp' : zHP) : Prop := ∀ o, nn ≤ o → hp'.1 o = hp.1 o ∧ hp'.2.1 o = hp.2.1 o ∧ hp'.2.2 o = hp.2.2 o
theorem cS_r {nn : Nat} (hp : zHP) : cS nn hp hp := fun _ _ => ⟨rfl, rfl, rfl⟩
theorem cS_t {nn : Nat} {a b c : zHP} (h : cS nn a b) (h2 : cS nn b c) : cS nn a c := fun o ho => ⟨(h2 o ho).1.trans (h o ho).1, (h2 o ho).2.1.trans (h o ho).2.1, (h2 o ho).2.2.trans (h o ho).2.2⟩
theorem cS_e {nn : Nat} {hp hp' : zHP} (h : hp' = hp) : cS nn hp hp' := by rw [h]; exact cS_r hp
theorem cu9 {α : Type} {nn : Nat} {f : Nat → Nat → α} {a k t : Nat} {x : α} (h : ckd nn a = t) (ht : t ≠ 999) : ∀ o, nn ≤ o → zu f a k x o = f o := fun o ho => zu_o (by have := ckd_lt h ht; omega)
section ZS
variable {nn c pc i k w : Nat} {ls : zLs} {st : List Value} {hp : zHP} {r : Nat × zLs × List Value × zHP}
theorem cget_9 {o ci j : Nat} (h : cget nn pc ls st hp o ci j = some r) : r.2.2.2 = hp := by
  unfold cget at h
  split at h
  · split at h
    · cases h; rfl
    · cases h; rfl
    · cases h; rfl
    · split at h
      · cases h; rfl
      · cases h
    · cases h
  · cases h
theorem cput_9 {o ci j : Nat} {v : Value} (hci : ci < 100) (h : cput nn pc ls st hp v o ci j = some r) : cS nn hp r.2.2.2 := by
  unfold cput at h
  split at h
  next hk =>
    split at h
    · cases h; exact fun q hq => ⟨cu9 hk.1 (by omega) q hq, rfl, rfl⟩
    · split at h
      · cases h; exact fun q hq => ⟨cu9 hk.1 (by omega) q hq, rfl, rfl⟩
      · cases h
    · cases h; exact fun q hq => ⟨rfl, cu9 hk.1 (by omega) q hq, rfl⟩
    · cases h; exact fun q hq => ⟨rfl, rfl, cu9 hk.1 (by omega) q hq⟩
    · cases h
  · cases h
theorem cact_9 {ins : Instr} (h : cact nn c pc ins ls st hp = some r) : cS nn hp r.2.2.2 := by
  unfold cact at h
  split at h
  all_goals first
    | (cases h <;> exact cS_r hp)
    | exact cS_e (zld_9 h)
    | exact cS_e (zsto_9 h)
    | exact cS_e (zstl_9 h)
    | exact cS_e (zi2_9 h)
    | exact cS_e (zl2_9 h)
    | exact cS_e (zi1_9 h)
    | exact cS_e (zl1_9 h)
    | exact cS_e (ztg_9 h)
    | (split at h
       all_goals first
         | (cases h <;> exact cS_r hp)
         | exact cS_e (ztg_9 h)
         | exact cS_e (cget_9 h)
         | (exact cput_9 (zfl_c (by assumption)) h)
         | (split at h
            all_goals first
              | (cases h <;> exact cS_r hp)
              | exact cS_e (ztg_9 h)
              | (rename_i hk; cases h <;> exact fun q hq => ⟨cu9 hk.1 (by decide) q hq, rfl, rfl⟩)
              | (rename_i hk; cases h <;> exact fun q hq => ⟨rfl, cu9 hk.1 (by decide) q hq, rfl⟩)
              | (rename_i hk; cases h <;> rcases hk.1 with hk | hk <;> exact fun q hq => ⟨cu9 hk (by decide) q hq, rfl, rfl⟩)
              | (split at h
                 all_goals first
                   | (cases h <;> exact cS_r hp)
                   | exact cS_e (ztg_9 h))))
theorem cbi_9 {y : Nat} {as : List Value} {q : Option Value × zHP} (h : cbi nn y as hp = some q) : cS nn hp q.2 := by
  unfold cbi at h
  split at h
  · split at h
    · cases h; exact cS_r hp
    · cases h
  split at h
  · split at h
    · split at h
      · cases h; exact cS_r hp
      · cases h
    · cases h
  split at h
  · split at h
    · split at h
      next hk =>
        cases h
        intro o ho
        refine ⟨?_, rfl, rfl⟩
        have z := ckd_lt hk.2.1 (by decide)
        show va_up hp.1 _ _ o = _
        unfold va_up
        rw [if_neg (by omega)]
      · cases h
    · cases h
  iterate 6
    (split at h
     · split at h
       · cases h; exact cS_r hp
       · cases h)
  cases h
end ZS
theorem cEv_9 {nn : Nat} : ∀ (n d M pc : Nat) (ls : zLs) (st : List Value) (hp : zHP) (r : Option Value × zHP), cEv nn n d M pc ls st hp = some r → cS nn hp r.2 := by
  intro n
  induction n with
  | zero => intro d M pc ls st hp r h; cases h
  | succ n ih =>
    intro d M pc ls st hp r h
    unfold cEv at h
    cases hm : zmt[M]? with
    | none => rw [hm] at h; cases h
    | some mi =>
      rw [hm] at h
      dsimp only at h
      cases hx : zexit M pc ls st with
      | some v => rw [hx] at h; cases h; exact cS_r hp
      | none =>
        rw [hx] at h
        dsimp only at h
        cases hd : dzF M pc with
        | none => rw [hd] at h; cases h
        | some il =>
          obtain ⟨i, len⟩ := il
          rw [hd] at h
          dsimp only at h
          by_cases hl : zlen i len = true
          · rw [if_pos hl] at h
            rw [cactF_eq] at h
            cases ha : cact nn mi.2.2.2.2 pc i ls st hp with
            | some r1 => rw [ha] at h; dsimp only at h; rw [frcS_eq] at h; exact cS_t (cact_9 ha) (ih _ _ _ _ _ _ _ h)
            | none =>
              rw [ha] at h
              dsimp only at h
              cases hr : zrt mi.2.2.2.1 i st with
              | some v => rw [hr] at h; cases h; exact cS_r hp
              | none =>
                rw [hr] at h
                dsimp only at h
                cases hc : ccx nn mi.2.2.2.2 i st with
                | none => rw [hc] at h; cases h
                | some q =>
                  rw [hc] at h
                  dsimp only at h
                  cases hb : cbi nn q.1 q.2.1 hp with
                  | some w =>
                    rw [hb] at h
                    dsimp only at h
                    by_cases h5 : 5 ≤ d
                    · rw [if_pos h5, frcN_eq] at h; exact cS_t (cbi_9 hb) (ih _ _ _ _ _ _ _ h)
                    · rw [if_neg h5] at h; cases h
                  | none =>
                    rw [hb] at h
                    dsimp only at h
                    cases d with
                    | zero => cases hz : zmt[q.1]? <;> rw [hz] at h <;> cases h
                    | succ d =>
                      cases hz : zmt[q.1]? with
                      | none => rw [hz] at h; cases h
                      | some my =>
                        rw [hz] at h
                        dsimp only at h
                        by_cases h9 : q.1 < 241 ∧ (zent my.2.2.1 q.2.1).length = my.2.2.1
                        · rw [if_pos h9] at h
                          cases he : cEv nn n d q.1 0 (zent my.2.2.1 q.2.1) [] hp with
                          | none => rw [he] at h; cases h
                          | some w =>
                            rw [he] at h
                            dsimp only at h
                            rw [frcN_eq] at h
                            exact cS_t (ih _ _ _ _ _ _ _ he) (ih _ _ _ _ _ _ _ h)
                        · rw [if_neg h9] at h; cases h
          · rw [if_neg hl] at h; cases h
/-- zero from cell nn on -/
def cZ (nn : Nat) (hp : zHP) : Prop := ∀ o, nn ≤ o → o < 900 → ∀ j, hp.1 o j = 0 ∧ hp.2.1 o j = 0 ∧ hp.2.2 o j = none
theorem cZ_S {nn : Nat} {hp hp' : zHP} (h : cZ nn hp) (hs : cS nn hp hp') : cZ nn hp' := by
  intro o h1 h2 j
  obtain ⟨a, b, c⟩ := hs o h1
  rw [a, b, c]
  exact h o h1 h2 j
theorem cZ_m {nn n2 : Nat} {hp : zHP} (h : cZ nn hp) (hl : nn ≤ n2) : cZ n2 hp := fun o h1 h2 j => h o (Nat.le_trans hl h1) h2 j
theorem cZ_row {nn N : Nat} {hp : zHP} (h : cZ nn hp) : cZ (nn + (1 + N)) (cRow hp nn N) := by
  intro o h1 h2 j
  obtain ⟨a, b, c⟩ := h o (by omega) h2 j
  refine ⟨a, b, ?_⟩
  show (if o = nn then _ else hp.2.2 o j) = none
  rw [if_neg (by omega)]
  exact c
theorem zSH_len : zSH.length = 170 := by decide +kernel
theorem zSH_lt {k : Nat} {q : Nat × Nat} (h : zSH[k]? = some q) : k < 170 := by
  have := (List.getElem?_eq_some_iff.mp h).1
  rw [zSH_len] at this
  exact this
/-- the instructions of its own: what becomes of the cells -/
theorem cJ_9 {d ci nn len : Nat} {i : Instr} {st : List Value} {hp : zHP} {r : List Value × Nat × zHP} (h : cJ d ci nn i len st hp = some r) (hz : cZ nn hp) (hn : nn ≤ 170) : nn ≤ r.2.1 ∧ r.2.1 ≤ 170 ∧ cZ r.2.1 r.2.2 := by
  unfold cJ at h
  split at h
  · split at h
    · split at h
      next hk => cases h; exact ⟨Nat.le_succ _, zSH_lt hk.2, cZ_m hz (Nat.le_succ _)⟩
      · cases h
    · cases h
  · split at h
    · split at h
      next hk => cases h; exact ⟨Nat.le_succ _, zSH_lt hk.2.1, cZ_m hz (Nat.le_succ _)⟩
      · cases h
    · cases h
  · split at h
    · split at h
      next hk => cases h; exact ⟨by simp, by have := hk.2.2.2.2.2.2.2.1; show nn + (1 + _) ≤ 170; omega, cZ_row hz⟩
      · cases h
    · cases h
  · split at h
    · split at h
      · cases h; exact ⟨Nat.le_refl _, hn, hz⟩
      · cases h
    · cases h
  · split at h
    next q o rr ck j hzf =>
      split at h
      next hk =>
        cases h
        have h11 := (zfl_spec hzf).1
        refine ⟨Nat.le_refl _, hn, cZ_S hz (fun o2 ho2 => ⟨rfl, rfl, cu9 hk.2.1 (by omega) o2 ho2⟩)⟩
      · cases h
    · cases h
  · split at h
    · cases h; exact ⟨Nat.le_refl _, hn, hz⟩
    · cases h
  · split at h
    · split at h
      · cases h; exact ⟨Nat.le_refl _, hn, hz⟩
      · cases h
    · split at h
      · cases h; exact ⟨Nat.le_refl _, hn, hz⟩
      · cases h
    · cases h
  · cases h
theorem cI_9 : ∀ (n d ci pc : Nat) (ls : zLs) (st : List Value) (nn : Nat) (hp : zHP) (r : Nat × zHP), cI n d ci pc ls st nn hp = some r → cZ nn hp → nn ≤ 170 → nn ≤ r.1 ∧ r.1 ≤ 170 ∧ cZ r.1 r.2 := by
  intro n
  induction n with
  | zero => intro d ci pc ls st nn hp r h; cases h
  | succ n ih =>
    intro d ci pc ls st nn hp r h hz hn
    unfold cI at h
    cases hm : cKs[ci]? with
    | none => rw [hm] at h; cases h
    | some mi =>
      rw [hm] at h
      dsimp only at h
      cases hd : dkF ci pc with
      | none => rw [hd] at h; cases h
      | some il =>
        obtain ⟨i, len⟩ := il
        rw [hd] at h
        dsimp only at h
        rw [cactF_eq] at h
        cases ha : cact nn ci pc i ls st hp with
        | some r1 =>
          rw [ha] at h
          dsimp only at h
          by_cases hl : zlen i len = true
          · rw [if_pos hl, frcS_eq] at h; exact ih _ _ _ _ _ _ _ _ h (cZ_S hz (cact_9 ha)) hn
          · rw [if_neg hl] at h; cases h
        | none =>
          rw [ha] at h
          dsimp only at h
          cases hj : cJ d ci nn i len st hp with
          | some r1 =>
            rw [hj] at h
            dsimp only at h
            rw [frcN_eq, frcN_eq] at h
            obtain ⟨a1, a2, a3⟩ := cJ_9 hj hz hn
            obtain ⟨b1, b2, b3⟩ := ih _ _ _ _ _ _ _ _ h a3 a2
            exact ⟨Nat.le_trans a1 b1, b2, b3⟩
          | none =>
            rw [hj] at h
            dsimp only at h
            cases hy : cY ci i len st with
            | some y =>
              rw [hy] at h
              dsimp only at h
              cases d with
              | zero => cases hk : cKs[y.1]? <;> rw [hk] at h <;> cases h
              | succ d =>
                cases hk : cKs[y.1]? with
                | none => rw [hk] at h; cases h
                | some my =>
                  rw [hk] at h
                  dsimp only at h
                  by_cases hl : (zent my.2.2.1 [.ref y.2.1]).length = my.2.2.1
                  · rw [if_pos hl] at h
                    cases he : cI n d y.1 0 (zent my.2.2.1 [.ref y.2.1]) [] nn hp with
                    | none => rw [he] at h; cases h
                    | some w =>
                      rw [he] at h
                      dsimp only at h
                      rw [frcN_eq, frcN_eq] at h
                      obtain ⟨a1, a2, a3⟩ := ih _ _ _ _ _ _ _ _ he hz hn
                      obtain ⟨b1, b2, b3⟩ := ih _ _ _ _ _ _ _ _ h a3 a2
                      exact ⟨Nat.le_trans a1 b1, b2, b3⟩
                  · rw [if_neg hl] at h; cases h
            | none =>
              rw [hy] at h
              dsimp only at h
              cases hr : zrt none i st with
              | some v =>
                rw [hr] at h
                dsimp only at h
                by_cases hl : zlen i len = true
                · rw [if_pos hl] at h; cases h; exact ⟨Nat.le_refl _, hn, hz⟩
                · rw [if_neg hl] at h; cases h
              | none =>
                rw [hr] at h
                dsimp only at h
                cases hc : ccx nn ci i st with
                | none => rw [hc] at h; cases h
                | some q =>
                  rw [hc] at h
                  dsimp only at h
                  cases d with
                  | zero => cases hk : zmt[q.1]? <;> rw [hk] at h <;> cases h
                  | succ d =>
                    cases hk : zmt[q.1]? with
                    | none => rw [hk] at h; cases h
                    | some my =>
                      rw [hk] at h
                      dsimp only at h
                      by_cases hl : zlen i len = true ∧ q.1 < 241 ∧ (zent my.2.2.1 q.2.1).length = my.2.2.1
                      · rw [if_pos hl] at h
                        cases he : cEv nn n d q.1 0 (zent my.2.2.1 q.2.1) [] hp with
                        | none => rw [he] at h; cases h
                        | some w =>
                          rw [he] at h
                          dsimp only at h
                          rw [frcN_eq] at h
                          exact ih _ _ _ _ _ _ _ _ h (cZ_S hz (cEv_9 _ _ _ _ _ _ _ _ he)) hn
                      · rw [if_neg hl] at h; cases h
