/-! runs over the first nn cells, as a function -/
/-! the same, worked out on the way (for the kernel) -/
def frcN {α : Type} (n : Nat) (k : Nat → α) : α := Nat.rec (motive := fun _ => α) (k 0) (fun m _ => k (Nat.succ m)) n
theorem frcN_eq {α : Type} (n : Nat) (k : Nat → α) : frcN n k = k n := by cases n <;> rfl
def frcI {α : Type} (x : Int32) (k : Int32 → α) : α := frcN x.toUInt32.toNat (fun n => k (Int32.ofUInt32 (UInt32.ofNat n)))
theorem frcI_eq {α : Type} (x : Int32) (k : Int32 → α) : frcI x k = k x := by
  unfold frcI
  rw [frcN_eq, UInt32.ofNat_toNat]
def frcV {α : Type} (v : Option Value) (k : Option Value → α) : α := match v with
  | some (.int x) => frcI x (fun y => k (some (.int y)))
  | v => k v
theorem frcV_eq {α : Type} (v : Option Value) (k : Option Value → α) : frcV v k = k v := by
  unfold frcV
  split
  · exact frcI_eq _ _
  · rfl
def frcL {α : Type} : zLs → (zLs → α) → α
  | [], k => k []
  | v :: t, k => frcV v (fun w => frcL t (fun u => k (w :: u)))
theorem frcL_eq {α : Type} : ∀ (l : zLs) (k : zLs → α), frcL l k = k l := by
  intro l
  induction l with
  | nil => intro k; rfl
  | cons v t ih =>
    intro k
    unfold frcL
    rw [frcV_eq, ih]
def cEv (nn : Nat) : Nat → Nat → Nat → Nat → zLs → List Value → zHP → Option (Option Value × zHP)
  | 0, _, _, _, _, _, _ => none
  | n + 1, d, M, pc, ls, st, hp =>
    match zmt[M]? with
    | none => none
    | some mi =>
      match zexit M pc ls st with
      | some v => some (v, hp)
      | none =>
      match decode mi.2.1 pc with
      | .error _ => none
      | .ok (i, len) =>
        if zlen i len = true then
          match cact nn mi.2.2.2.2 pc i ls st hp with
          | some r => frcN r.1 (fun pq => frcL r.2.1 (fun lq => cEv nn n d M pq lq r.2.2.1 r.2.2.2))
          | none =>
            match zrt mi.2.2.2.1 i st with
            | some v => some (v, hp)
            | none =>
              match ccx nn mi.2.2.2.2 i st with
              | none => none
              | some q =>
                match cbi nn q.1 q.2.1 hp with
                | some w => if 5 ≤ d then frcN (pc + 3) (fun pq => cEv nn n d M pq ls (w.1.toList ++ q.2.2) w.2) else none
                | none =>
                  match d, zmt[q.1]? with
                  | d' + 1, some my =>
                    if q.1 < 241 ∧ (zent my.2.2.1 q.2.1).length = my.2.2.1 then
                      match cEv nn n d' q.1 0 (zent my.2.2.1 q.2.1) [] hp with
                      | some w => frcN (pc + 3) (fun pq => cEv nn n d M pq ls (w.1.toList ++ q.2.2) w.2)
                      | none => none
                    else none
                  | _, _ => none
        else none
theorem cEv_ok {nn : Nat} : ∀ (n d M pc : Nat) (ls : zLs) (st : List Value) (hp : zHP) (r : Option Value × zHP) (K : Option Value → zHP → Prop), cEv nn n d M pc ls st hp = some r → K r.1 r.2 → cWn nn n d M pc ls st hp K := by
  intro n
  induction n with
  | zero => intro d M pc ls st hp r K h; cases h
  | succ n ih =>
    intro d M pc ls st hp r K h hK
    unfold cEv at h
    unfold cWn
    cases hm : zmt[M]? with
    | none => rw [hm] at h; cases h
    | some mi =>
      rw [hm] at h
      dsimp only at h ⊢
      cases hx : zexit M pc ls st with
      | some v => rw [hx] at h; cases h; exact hK
      | none =>
        rw [hx] at h
        dsimp only at h ⊢
        cases hd : decode mi.2.1 pc with
        | error _ => rw [hd] at h; cases h
        | ok il =>
          obtain ⟨i, len⟩ := il
          rw [hd] at h
          dsimp only at h ⊢
          by_cases hl : zlen i len = true
          · rw [if_pos hl] at h ⊢
            cases ha : cact nn mi.2.2.2.2 pc i ls st hp with
            | some r1 => rw [ha] at h; dsimp only at h; rw [frcN_eq, frcL_eq] at h; exact ih _ _ _ _ _ _ _ _ h hK
            | none =>
              rw [ha] at h
              dsimp only at h ⊢
              cases hr : zrt mi.2.2.2.1 i st with
              | some v => rw [hr] at h; cases h; exact hK
              | none =>
                rw [hr] at h
                dsimp only at h ⊢
                cases hc : ccx nn mi.2.2.2.2 i st with
                | none => rw [hc] at h; cases h
                | some q =>
                  rw [hc] at h
                  dsimp only at h ⊢
                  cases hb : cbi nn q.1 q.2.1 hp with
                  | some w =>
                    rw [hb] at h
                    dsimp only at h ⊢
                    by_cases h5 : 5 ≤ d
                    · rw [if_pos h5, frcN_eq] at h; exact ⟨h5, ih _ _ _ _ _ _ _ _ h hK⟩
                    · rw [if_neg h5] at h; cases h
                  | none =>
                    rw [hb] at h
                    dsimp only at h ⊢
                    cases d with
                    | zero => cases hz : zmt[q.1]? <;> rw [hz] at h <;> cases h
                    | succ d =>
                      cases hz : zmt[q.1]? with
                      | none => rw [hz] at h; cases h
                      | some my =>
                        rw [hz] at h
                        dsimp only at h ⊢
                        by_cases h9 : q.1 < 241 ∧ (zent my.2.2.1 q.2.1).length = my.2.2.1
                        · rw [if_pos h9] at h
                          cases he : cEv nn n d q.1 0 (zent my.2.2.1 q.2.1) [] hp with
                          | none => rw [he] at h; cases h
                          | some w =>
                            rw [he] at h
                            dsimp only at h
                            rw [frcN_eq] at h
                            exact ⟨h9.1, h9.2, ih _ _ _ _ _ _ _ _ he (ih _ _ _ _ _ _ _ _ h hK)⟩
                        · rw [if_neg h9] at h; cases h
          · rw [if_neg hl] at h; cases h
