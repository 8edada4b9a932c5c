/-! the equation of sem, and jumps -/
theorem iv_sem_un {d y pc : Nat} {ls : iv_L} {st : List Value} {h : iv_H} {r : iv_R} (hx : iv_sem d y pc ls st h = some r) : iv_x (iv_lk (iv_Gb y) pc).2 ls st h (fun pc' ls' st' h' => iv_sem d y pc' (iv_m (iv_lk (iv_Gb y) pc').1 ls') st' h') (iv_call d) = some r := by
  obtain ⟨n, hn⟩ := iv_sem_to hx
  cases n with
  | zero => cases hn
  | succ n =>
    unfold iv_run at hn
    refine iv_x_le (fun pc' ls' st' h' x hk => iv_sem_of hk) (fun y' as h' x hc => ?_) _ _ _ _ hn
    cases d with
    | zero => cases hc
    | succ e =>
      unfold iv_call
      simp only at hc ⊢
      split at hc
      · rename_i c1
        rw [if_pos c1]
        exact hc
      · rename_i c1
        rw [if_neg c1]
        split at hc
        · rename_i c2
          rw [if_pos c2]
          exact iv_sem_of hc
        · cases hc
/-- a jump -/
noncomputable def iv_K (d y pc : Nat) (ls : iv_L) (st : List Value) (h : iv_H) : Option iv_R := iv_sem d y pc (iv_m (iv_lk (iv_Gb y) pc).1 ls) st h
theorem iv_sem_unf (d y pc : Nat) (ls : iv_L) (st : List Value) (h : iv_H) : iv_sem d y pc ls st h = iv_x (iv_lk (iv_Gb y) pc).2 ls st h (iv_K d y) (iv_call d) := by
  have e : (fun pc' ls' st' h' => iv_sem d y pc' (iv_m (iv_lk (iv_Gb y) pc').1 ls') st' h') = iv_K d y := rfl
  cases hs : iv_sem d y pc ls st h with
  | some r =>
    have := iv_sem_un hs
    rw [e] at this
    exact this.symm
  | none =>
    cases hx : iv_x (iv_lk (iv_Gb y) pc).2 ls st h (iv_K d y) (iv_call d) with
    | none => rfl
    | some r =>
      rw [← e] at hx
      rw [iv_sem_eq hx] at hs
      cases hs
theorem iv_Kof {d y pc : Nat} {ls : iv_L} {st : List Value} {h : iv_H} {mk : List Nat} {is : List iv_I} (e : iv_lk (iv_Gb y) pc = (mk, is)) : iv_K d y pc ls st h = iv_sem d y pc (iv_m mk ls) st h := by unfold iv_K; rw [e]
theorem iv_Sof {d y pc : Nat} {ls : iv_L} {st : List Value} {h : iv_H} {mk : List Nat} {is : List iv_I} (e : iv_lk (iv_Gb y) pc = (mk, is)) : iv_sem d y pc ls st h = iv_x is ls st h (iv_K d y) (iv_call d) := by rw [iv_sem_unf, e]
theorem iv_Cof {d y : Nat} {as : List Value} {h : iv_H} {mk : List Nat} {is : List iv_I} (hy : y < 265) (e : iv_lk (iv_Gb y) 0 = (mk, is)) (hl : (iv_lay as).length ≤ mk.length) : iv_call (d + 1) y as h = iv_sem d y 0 (iv_m mk (iv_lay as)) [] h := by
  show (if 1000 ≤ y then _ else _) = _
  rw [if_neg (by omega), e, if_pos ⟨hy, hl⟩]
