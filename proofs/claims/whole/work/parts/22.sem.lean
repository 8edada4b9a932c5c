/-! the limit of runs: equations without fuel -/
theorem iv_x_le {K K' : Nat → iv_L → List Value → iv_H → Option iv_R} {C C' : Nat → List Value → iv_H → Option iv_R} {r : iv_R} (hK : ∀ pc ls st h x, K pc ls st h = some x → K' pc ls st h = some x) (hC : ∀ y as h x, C y as h = some x → C' y as h = some x) : ∀ (is : List iv_I) (ls : iv_L) (st : List Value) (h : iv_H), iv_x is ls st h K C = some r → iv_x is ls st h K' C' = some r
  | [], ls, st, h, hx => by cases hx
  | i :: is, ls, st, h, hx => by
    unfold iv_x at hx ⊢
    split at hx
    · cases hx
    · exact iv_x_le hK hC is _ _ _ hx
    · exact hK _ _ _ _ _ hx
    · exact hx
    · split at hx
      · cases hx
      · rename_i hc
        rw [hC _ _ _ _ hc]
        exact iv_x_le hK hC is _ _ _ hx
theorem iv_run_le (G : Nat → iv_B) : ∀ (n d y pc : Nat) (ls : iv_L) (st : List Value) (h : iv_H) (r : iv_R), iv_run G n d y pc ls st h = some r → iv_run G (n + 1) d y pc ls st h = some r
  | 0, d, y, pc, ls, st, h, r, hx => by cases hx
  | n + 1, d, y, pc, ls, st, h, r, hx => by
    unfold iv_run at hx
    rw [iv_run]
    refine iv_x_le (fun pc' ls' st' h' x hk => iv_run_le G n _ _ _ _ _ _ _ hk) (fun y' as h' x hc => ?_) _ _ _ _ hx
    cases d with
    | zero => cases hc
    | succ d =>
      simp only at hc ⊢
      split at hc
      · rename_i h1
        rw [if_pos h1]
        exact hc
      · rename_i h1
        rw [if_neg h1]
        split at hc
        · rename_i h2
          rw [if_pos h2]
          exact iv_run_le G n _ _ _ _ _ _ _ hc
        · cases hc
theorem iv_run_ge (G : Nat → iv_B) {n k d y pc : Nat} {ls : iv_L} {st : List Value} {h : iv_H} {r : iv_R} (hnk : n ≤ k) (hx : iv_run G n d y pc ls st h = some r) : iv_run G k d y pc ls st h = some r := by
  obtain ⟨j, rfl⟩ := Nat.exists_eq_add_of_le hnk
  induction j with
  | zero => exact hx
  | succ j ih => exact iv_run_le G _ _ _ _ _ _ _ _ (ih (Nat.le_add_right _ _))
/-- what the run comes to, whatever the fuel -/
noncomputable def iv_sem (d y pc : Nat) (ls : iv_L) (st : List Value) (h : iv_H) : Option iv_R :=
  Classical.epsilon (fun o => (∃ n r, iv_run iv_Gb n d y pc ls st h = some r ∧ o = some r) ∨ ((∀ n, iv_run iv_Gb n d y pc ls st h = none) ∧ o = none))
theorem iv_sem_spec (d y pc : Nat) (ls : iv_L) (st : List Value) (h : iv_H) : (∃ n r, iv_run iv_Gb n d y pc ls st h = some r ∧ iv_sem d y pc ls st h = some r) ∨ ((∀ n, iv_run iv_Gb n d y pc ls st h = none) ∧ iv_sem d y pc ls st h = none) := by
  unfold iv_sem
  refine Classical.epsilon_spec (p := fun o => (∃ n r, iv_run iv_Gb n d y pc ls st h = some r ∧ o = some r) ∨ ((∀ n, iv_run iv_Gb n d y pc ls st h = none) ∧ o = none)) ?_
  by_cases hx : ∃ n r, iv_run iv_Gb n d y pc ls st h = some r
  · obtain ⟨n, r, hr⟩ := hx
    exact ⟨some r, Or.inl ⟨n, r, hr, rfl⟩⟩
  · refine ⟨none, Or.inr ⟨fun n => ?_, rfl⟩⟩
    cases hr : iv_run iv_Gb n d y pc ls st h with
    | none => rfl
    | some r => exact absurd ⟨n, r, hr⟩ hx
theorem iv_sem_of {n d y pc : Nat} {ls : iv_L} {st : List Value} {h : iv_H} {r : iv_R} (hx : iv_run iv_Gb n d y pc ls st h = some r) : iv_sem d y pc ls st h = some r := by
  rcases iv_sem_spec d y pc ls st h with ⟨k, r', h1, h2⟩ | ⟨h1, -⟩
  · have a := iv_run_ge iv_Gb (Nat.le_max_left n k) hx
    have b := iv_run_ge iv_Gb (Nat.le_max_right n k) h1
    rw [h2, ← b, a]
  · rw [h1 n] at hx; cases hx
theorem iv_sem_to {d y pc : Nat} {ls : iv_L} {st : List Value} {h : iv_H} {r : iv_R} (hx : iv_sem d y pc ls st h = some r) : ∃ n, iv_run iv_Gb n d y pc ls st h = some r := by
  rcases iv_sem_spec d y pc ls st h with ⟨k, r', h1, h2⟩ | ⟨-, h2⟩
  · rw [h2] at hx
    cases hx
    exact ⟨k, h1⟩
  · rw [h2] at hx; cases hx
/-- a call: at depth d -/
noncomputable def iv_call (d y : Nat) (as : List Value) (h : iv_H) : Option iv_R := match d with
  | 0 => none
  | e + 1 => if 1000 ≤ y then (if 3 ≤ e then iv_pr y as h else none) else if y < 265 ∧ (iv_lay as).length ≤ (iv_lk (iv_Gb y) 0).1.length then iv_sem e y 0 (iv_m (iv_lk (iv_Gb y) 0).1 (iv_lay as)) [] h else none
theorem iv_sem_key {d y : Nat} {r : iv_R} : ∀ (is : List iv_I) (ls : iv_L) (st : List Value) (h : iv_H), iv_x is ls st h (fun pc' ls' st' h' => iv_sem d y pc' (iv_m (iv_lk (iv_Gb y) pc').1 ls') st' h') (iv_call d) = some r →
      ∃ n, iv_x is ls st h (fun pc' ls' st' h' => iv_run iv_Gb n d y pc' (iv_m (iv_lk (iv_Gb y) pc').1 ls') st' h') (fun y' as h' => match d with
        | 0 => none
        | e + 1 => if 1000 ≤ y' then (if 3 ≤ e then iv_pr y' as h' else none) else if y' < 265 ∧ (iv_lay as).length ≤ (iv_lk (iv_Gb y') 0).1.length then iv_run iv_Gb n e y' 0 (iv_m (iv_lk (iv_Gb y') 0).1 (iv_lay as)) [] h' else none) = some r := by
  intro is
  induction is with
  | nil => intro ls st h hx; cases hx
  | cons i is ih =>
    intro ls st h hx
    unfold iv_x at hx
    split at hx
    · cases hx
    · rename_i hs
      obtain ⟨n, hn⟩ := ih _ _ _ hx
      exact ⟨n, by unfold iv_x; rw [hs]; exact hn⟩
    · rename_i hs
      obtain ⟨n, hn⟩ := iv_sem_to hx
      exact ⟨n, by unfold iv_x; rw [hs]; exact hn⟩
    · rename_i hs
      exact ⟨0, by unfold iv_x; rw [hs]; exact hx⟩
    · rename_i y' as ls' st' h' hs
      split at hx
      · cases hx
      · rename_i r1 h1 hc
        obtain ⟨n, hn⟩ := ih _ _ _ hx
        cases d with
        | zero => cases hc
        | succ e =>
          unfold iv_call at hc
          simp only at hc
          split at hc
          · rename_i c1
            refine ⟨n, ?_⟩
            unfold iv_x
            rw [hs]
            simp only [if_pos c1]
            rw [hc]
            exact hn
          · rename_i c1
            split at hc
            · rename_i c2
              obtain ⟨k, hk⟩ := iv_sem_to hc
              refine ⟨max n k, ?_⟩
              unfold iv_x
              rw [hs]
              simp only [if_neg c1, if_pos c2]
              rw [iv_run_ge iv_Gb (Nat.le_max_right n k) hk]
              refine iv_x_le (fun pc' ls' st' h' x hk2 => iv_run_ge iv_Gb (Nat.le_max_left n k) hk2) (fun y2 as2 h2 x hc2 => ?_) _ _ _ _ hn
              simp only at hc2 ⊢
              split at hc2
              · rename_i d1
                rw [if_pos d1]
                exact hc2
              · rename_i d1
                rw [if_neg d1]
                split at hc2
                · rename_i d2
                  rw [if_pos d2]
                  exact iv_run_ge iv_Gb (Nat.le_max_left n k) hc2
                · cases hc2
            · cases hc
/-- the equation of a block -/
theorem iv_sem_eq {d y pc : Nat} {ls : iv_L} {st : List Value} {h : iv_H} {r : iv_R} (hx : iv_x (iv_lk (iv_Gb y) pc).2 ls st h (fun pc' ls' st' h' => iv_sem d y pc' (iv_m (iv_lk (iv_Gb y) pc').1 ls') st' h') (iv_call d) = some r) : iv_sem d y pc ls st h = some r := by
  obtain ⟨n, hn⟩ := iv_sem_key _ _ _ _ hx
  refine iv_sem_of (n := n + 1) ?_
  unfold iv_run
  exact hn
