/-- the locals at a method's start -/
theorem iv_LR.msk2 {g : iv_G} {nL : Nat} {as : List Value} {lsC : Array Slot} (h : lv_has lsC nL (lv_args 0 (as.map (iv_v g)))) {bs : List Nat} (hb : bs.length = nL) (_hl : (iv_lay as).length ≤ bs.length) : iv_LR g nL (iv_m bs (iv_lay as)) lsC := by
  have key : ∀ (bs : List Nat) (ls : iv_L), (iv_m bs ls).length = bs.length ∧ ∀ (i : Nat) (v : Value), (iv_m bs ls)[i]? = some (some v) → ls[i]? = some (some v) := by
    intro bs
    induction bs with
    | nil => intro ls; exact ⟨by simp [iv_m], fun i v hv => by simp [iv_m] at hv⟩
    | cons b bs ih =>
      intro ls
      cases ls with
      | nil =>
        obtain ⟨a1, a2⟩ := ih []
        refine ⟨by simp [iv_m, a1], fun i v hv => ?_⟩
        cases i with
        | zero => simp [iv_m] at hv
        | succ i => simp only [iv_m, List.getElem?_cons_succ] at hv; have := a2 i v hv; simp at this
      | cons w ws =>
        obtain ⟨a1, a2⟩ := ih ws
        refine ⟨by simp [iv_m, a1], fun i v hv => ?_⟩
        cases i with
        | zero =>
          simp only [iv_m, List.getElem?_cons_zero] at hv ⊢
          by_cases hb1 : b = 1
          · rw [if_pos hb1] at hv; exact hv
          · rw [if_neg hb1] at hv; cases hv
        | succ i => simp only [iv_m, List.getElem?_cons_succ] at hv ⊢; exact a2 i v hv
  obtain ⟨k1, k2⟩ := key bs (iv_lay as)
  refine ⟨⟨h.1, by rw [k1, hb]⟩, h.2.1, fun i v hv => ?_⟩
  have := iv_lay_at (g := g) as 0 i v (k2 i v hv)
  rw [Nat.zero_add] at this
  exact h.2.2 _ this
/-! from a run to a contract -/
section IVQ
variable {p : Program} {l : Launch} {e : Env} {R : Room} {s : State} {m : MethodId} {args : Array Value} {below : List Frame} {meth : Method} {c : Code} {g : iv_G} {nL c0 cF o : Nat} {bs : ByteArray} {rt : Option FieldType} {ini : Bool}
/-- the end of a method -/
theorem iv_retW {pc : Nat} {i : iv_I} {ls : iv_L} {st : List Value} {h hF : iv_H} {r : Option Value} (hx : p.tables.exec = Jvm.exec) (hb : c.code = bs) (hr : meth.sig.returnType = rt) (hlocks : meth.locks = false) (hck : iv_ck bs o rt ini pc i = true) (hs : iv_s i ls st h = some (.inr (.inr (.inl (r, hF))))) (hop : i.1 = 63 ∨ i.1 = 64 ∨ i.1 = 65) :
    iv_W p l e R s m args below meth c (MQ below (iv_Qc g r hF) args s (hF.1 - c0) (iv_S hF.1 - iv_S c0) (iv_new g)) g nL c0 cF pc ls st h := by
  obtain ⟨op, ia, ib, iz, its⟩ := i
  rcases hop with hop | hop | hop
  · obtain rfl : op = 63 := hop
    have h2 := Bool.and_eq_true_iff.mp (show (iv_dk bs pc .ireturn 1 && ((decide (ia = 0) && decide (rt = some .int)) || (decide (ia = 1) && decide (rt = some .boolean)))) = true from hck)
    have hs2 : iv_o63 (63, ia, ib, iz, its) ls st h = some (.inr (.inr (.inl (r, hF)))) := hs
    unfold iv_o63 at hs2
    split at hs2
    · rename_i v
      split at hs2
      · rename_i hv
        have e9 := Option.some.inj hs2
        cases e9
        intro h0 h1 lsC H locs hL hI hl
        rcases Bool.or_eq_true_iff.mp h2.2 with h3 | h3
        · have h4 := Bool.and_eq_true_iff.mp h3
          exact W.iret hx hb (by rw [hr]; exact of_decide_eq_true h4.2) (fun t ht _ => ⟨rfl, by rw [ht]; exact hI⟩) hl (of_decide_eq_true h2.1) hlocks
        · have h4 := Bool.and_eq_true_iff.mp h3
          have hia : ia = 1 := of_decide_eq_true h4.1
          have hv2 : v = 0 ∨ v = 1 := by
            rcases hv with z | z
            · have z2 : ia = 0 := z
              omega
            · exact z
          exact W.zret (ty := .boolean) hx hb (by rw [hr]; exact of_decide_eq_true h4.2) (by rcases hv2 with z | z <;> (subst z; decide +kernel)) (fun t ht _ => ⟨rfl, by rw [ht]; exact hI⟩) hl (of_decide_eq_true h2.1) hlocks
      · cases hs2
    · cases hs2
  · obtain rfl : op = 64 := hop
    have h2 := Bool.and_eq_true_iff.mp (show (iv_dk bs pc .lreturn 1 && decide (rt = some .long)) = true from hck)
    have hs2 : iv_o64 (64, ia, ib, iz, its) ls st h = some (.inr (.inr (.inl (r, hF)))) := hs
    unfold iv_o64 at hs2
    split at hs2
    · have e9 := Option.some.inj hs2
      cases e9
      intro h0 h1 lsC H locs hL hI hl
      exact W.lret hx hb (by rw [hr]; exact of_decide_eq_true h2.2) (fun t ht _ => ⟨rfl, by rw [ht]; exact hI⟩) hl (of_decide_eq_true h2.1) hlocks
    · cases hs2
  · obtain rfl : op = 65 := hop
    have h2 := Bool.and_eq_true_iff.mp (show (iv_dk bs pc .return_ 1 && decide (rt = none)) = true from hck)
    have hs2 : iv_o65 (65, ia, ib, iz, its) ls st h = some (.inr (.inr (.inl (r, hF)))) := hs
    unfold iv_o65 at hs2
    split at hs2
    · have e9 := Option.some.inj hs2
      cases e9
      intro h0 h1 lsC H locs hL hI hl
      exact W.vret hx hb (by rw [hr]; exact of_decide_eq_true h2.2) (fun t ht _ => ⟨rfl, by rw [ht]; exact hI⟩) hl (of_decide_eq_true h2.1) hlocks
    · cases hs2
end IVQ
/-- every run of a method's body from some pc on, whatever the goal behind its return -/
def iv_Run (g : iv_G) (l : Launch) (n : Nat) : Prop := ∀ (p : Program) (e : Env) (R : Room) (s : State) (m : MethodId) (args : Array Value) (below : List Frame) (meth : Method) (c : Code) (Q : State → Prop) (d y c0 cF : Nat) (Ts : List Cond) (r : Option Value) (hF : iv_H), y < 266 →
  iv_Cx p m c s args R meth g (iv_q y).2.2.1 c0 cF d (iv_q y).2.2.2.2.1 (decide ((iv_q y).1.name = "<init>")) (iv_q y).2.1 Ts → hF.1 ≤ cF →
  (∀ pc (i : iv_I) ls st h, iv_ck (iv_q y).2.1 (iv_q y).2.2.2.2.1 (iv_q y).2.2.2.1 (decide ((iv_q y).1.name = "<init>")) pc i = true → iv_s i ls st h = some (.inr (.inr (.inl (r, hF)))) → (i.1 = 63 ∨ i.1 = 64 ∨ i.1 = 65) → iv_W p l e R s m args below meth c Q g (iv_q y).2.2.1 c0 cF pc ls st h) →
  ∀ pc ls st h, iv_run iv_Gb n d y pc ls st h = some (r, hF) → iv_W p l e R s m args below meth c Q g (iv_q y).2.2.1 c0 cF pc ls st h
theorem iv_met_of {g : iv_G} {l : Launch} {n : Nat} (IH : iv_Run g l n) {d y : Nat} {as : List Value} {h h' : iv_H} {r : Option Value} (hy : y < 265) (hm : (iv_lk (iv_Gb y) 0).1.length = (iv_q y).2.2.1) (hl : (iv_lay as).length ≤ (iv_lk (iv_Gb y) 0).1.length) (hrun : iv_run iv_Gb n d y 0 (iv_m (iv_lk (iv_Gb y) 0).1 (iv_lay as)) [] h = some (r, h')) (h72 : h'.1 ≤ 72) : iv_Met g l (iv_q y).1 (iv_yw (iv_q y)) d as h r h' := by
  obtain ⟨o1, o2, o3, o4, o5, o6⟩ := iv_mt_ok y (by omega)
  have hmo := iv_run_mo _ _ _ _ _ _ _ _ _ _ hrun
  refine ⟨hmo, h72, va_MetF (cc := (iv_q y).2.1) (maxL := (iv_q y).2.2.1) (ret := (iv_q y).2.2.2.1) (ws' := iv_tbl) o5 rfl ?_⟩
  intro p e s m args below meth c s₁ B hml hv
  obtain ⟨rfl, hV, hI, hsz⟩ := hv
  have hts := atoms_spec (ws := iv_yw (iv_q y)) B.pre
  have hown : s.vm.findClass (iv_c (iv_q y).2.2.2.2.1) = some m.cls := by rw [o1]; exact findClass_of_methodNamed B.named
  have hC : iv_Cx p m c s (as.map (iv_v g)).toArray (headSpec (iv_yw (iv_q y)) (iv_rm d (h'.1 - h.1) (iv_S h'.1 - iv_S h.1))).room meth g (iv_q y).2.2.1 h.1 h'.1 d (iv_q y).2.2.2.2.1 (decide ((iv_q y).1.name = "<init>")) (iv_q y).2.1 (iv_yw (iv_q y)) :=
    ⟨B.exec, B.bytes, hml, hown, hts, fun w hw => List.mem_cons_of_mem _ hw, hV, hsz, hI.1.1, h72, ⟨Nat.le_refl _, Nat.le_refl _⟩, ⟨Nat.le_refl _, Nat.le_refl _⟩, hI.2.1, fun z => by
      rw [(name_of_methodNamed B.named B.method).1]
      exact of_decide_eq_true z⟩
  have K := IH p e _ s m _ below meth c (MQ below (iv_Qc g r h') (as.map (iv_v g)).toArray s (h'.1 - h.1) (iv_S h'.1 - iv_S h.1) (iv_new g)) d y h.1 h'.1 _ r h' (by omega) hC (Nat.le_refl _) (fun pc i ls st h2 hck hs hop => iv_retW B.exec B.bytes B.returns B.notSynchronized hck hs hop) 0 _ [] h hrun
  rw [lg_entry_eq]
  have hent := lv_entry (as.map (iv_v g)) (n := (iv_q y).2.2.1) (by rw [iv_lay_len, ← hm]; exact hl)
  have K2 := K (Nat.le_refl _) hmo _ s.heap [] (iv_LR.msk2 hent hm hl) hI (fun q hq => by cases hq)
  rw [Nat.sub_self, Nat.sub_self] at K2
  exact K2
/-- String.length and String.charAt -/
def iv_Str (g : iv_G) (l : Launch) : Prop := ∀ (y d : Nat) (as : List Value) (h : iv_H) (r : iv_R), 3 ≤ d → h.1 ≤ 72 → iv_pr y as h = some r → iv_Met g l (iv_yn y).1 (iv_yw (iv_yn y)) d as h r.1 r.2
theorem iv_two (q : Nat) (h1 : 2 ≤ q) (h2 : q < 8) : ∃ j : Nat, j < 6 ∧ q = j + 2 := ⟨q - 2, by omega, by omega⟩
theorem iv_str_ok (g : iv_G) (l : Launch) : iv_Str g l := by
  intro y d as h r hd h72 hp
  unfold iv_pr at hp
  split at hp
  · rename_i q
    split at hp
    · rename_i hc
      cases hp
      obtain ⟨j, hj, rfl⟩ := iv_two q hc.1 hc.2
      obtain ⟨d', rfl⟩ : ∃ d', d = d' + 1 := ⟨d - 1, by omega⟩
      have hM := iv_ml1 g l h d' j hj
      refine ⟨Nat.le_refl _, h72, ?_⟩
      rw [Nat.sub_self, Nat.sub_self]
      have e : [6, 5, 5, 5, 7, 6].getD j 0 = (iv_sl.getD j []).length := by
        have key : ∀ j, j < 6 → [6, 5, 5, 5, 7, 6].getD j 0 = (iv_sl.getD j []).length := by decide +kernel
        exact key _ hj
      rw [e] at hM
      exact hM
    · cases hp
  · rename_i q x
    split at hp
    · rename_i hc
      cases hp
      obtain ⟨j, hj, rfl⟩ := iv_two q hc.1.1 hc.1.2
      obtain ⟨d', rfl⟩ : ∃ d', d = d' + 3 := ⟨d - 3, by omega⟩
      have e : [6, 5, 5, 5, 7, 6].getD j 0 = (iv_sl.getD j []).length := by
        have key : ∀ j, j < 6 → [6, 5, 5, 5, 7, 6].getD j 0 = (iv_sl.getD j []).length := by decide +kernel
        exact key _ hj
      have hb : (iv_sl.getD j []).length < 2 ^ 31 := by
        have key : ∀ j, j < 6 → (iv_sl.getD j []).length < 2 ^ 31 := by decide +kernel
        exact key _ hj
      have hin : iv_in x (iv_sl.getD j []).length := hc.2
      obtain ⟨k, hk, rfl⟩ := vp_in_of (iv_in_vp hin) hb
      have hM := iv_mc1 g l h d' j k hj (by rw [e]; exact hk)
      refine ⟨Nat.le_refl _, h72, ?_⟩
      rw [Nat.sub_self, Nat.sub_self]
      have e2 : (nI k).toNatClampNeg = k := nI_clamp (Nat.lt_trans hk hb)
      have e3 : (iv_sl.getD j []).getD (nI k).toNatClampNeg 0 = (iv_sl.getD j []).getD k 0 := by rw [e2]
      rw [← e3] at hM
      exact hM
    · cases hp
  · cases hp
theorem iv_run_ok {g : iv_G} {l : Launch} (hall : ∀ y, y < 266 → iv_cm (iv_q y) = true) (hstr : iv_Str g l) : ∀ n, iv_Run g l n
  | 0 => by
    intro p e R s m args below meth c Q d y c0 cF Ts r hF hy hC hc hR pc ls st h hrun
    cases hrun
  | n + 1 => by
    have IH := iv_run_ok hall hstr n
    intro p e R s m args below meth c Q d y c0 cF Ts r hF hy hC hc hR pc ls st h hrun
    unfold iv_run at hrun
    have hcF : cF ≤ 72 := hC.2.2.2.2.2.2.2.2.2.1
    have hlk := iv_lk_ok (hall y hy) pc
    rcases hlk with e0 | ⟨-, hcb⟩
    · have e1 : iv_lk (iv_Gb y) pc = ([], []) := e0
      rw [e1] at hrun
      cases hrun
    · refine iv_x_ok (rt := (iv_q y).2.2.2.1) hC hc (fun pc' ls' st' h1 hk => iv_run_mo _ _ _ _ _ _ _ _ _ _ hk) (fun y' as h1 r1 h2 hcc => ?_) (fun pc' ls' st' h1 hk => ?_) (fun y' as h1 r1 h2 hcc hle => ?_) hR _ _ _ _ _ hcb hrun
      · split at hcc
        · cases hcc
        · split at hcc
          · split at hcc
            · rw [show h2 = h1 from iv_pr_h hcc]; exact Nat.le_refl _
            · cases hcc
          · split at hcc
            · exact iv_run_mo _ _ _ _ _ _ _ _ _ _ hcc
            · cases hcc
      · rcases iv_lk_ok (hall y hy) pc' with e0 | ⟨hm, -⟩
        · have e1 : iv_lk (iv_Gb y) pc' = ([], []) := e0
          rw [e1] at hk
          cases n with
          | zero => cases hk
          | succ n =>
            unfold iv_run at hk
            rw [e1] at hk
            cases hk
        · exact iv_W_msk hm (IH _ _ _ _ _ _ _ _ _ _ _ _ _ _ _ _ _ hy hC hc hR _ _ _ _ hk)
      · split at hcc
        · cases hcc
        · rename_i d'
          refine ⟨d', rfl, ?_⟩
          split at hcc
          · split at hcc
            · rename_i h3
              have e2 : h2 = h1 := iv_pr_h hcc
              exact hstr _ _ _ _ _ h3 (by rw [← e2]; exact Nat.le_trans hle hcF) hcc
            · cases hcc
          · rename_i hy1
            split at hcc
            · rename_i hlen
              have hy2 : y' < 265 := hlen.1
              have hyn : iv_yn y' = iv_q y' := by unfold iv_yn; rw [if_neg (by omega), if_neg (by omega)]
              rw [hyn]
              rcases iv_lk_ok (hall y' (by omega)) 0 with e0 | ⟨hm, -⟩
              · exfalso
                have e1 : iv_lk (iv_Gb y') 0 = ([], []) := e0
                cases n with
                | zero => cases hcc
                | succ n =>
                  unfold iv_run at hcc
                  rw [e1] at hcc
                  cases hcc
              · exact iv_met_of IH hy2 hm hlen.2 hcc (Nat.le_trans hle hcF)
            · cases hcc
