/-! methods by contract, and calls -/
def jv_Pc (X : jx) (av : List Value) (h : jh) : Array Value → State → Prop := fun a U => a = av.toArray ∧ jv_U X U ∧ jv_H X h U.heap
theorem jv_Pc.blind (X : jx) (av : List Value) (h : jh) : FrameBlind (jv_Pc X av h) := fun a U g mk q => ⟨q.1, jv_U.warm (U := U.calling g mk a) (State.WarmedH.refl U) q.2.1, q.2.2⟩
abbrev jv_rm (M : jm) (mc ms : Nat) : Room := { frames := M.2.2.2.2.1, cells := mc, slots := ms, locals := M.2.2.2.2.2.1 }
abbrev jv_cw (M : jm) : Cond := .code M.1 M.2.1 M.2.2.1 M.2.2.2.1
def jv_M (X : jx) (M : jm) (av : List Value) (h : jh) (r : jr) (h' : jh) : Prop := (h.1 ≤ h'.1 ∧ h.2.1 ≤ h'.2.1) ∧
  vx_Met X.1 M.1 [jv_cw M] (jv_rm M (h'.1 - h.1) (h'.2.1 - h.2.1)) (jv_Pc X av h) (jv_Q X r h') (jv_XC X r h') (h'.1 - h.1) (h'.2.1 - h.2.1) (jv_A X)
def jv_P {α : Type} (X : jx) (M : jm) (en : α → jr) (av : List Value) (h : jh) (o : Option (α × jh)) : Prop := ∀ (a : α) (h' : jh), o = some (a, h') → jv_M X M av h (en a) h'
theorem jv_args_mem : ∀ (av : List Value) (n : Nat), (∀ v ∈ av, v.category = 1) → ∀ (i : Nat) (v : Value), av[i]? = some v → (n + i, v) ∈ lv_args n av
  | [], _, _, i, v, h => by simp at h
  | w :: l, n, hc, i, v, h => by
    have hw : w.category = 1 := hc w List.mem_cons_self
    unfold lv_args
    cases i with
    | zero => simp at h; subst h; exact List.mem_cons_self
    | succ i =>
      have h1 := jv_args_mem l (n + 1) (fun v hv => hc v (List.mem_cons_of_mem _ hv)) i v (by simpa using h)
      have e : n + 1 + i = n + (i + 1) := by omega
      rw [e] at h1
      rw [hw]
      exact List.mem_cons_of_mem _ h1
theorem jv_sl_len : ∀ (av : List Value), (∀ v ∈ av, v.category = 1) → (lg_sl av).length = av.length
  | [], _ => rfl
  | w :: l, hc => by
    have hw : w.category = 1 := hc w List.mem_cons_self
    have h1 := jv_sl_len l (fun v hv => hc v (List.mem_cons_of_mem _ hv))
    unfold lg_sl at h1 ⊢
    simp [List.flatMap_cons, hw, h1]
theorem jv_L.entry {av : List Value} {n : Nat} (hc : ∀ v ∈ av, v.category = 1) (hn : av.length ≤ n) : jv_L (av.map some ++ List.replicate (n - av.length) none) ((lg_sl av ++ List.replicate (n - (lg_sl av).length) Slot.unset).toArray) := by
  have hl := lv_entry av (n := n) (by rw [jv_sl_len av hc]; exact hn)
  refine ⟨?_, hl.2.1, fun i v hi => ?_⟩
  · rw [hl.1]; simp; omega
  · by_cases h1 : i < av.length
    · rw [List.getElem?_append_left (by simpa using h1), List.getElem?_map] at hi
      cases h2 : av[i]? with
      | none => rw [h2] at hi; cases hi
      | some w =>
        rw [h2] at hi
        simp at hi
        subst hi
        refine ⟨hc w (List.mem_of_getElem? h2), ?_⟩
        have h3 := jv_args_mem av 0 hc i w h2
        rw [Nat.zero_add] at h3
        exact hl.2.2 (i, w) h3
    · rw [List.getElem?_append_right (by simp; omega)] at hi
      rw [List.getElem?_replicate] at hi
      split at hi <;> cases hi
theorem jv_P.of {α : Type} {X : jx} {M : jm} {en : α → jr} {av : List Value} {h : jh} {o : Option (α × jh)} (hp : plainName M.1.cls = true) (hh : M.2.2.2.2.2.2 = []) (hc : ∀ v ∈ av, v.category = 1) (hl : av.length ≤ M.2.2.1)
    (k : jv_O X M (h.1, h.2.1) en 0 (av.map some ++ List.replicate (M.2.2.1 - av.length) none) [] h o) : jv_P X M en av h o := by
  intro a h' e0
  obtain ⟨k1, k2⟩ := k a h' e0
  refine ⟨k1, vx_ofW (cc := M.2.1) (maxL := M.2.2.1) (ret := M.2.2.2.1) hp rfl ?_⟩
  intro p e s m args below meth c s₁ B hml hno hv
  obtain ⟨rfl, hU, hH⟩ := hv
  rw [lg_entry_eq]
  have h9 := k2 (Nat.le_refl _) (Nat.le_refl _) p e (jv_rm M (h'.1 - h.1) (h'.2.1 - h.2.1)) s m av.toArray below meth c s.heap [] _ ⟨B.exec, B.bytes, B.returns, hml, findClass_of_methodNamed B.named, hU, B.notSynchronized, (name_of_methodNamed B.named B.method).1, by rw [hh, List.eq_nil_iff_forall_not_mem.mpr (fun x hx => hno x hx)]; rfl, Nat.le_refl _, Nat.le_refl _⟩ (Nat.le_refl _) (Nat.le_refl _) (fun q hq => by cases hq) (jv_L.entry hc hl) (by simp; omega) hH
  rw [Nat.sub_self, Nat.sub_self] at h9
  exact h9
theorem jv_M.met {X : jx} {M : jm} {av : List Value} {h : jh} {v : Option Value} {h' : jh} (k : jv_M X M av h (.inl v) h') : Met X.1 M.1 [jv_cw M] (jv_rm M (h'.1 - h.1) (h'.2.1 - h.2.1)) (jv_Pc X av h) (jv_Q X (.inl v) h') (h'.1 - h.1) (h'.2.1 - h.2.1) (jv_A X) := by
  intro p e a1 a2 a3 s m args below b1 b2 b3 b4
  obtain ⟨n, o, c1, c2, c3, c4⟩ := k.2 p e a1 a2 a3 s m args below b1 b2 b3 b4
  refine ⟨n, o, c1, c2, c3, ?_⟩
  rcases c4 with c4 | ⟨q, -, E, ce, L, ⟨hx, -⟩, -⟩
  · exact c4
  · cases hx
/-- a method as the tables tell it; a link to it -/
def jv_me (M : jm) (n : Nat) : Prop := jv_cw M ∈ lw_tbl ∧ Cond.initialized M.1.cls ∈ lw_tbl ∧ (M.1.cls ≠ "java/lang/invoke/MethodHandle" ∧ M.1.cls ≠ "java/lang/invoke/VarHandle") ∧ (parseMethodDescriptor M.1.desc).map (fun d => d.parameters.length) = some n
def jv_mi (M : jm) : Prop := Cond.instanceMethod M.1 ∈ lw_tbl
def jv_mv (M : jm) : Prop := Cond.instanceMethod M.1 ∈ lw_tbl ∧ Cond.selects M.1.cls M.1 M.1 ∈ lw_tbl
def jv_ms (M : jm) : Prop := Cond.static M.1 ∈ lw_tbl
def jv_lk (own : String) (i : Nat) (M : jm) : Prop := Cond.methodLink own i M.1 ∈ lw_tbl ∨ ∃ host, Cond.methodLinkNest own i M.1 host ∈ lw_tbl
def jv_fit (M M' : jm) : Prop := M'.2.2.2.2.1 + 1 ≤ M.2.2.2.2.1 ∧ 8 + (M'.2.2.1 + 11) + M'.2.2.2.2.2.1 ≤ M.2.2.2.2.2.1
theorem jv_callB {X : jx} {M M' : jm} {p : Program} {R : Room} {s : State} {m : MethodId} {args : Array Value} {meth : Method} {c : Code} {mc ms n i : Nat} (hC : jv_C X M p R s m meth c) (hm : jv_me M' n) (hl : Cond.methodLink M.1.cls i M'.1 ∈ lw_tbl) (hf : jv_fit M M') :
    CallB R s args M.1.cls i M'.1 M'.2.1 M'.2.2.1 M'.2.2.2.1 [jv_cw M'] (jv_rm M' mc ms) mc ms n := by
  have hT := hC.2.2.2.2.2.1.1
  refine callB_of n (Ts := [jv_cw M']) (fun w hw => ?_) (fun w hw => ⟨hw, ?_⟩) rfl rfl rfl (hT.use hm.2.1 rfl args) (hT.use hl rfl args) ⟨hm.2.2.1.1, hm.2.2.1.2, hm.2.2.2⟩ ⟨Nat.le_trans hf.1 hC.2.2.2.2.2.2.2.2.2.1, Nat.le_trans hf.2 hC.2.2.2.2.2.2.2.2.2.2⟩
  · rw [List.mem_singleton.mp hw]; exact hT.use hm.1 rfl args
  · rw [List.mem_singleton.mp hw]; exact Or.inl rfl
theorem jv_callN {X : jx} {M M' : jm} {p : Program} {R : Room} {s : State} {m : MethodId} {args : Array Value} {meth : Method} {c : Code} {mc ms n i : Nat} {host : String} (hC : jv_C X M p R s m meth c) (hm : jv_me M' n) (hl : Cond.methodLinkNest M.1.cls i M'.1 host ∈ lw_tbl) (hf : jv_fit M M') :
    va_CN R s args M.1.cls i M'.1 host M'.2.1 M'.2.2.1 M'.2.2.2.1 [jv_cw M'] (jv_rm M' mc ms) mc ms n := by
  have hT := hC.2.2.2.2.2.1.1
  refine va_cnB n (Ts := [jv_cw M']) (fun w hw => ?_) (fun w hw => ⟨hw, ?_⟩) rfl rfl rfl (hT.use hl rfl #[]) (hT.use hm.2.1 rfl args) ⟨hm.2.2.1.1, hm.2.2.1.2, hm.2.2.2⟩ ⟨Nat.le_trans hf.1 hC.2.2.2.2.2.2.2.2.2.1, Nat.le_trans hf.2 hC.2.2.2.2.2.2.2.2.2.2⟩
  · rw [List.mem_singleton.mp hw]; exact hT.use hm.1 rfl args
  · rw [List.mem_singleton.mp hw]; exact Or.inl rfl
section JCall
variable {α : Type} {X : jx} {M : jm} {b0 : Nat × Nat} {en : α → jr} {pc : Nat} {L : List (Option Value)} {S S0 : List Value} {h : jh} {o : Option (α × jh)}
theorem jv_callG' {γ : Type} {en' : γ → jr} {pv : γ → Option Value} {M' : jm} {av : List Value} {o1 : Option (γ × jh)} {K : γ → jh → Option (α × jh)} (hen : ∀ a, en' a = .inl (pv a)) (hP : jv_P X M' en' av h o1)
    (run : ∀ (p : Program) (e : Env) (R : Room) (s : State) (m : MethodId) (args : Array Value) (below : List Frame) (meth : Method) (c : Code) (H : Heap) (locs : List Loc) (cells slots : Nat) (ls : Array Slot) (mc ms : Nat) (Qc : Array Value → State → Outcome → State → Prop), jv_C X M p R s m meth c → jv_L L ls → L.length = M.2.2.1 → jv_H X h H →
      Met X.1 M'.1 [jv_cw M'] (jv_rm M' mc ms) (jv_Pc X av h) Qc mc ms (jv_A X) → cells + mc ≤ R.cells ∧ slots + ms ≤ R.slots → va_Run p X.1 e R s m args below meth c H locs cells slots mc ms (F0 m pc ls S0) S (Qc av.toArray) (jv_A X))
    (k : ∀ a h1, o1 = some (a, h1) → jv_O X M b0 en (pc + 3) L ((pv a).toList ++ S) h1 (K a h1)) : jv_O X M b0 en pc L S0 h (bd o1 K) := by
  unfold bd
  split
  · next a1 h1 =>
    have hM := hP a1 h1 rfl
    rw [hen] at hM
    intro a h' e0
    obtain ⟨⟨k1, k1'⟩, k2⟩ := k a1 h1 rfl a h' e0
    have hm1 := hM.1.1
    have hm2 := hM.1.2
    refine ⟨⟨by omega, by omega⟩, fun b1 b2 p e R s m args below meth c H locs ls hC hc hs hlo hL hn hH => ?_⟩
    intro T hT X0
    obtain ⟨v, st₀, t, T', L', h0, X', hL', e1, e2, ⟨v', hv', ho, hH'⟩, st⟩ := run p e R s m args below meth c H locs _ _ ls _ _ _ hC hL hn hH hM.met (by omega) T hT X0
    cases hv'
    cases ho
    rw [← e1] at hH'
    have h3 := k2 (by omega) (by omega) p e R s m args below meth c T'.heap (locs ++ L') ls hC hc hs (fun q hq => by
      rcases List.mem_append.mp hq with h9 | h9
      · exact hlo q h9
      · exact hL' q h9) hL hn hH'
    rw [show h.1 - b0.1 + (h1.1 - h.1) = h1.1 - b0.1 by omega, show h.2.1 - b0.2 + (h1.2.1 - h.2.1) = h1.2.1 - b0.2 by omega] at X'
    obtain ⟨t9, c1, c2⟩ := h3 T' rfl X'
    exact ⟨t9, st t9 c1, c2⟩
  · exact jv_none rfl
theorem jv_callG {γ : Type} {en' : γ → jr} {pv : γ → Option Value} {M' : jm} {av : List Value} {o1 : Option (γ × jh)} {K : γ → jh → Option (α × jh)} (hen : ∀ a, en' a = .inl (pv a)) (hP : jv_P X M' en' av h o1)
    (run : ∀ (p : Program) (e : Env) (R : Room) (s : State) (m : MethodId) (args : Array Value) (below : List Frame) (meth : Method) (c : Code) (H : Heap) (locs : List Loc) (cells slots : Nat) (ls : Array Slot) (mc ms : Nat) (Qc : Array Value → State → Outcome → State → Prop), jv_C X M p R s m meth c → jv_L L ls → L.length = M.2.2.1 → jv_H X h H →
      Met X.1 M'.1 [jv_cw M'] (jv_rm M' mc ms) (jv_Pc X av h) Qc mc ms (jv_A X) → cells + mc ≤ R.cells ∧ slots + ms ≤ R.slots → va_Run p X.1 e R s m args below meth c H locs cells slots mc ms (F0 m pc ls S0) S (Qc av.toArray) (jv_A X))
    (k : ∀ a h1, jv_O X M b0 en (pc + 3) L ((pv a).toList ++ S) h1 (K a h1)) : jv_O X M b0 en pc L S0 h (bd o1 K) :=
  jv_callG' hen hP run (fun a h1 _ => k a h1)
theorem jv_recv {H : Heap} {s : State} {b ci N : Nat} {C : String} {T : u_T} (hU : jv_U X s) (hc : vwCl[ci]? = some (C, T, N)) (hb : isO h b ci = true) (hH : jv_H X h H) : ∃ cell : Cell, H[b]? = some cell ∧ cell.vm.isStatics = false ∧ s.vm.findClass C = some cell.cls := by
  obtain ⟨fs, hfs⟩ := isO_spec hb
  obtain ⟨-, -, hat⟩ := hH.at hfs (jv_abs_ne hc)
  exact va_recv hU.2.1 (jv_P1 hat) hc (q0 := 0) rfl
/-- what a virtual call does: the receiver is an object of class ci -/
def cV {γ β : Type} (h : jh) (b ci : Nat) (o1 : Option (γ × jh)) (K : γ → jh → Option β) : Option β := if isO h b ci = true then bd o1 K else none
theorem jv_callV {γ : Type} {en' : γ → jr} {pv : γ → Option Value} {M' : jm} {As : List Value} {b ci i n N : Nat} {T : u_T} {o1 : Option (γ × jh)} {K : γ → jh → Option (α × jh)} (hd : decode M.2.1 pc = .ok (.invokevirtual i, 3)) (hen : ∀ a, en' a = .inl (pv a)) (hl : jv_lk M.1.cls i M') (hm : jv_me M' n) (hv : jv_mv M') (hf : jv_fit M M') (hc : vwCl[ci]? = some (M'.1.cls, T, N)) (hn : As.length = n) (hS : S0 = As.reverse ++ .ref b :: S) (hw : (S.map fun v => v.category).sum ≤ 8)
    (hP : jv_P X M' en' (.ref b :: As) h o1) (k : ∀ a h1, jv_O X M b0 en (pc + 3) L ((pv a).toList ++ S) h1 (K a h1)) : jv_O X M b0 en pc L S0 h (cV h b ci o1 K) := by
  unfold cV
  split
  · next hb =>
    subst hS
    refine jv_callG hen hP (fun p e R s m args below meth c H locs cells slots ls mc ms Qc hC hL hn9 hH hM hf9 => ?_) k
    have hU := hC.2.2.2.2.2.1
    have hsz : ls.size = M.2.2.1 := hL.1.trans hn9
    have hp : PreV s H M'.1.cls b (jv_Pc X (.ref b :: As) h) As := ⟨jv_Pc.blind _ _ _, jv_recv hU hc hb hH, fun U hU9 hW => ⟨rfl, hU.warm hW, by rw [hU9]; exact hH⟩⟩
    rcases hl with hl | ⟨host, hl⟩
    · exact va_runV (Ts := []) ⟨hC.1, hC.2.1, hC.2.2.2.1, hC.2.2.2.2.1, fun w hw => by cases hw⟩ hM ⟨jv_callB hC hm hl hf, hU.1.use hv.1 rfl args, hU.1.use hv.2 rfl args⟩ hp rfl hn hsz rfl (lv_room hw) hd hf9
    · exact va_runVN (Ts := []) ⟨hC.1, hC.2.1, hC.2.2.2.1, hC.2.2.2.2.1, fun w hw => by cases hw⟩ hM ⟨jv_callN hC hm hl hf, hU.1.use hv.1 rfl args, hU.1.use hv.2 rfl args⟩ hp rfl hn hsz rfl (lv_room hw) hd hf9
  · exact jv_none rfl
theorem jv_callS {γ : Type} {en' : γ → jr} {pv : γ → Option Value} {M' : jm} {As : List Value} {i n : Nat} {o1 : Option (γ × jh)} {K : γ → jh → Option (α × jh)} (hd : decode M.2.1 pc = .ok (.invokestatic i, 3)) (hen : ∀ a, en' a = .inl (pv a)) (hl : jv_lk M.1.cls i M') (hm : jv_me M' n) (hv : jv_ms M') (hf : jv_fit M M') (hn : As.length = n) (hS : S0 = As.reverse ++ S) (hw : (S.map fun v => v.category).sum ≤ 8)
    (hP : jv_P X M' en' As h o1) (k : ∀ a h1, jv_O X M b0 en (pc + 3) L ((pv a).toList ++ S) h1 (K a h1)) : jv_O X M b0 en pc L S0 h (bd o1 K) := by
  subst hS
  refine jv_callG hen hP (fun p e R s m args below meth c H locs cells slots ls mc ms Qc hC hL hn9 hH hM hf9 => ?_) k
  have hU := hC.2.2.2.2.2.1
  have hsz : ls.size = M.2.2.1 := hL.1.trans hn9
  have hp : PreS s H (jv_Pc X As h) As := ⟨jv_Pc.blind _ _ _, fun U hU9 hW => ⟨rfl, hU.warm hW, by rw [hU9]; exact hH⟩⟩
  rcases hl with hl | ⟨host, hl⟩
  · exact va_runS (Ts := []) ⟨hC.1, hC.2.1, hC.2.2.2.1, hC.2.2.2.2.1, fun w hw => by cases hw⟩ hM ⟨jv_callB hC hm hl hf, hU.1.use hv rfl args⟩ hp rfl hn hsz rfl (lv_room hw) hd hf9
  · exact va_runSN (Ts := []) ⟨hC.1, hC.2.1, hC.2.2.2.1, hC.2.2.2.2.1, fun w hw => by cases hw⟩ hM ⟨jv_callN hC hm hl hf, hU.1.use hv rfl args, trivial⟩ hp rfl hn hsz rfl (lv_room hw) hd hf9
theorem jv_callI {γ : Type} {en' : γ → jr} {pv : γ → Option Value} {M' : jm} {As : List Value} {b i n : Nat} {o1 : Option (γ × jh)} {K : γ → jh → Option (α × jh)} (hd : decode M.2.1 pc = .ok (.invokespecial i, 3)) (hen : ∀ a, en' a = .inl (pv a)) (hl : jv_lk M.1.cls i M') (hm : jv_me M' n) (hv : jv_mi M') (hy : M'.1.name = "<init>") (hr : M'.2.2.2.1 = none) (hf : jv_fit M M') (hn : As.length = n) (hS : S0 = As.reverse ++ .ref b :: S) (hw : (S.map fun v => v.category).sum ≤ 8)
    (hP : jv_P X M' en' (.ref b :: As) h o1) (k : ∀ a h1, jv_O X M b0 en (pc + 3) L ((pv a).toList ++ S) h1 (K a h1)) : jv_O X M b0 en pc L S0 h (bd o1 K) := by
  subst hS
  refine jv_callG hen hP (fun p e R s m args below meth c H locs cells slots ls mc ms Qc hC hL hn9 hH hM hf9 => ?_) k
  have hU := hC.2.2.2.2.2.1
  have hsz : ls.size = M.2.2.1 := hL.1.trans hn9
  have hp : PreS s H (jv_Pc X (.ref b :: As) h) (.ref b :: As) := ⟨jv_Pc.blind _ _ _, fun U hU9 hW => ⟨rfl, hU.warm hW, by rw [hU9]; exact hH⟩⟩
  rcases hl with hl | ⟨host, hl⟩
  · have hB : CallB R s args M.1.cls i M'.1 M'.2.1 M'.2.2.1 none [jv_cw M'] (jv_rm M' mc ms) mc ms n := by rw [← hr]; exact jv_callB hC hm hl hf
    exact va_runI (Ts := []) ⟨hC.1, hC.2.1, hC.2.2.2.1, hC.2.2.2.2.1, fun w hw => by cases hw⟩ hM ⟨hB, hy, hU.1.use hv rfl args⟩ hp rfl hn hsz rfl (lv_room hw) hd hf9
  · have hB : va_CN R s args M.1.cls i M'.1 host M'.2.1 M'.2.2.1 none [jv_cw M'] (jv_rm M' mc ms) mc ms n := by rw [← hr]; exact jv_callN hC hm hl hf
    exact va_runIN (Ts := []) ⟨hC.1, hC.2.1, hC.2.2.2.1, hC.2.2.2.2.1, fun w hw => by cases hw⟩ hM ⟨hB, hy, hU.1.use hv rfl args⟩ hp rfl hn hsz rfl (lv_room hw) hd hf9
/-- Object's own constructor -/
theorem jv_obj {a i : Nat} (hd : decode M.2.1 pc = .ok (.invokespecial i, 3)) (w1 : Cond.methodLink M.1.cls i Lib.objectInit ∈ lw_tbl) (w2 : Cond.instanceMethod Lib.objectInit ∈ lw_tbl) (w3 : Cond.code Lib.objectInit ⟨#[0xb1]⟩ 1 none ∈ lw_tbl) (hw : (S.map fun v => v.category).sum ≤ 8) (hf : 1 ≤ M.2.2.2.2.1 ∧ 20 ≤ M.2.2.2.2.2.1) (k : jv_O X M b0 en (pc + 3) L S h o) : jv_O X M b0 en pc L (.ref a :: S) h o :=
  jv_go (fun p e R s m args below meth c H locs cells slots Q ls hC hL hn hH k9 => by
    have hT := hC.2.2.2.2.2.1.1
    have hr := lv_room (m := m) (pc := pc) (ls := ls) (rest := .ref a :: S) hw
    have h1 := hC.2.2.2.2.2.2.2.2.2.1
    have h2 := hC.2.2.2.2.2.2.2.2.2.2
    exact W.objInit hC.1 hC.2.1 hC.2.2.2.2.1 (hT.use w1 rfl args) (hT.use w2 rfl args) (hT.use w3 rfl args) rfl (hL.1.trans (hn.trans hC.2.2.2.1.symm)) rfl hd (by omega) (by omega) (k9 ls hL hn)) k
end JCall
