/-! calls that may throw: on to the caller, or caught; methods with handlers -/
abbrev jv_cwH (M : jm) : Cond := .codeWith M.1 M.2.1 M.2.2.1 M.2.2.2.1 M.2.2.2.2.2.2
def jv_MH (X : jx) (M : jm) (av : List Value) (h : jh) (r : jr) (h' : jh) : Prop := (h.1 ≤ h'.1 ∧ h.2.1 ≤ h'.2.1) ∧
  vx_Met X.1 M.1 [jv_cwH M] (jv_rm M (h'.1 - h.1) (h'.2.1 - h.2.1)) (jv_Pc X av h) (jv_Q X r h') (jv_XC X r h') (h'.1 - h.1) (h'.2.1 - h.2.1) (jv_A X)
def jv_PH {α : Type} (X : jx) (M : jm) (en : α → jr) (av : List Value) (h : jh) (o : Option (α × jh)) : Prop := ∀ (a : α) (h' : jh), o = some (a, h') → jv_MH X M av h (en a) h'
theorem jv_PH.of {α : Type} {X : jx} {M : jm} {en : α → jr} {av : List Value} {h : jh} {o : Option (α × jh)} (hp : plainName M.1.cls = true) (hc : ∀ v ∈ av, v.category = 1) (hl : av.length ≤ M.2.2.1)
    (k : jv_O X M (h.1, h.2.1) en 0 (av.map some ++ List.replicate (M.2.2.1 - av.length) none) [] h o) : jv_PH X M en av h o := by
  intro a h' e0
  obtain ⟨k1, k2⟩ := k a h' e0
  refine ⟨k1, vx_ofWH (cc := M.2.1) (maxL := M.2.2.1) (ret := M.2.2.2.1) (hh := M.2.2.2.2.2.2) hp rfl ?_⟩
  intro p e s m args below meth c s₁ B hml hv
  obtain ⟨rfl, hU, hH⟩ := hv
  rw [lg_entry_eq]
  have htb : c.exceptionTable.toList = tableOf M.2.2.2.2.2.2 := vx_table (x := M.1) B (atoms_spec (ws := [jv_cwH M]) B.pre _ List.mem_cons_self)
  have h9 := k2 (Nat.le_refl _) (Nat.le_refl _) p e (jv_rm M (h'.1 - h.1) (h'.2.1 - h.2.1)) s m av.toArray below meth c s.heap [] _ ⟨B.exec, B.bytes, B.returns, hml, findClass_of_methodNamed B.named, hU, B.notSynchronized, (name_of_methodNamed B.named B.method).1, htb, Nat.le_refl _, Nat.le_refl _⟩ (Nat.le_refl _) (Nat.le_refl _) (fun q hq => by cases hq) (jv_L.entry hc hl) (by simp; omega) hH
  rw [Nat.sub_self, Nat.sub_self] at h9
  exact h9
theorem jv_MH.met {X : jx} {M : jm} {av : List Value} {h : jh} {v : Option Value} {h' : jh} (k : jv_MH X M av h (.inl v) h') : Met X.1 M.1 [jv_cwH M] (jv_rm M (h'.1 - h.1) (h'.2.1 - h.2.1)) (jv_Pc X av h) (jv_Q X (.inl v) h') (h'.1 - h.1) (h'.2.1 - h.2.1) (jv_A X) := by
  intro p e a1 a2 a3 s m args below b1 b2 b3 b4
  obtain ⟨n, o, c1, c2, c3, c4⟩ := k.2 p e a1 a2 a3 s m args below b1 b2 b3 b4
  refine ⟨n, o, c1, c2, c3, ?_⟩
  rcases c4 with c4 | ⟨q, -, E, ce, L, ⟨hx, -⟩, -⟩
  · exact c4
  · cases hx
section JCall2
variable {α : Type} {X : jx} {M : jm} {b0 : Nat × Nat} {en : α → jr} {pc : Nat} {L : List (Option Value)} {S S0 : List Value} {h : jh} {o : Option (α × jh)}
/-- a static call of a method with handlers, that never throws -/
def jv_meH (M : jm) (n : Nat) : Prop := jv_cwH M ∈ lw_tbl ∧ Cond.initialized M.1.cls ∈ lw_tbl ∧ (M.1.cls ≠ "java/lang/invoke/MethodHandle" ∧ M.1.cls ≠ "java/lang/invoke/VarHandle") ∧ (parseMethodDescriptor M.1.desc).map (fun d => d.parameters.length) = some n
theorem jv_callH {γ : Type} {en' : γ → jr} {pv : γ → Option Value} {M' : jm} {As : List Value} {i n : Nat} {o1 : Option (γ × jh)} {K : γ → jh → Option (α × jh)} (hd : decode M.2.1 pc = .ok (.invokestatic i, 3)) (hen : ∀ a, en' a = .inl (pv a)) (hl : Cond.methodLink M.1.cls i M'.1 ∈ lw_tbl) (hm : jv_meH M' n) (hv : jv_ms M') (hf : jv_fit M M') (hn : As.length = n) (hS : S0 = As.reverse ++ S) (hw : (S.map fun v => v.category).sum ≤ 8)
    (hP : jv_PH X M' en' As h o1) (k : ∀ a h1, jv_O X M b0 en (pc + 3) L ((pv a).toList ++ S) h1 (K a h1)) : jv_O X M b0 en pc L S0 h (bd o1 K) := by
  subst hS
  unfold bd
  split
  · next a1 h1 =>
    have hM := hP a1 h1 rfl
    rw [hen] at hM
    intro a h' e0
    obtain ⟨⟨k1, k1'⟩, k2⟩ := k a1 h1 a h' e0
    have hm1 := hM.1.1
    have hm2 := hM.1.2
    refine ⟨⟨by omega, by omega⟩, fun b1 b2 p e R s m args below meth c H locs ls hC hc hs hlo hL hn9 hH => ?_⟩
    have hU := hC.2.2.2.2.2.1
    have hT := hU.1
    have hsz : ls.size = M.2.2.1 := hL.1.trans hn9
    have hp : PreS s H (jv_Pc X As h) As := ⟨jv_Pc.blind _ _ _, fun U hU9 hW => ⟨rfl, hU.warm hW, by rw [hU9]; exact hH⟩⟩
    have cw : vx_CSW R s args M.1.cls i M'.1 M'.2.1 M'.2.2.1 M'.2.2.2.1 M'.2.2.2.2.2.2 [jv_cwH M'] (jv_rm M' (h1.1 - h.1) (h1.2.1 - h.2.1)) (h1.1 - h.1) (h1.2.1 - h.2.1) n := by
      refine ⟨⟨rfl, rfl, Nat.le_trans hf.1 hC.2.2.2.2.2.2.2.2.2.1, Nat.le_trans hf.2 hC.2.2.2.2.2.2.2.2.2.2, fun w hw9 a' U hW => ?_, List.mem_singleton.mpr rfl⟩, hT.use hm.1 rfl args, hT.use hm.2.1 rfl args, hm.2.2.1, fun sig h9 => ?_, hT.use hl rfl args, hT.use hv rfl args⟩
      · rw [List.mem_singleton.mp hw9]; exact (hU.warm hW).1.use hm.1 rfl a'
      · have h2 := hm.2.2.2
        rw [h9] at h2
        exact (Option.some.inj h2).symm
    intro T hT9 X0
    obtain ⟨v, st₀, t, T', L', h0, X', hL', e1, e2, ⟨v', hv', ho, hH'⟩, st⟩ := vx_runSW (Ts := []) ⟨hC.1, hC.2.1, hC.2.2.2.1, hC.2.2.2.2.1, fun w hw => by cases hw⟩ hM.met cw hp rfl hn hsz rfl (lv_room hw) hd (by omega) T hT9 X0
    cases hv'
    cases ho
    rw [← e1] at hH'
    have h3 := k2 (by omega) (by omega) p e R s m args below meth c T'.heap (locs ++ L') ls hC hc hs (fun q hq => by
      rcases List.mem_append.mp hq with h9 | h9
      · exact hlo q h9
      · exact hL' q h9) hL hn9 hH'
    rw [show h.1 - b0.1 + (h1.1 - h.1) = h1.1 - b0.1 by omega, show h.2.1 - b0.2 + (h1.2.1 - h.2.1) = h1.2.1 - b0.2 by omega] at X'
    obtain ⟨t9, c1, c2⟩ := h3 T' rfl X'
    exact ⟨t9, st t9 c1, c2⟩
  · exact jv_none rfl
/-- a call whose callee throws E: what comes of the frame then -/
theorem jv_thrown {M' : jm} {av : List Value} {E : String} {h1 : jh} {r : jr} {h' : jh} (hM : jv_M X M' av h (.inr E) h1) (hle : h1.1 ≤ h'.1 ∧ h1.2.1 ≤ h'.2.1)
    (run : ∀ (p : Program) (e : Env) (R : Room) (s : State) (m : MethodId) (args : Array Value) (below : List Frame) (meth : Method) (c : Code) (H : Heap) (locs : List Loc) (cells slots : Nat) (ls : Array Slot) (mc ms : Nat) (Qc : Array Value → State → Outcome → State → Prop) (XC : String → State → State → Prop), jv_C X M p R s m meth c → jv_L L ls → L.length = M.2.2.1 → jv_H X h H →
      vx_Met X.1 M'.1 [jv_cw M'] (jv_rm M' mc ms) (jv_Pc X av h) Qc XC mc ms (jv_A X) → cells + mc ≤ R.cells ∧ slots + ms ≤ R.slots → vx_Run p X.1 e R s m args below meth c H locs cells slots mc ms (F0 m pc ls S0) S (Qc av.toArray) XC (jv_A X))
    (k : ∀ (p : Program) (e : Env) (R : Room) (s : State) (m : MethodId) (args : Array Value) (below : List Frame) (meth : Method) (c : Code) (H : Heap) (locs : List Loc) (ls : Array Slot) (q : Nat) (ce : Cell), b0.1 ≤ h1.1 → b0.2 ≤ h1.2.1 → jv_C X M p R s m meth c → h'.1 - b0.1 ≤ R.cells → h'.2.1 - b0.2 ≤ R.slots → (∀ q ∈ locs, jv_z X ≤ q.base) → jv_L L ls → L.length = M.2.2.1 → jv_H X h1 H → H[q]? = some ce → ce.vm = .none → s.vm.findClass E = some ce.cls →
      vx_W p X.1 e R s m args below meth c H locs (h1.1 - b0.1) (h1.2.1 - b0.2) (vx_MQ below (jv_Q X r h') (jv_XC X r h') args s (h'.1 - b0.1) (h'.2.1 - b0.2) (jv_A X)) (F0 m pc ls S) q) : jv_V X M b0 pc L S0 h r h' := by
  have hm1 := hM.1.1
  have hm2 := hM.1.2
  refine ⟨⟨by omega, by omega⟩, fun b1 b2 p e R s m args below meth c H locs ls hC hc hs hlo hL hn hH => ?_⟩
  intro T hT X0
  rcases run p e R s m args below meth c H locs _ _ ls _ _ _ _ hC hL hn hH hM.2 (by omega) T hT X0 with ⟨v, st₀, t, T', L', h0, X', hL', e1, e2, ⟨v', hv', -⟩, st⟩ | ⟨q, st₀, t, T', L', E', ce, h0, X', hL', e1, e2, ⟨hE, hH'⟩, hce, hcv, hcl, st⟩
  · cases hv'
  · cases hE
    rw [← e1] at hH' hce
    rw [show h.1 - b0.1 + (h1.1 - h.1) = h1.1 - b0.1 by omega, show h.2.1 - b0.2 + (h1.2.1 - h.2.1) = h1.2.1 - b0.2 by omega] at X'
    obtain ⟨t9, c1, c2⟩ := k p e R s m args below meth c T'.heap (locs ++ L') ls q ce (by omega) (by omega) hC hc hs (fun q hq => by
      rcases List.mem_append.mp hq with h9 | h9
      · exact hlo q h9
      · exact hL' q h9) hL hn hH' hce hcv hcl T' rfl X'
    exact ⟨t9, st.trans c1, c2⟩
/-- .. it goes on to the caller -/
theorem jv_thrownOut {M' : jm} {av : List Value} {E : String} {h1 : jh} (hh : M.2.2.2.2.2.2 = []) (hM : jv_M X M' av h (.inr E) h1)
    (run : ∀ (p : Program) (e : Env) (R : Room) (s : State) (m : MethodId) (args : Array Value) (below : List Frame) (meth : Method) (c : Code) (H : Heap) (locs : List Loc) (cells slots : Nat) (ls : Array Slot) (mc ms : Nat) (Qc : Array Value → State → Outcome → State → Prop) (XC : String → State → State → Prop), jv_C X M p R s m meth c → jv_L L ls → L.length = M.2.2.1 → jv_H X h H →
      vx_Met X.1 M'.1 [jv_cw M'] (jv_rm M' mc ms) (jv_Pc X av h) Qc XC mc ms (jv_A X) → cells + mc ≤ R.cells ∧ slots + ms ≤ R.slots → vx_Run p X.1 e R s m args below meth c H locs cells slots mc ms (F0 m pc ls S0) S (Qc av.toArray) XC (jv_A X)) : jv_V X M b0 pc L S0 h (.inr E) h1 :=
  jv_thrown hM ⟨Nat.le_refl _, Nat.le_refl _⟩ run (fun p e R s m args below meth c H locs ls q ce b1 b2 hC hc hs hlo hL hn hH hce hcv hcl =>
    vx_out (fun x hx => by rw [hC.2.2.2.2.2.2.2.2.1, hh] at hx; cases hx) hC.2.2.2.2.2.2.1 hce hcv hcl (fun t ht _ => ⟨rfl, by rw [ht]; exact hH⟩) hlo (Nat.le_refl _) (Nat.le_refl _))
/-- the runs of calls that may throw -/
theorem jv_runVX {M' : jm} {As : List Value} {b ci i n N : Nat} {T : u_T} (hd : decode M.2.1 pc = .ok (.invokevirtual i, 3)) (hl : Cond.methodLink M.1.cls i M'.1 ∈ lw_tbl) (hm : jv_me M' n) (hv : jv_mv M') (hf : jv_fit M M') (hc : vwCl[ci]? = some (M'.1.cls, T, N)) (hn : As.length = n) (hS : S0 = As.reverse ++ .ref b :: S) (hw : (S.map fun v => v.category).sum ≤ 8) (hb : isO h b ci = true) :
    ∀ (p : Program) (e : Env) (R : Room) (s : State) (m : MethodId) (args : Array Value) (below : List Frame) (meth : Method) (c : Code) (H : Heap) (locs : List Loc) (cells slots : Nat) (ls : Array Slot) (mc ms : Nat) (Qc : Array Value → State → Outcome → State → Prop) (XC : String → State → State → Prop), jv_C X M p R s m meth c → jv_L L ls → L.length = M.2.2.1 → jv_H X h H →
      vx_Met X.1 M'.1 [jv_cw M'] (jv_rm M' mc ms) (jv_Pc X (.ref b :: As) h) Qc XC mc ms (jv_A X) → cells + mc ≤ R.cells ∧ slots + ms ≤ R.slots → vx_Run p X.1 e R s m args below meth c H locs cells slots mc ms (F0 m pc ls S0) S (Qc (Value.ref b :: As).toArray) XC (jv_A X) := by
  subst hS
  intro p e R s m args below meth c H locs cells slots ls mc ms Qc XC hC hL hn9 hH hM hf9
  have hU := hC.2.2.2.2.2.1
  have hp : PreV s H M'.1.cls b (jv_Pc X (.ref b :: As) h) As := ⟨jv_Pc.blind _ _ _, jv_recv hU hc hb hH, fun U hU9 hW => ⟨rfl, hU.warm hW, by rw [hU9]; exact hH⟩⟩
  exact vx_runV (Ts := []) ⟨hC.1, hC.2.1, hC.2.2.2.1, hC.2.2.2.2.1, fun w hw => by cases hw⟩ hM ⟨jv_callB hC hm hl hf, hU.1.use hv.1 rfl args, hU.1.use hv.2 rfl args⟩ hp rfl hn (hL.1.trans hn9) rfl (lv_room hw) hd hf9
theorem jv_runSX {M' : jm} {As : List Value} {i n : Nat} (hd : decode M.2.1 pc = .ok (.invokestatic i, 3)) (hl : Cond.methodLink M.1.cls i M'.1 ∈ lw_tbl) (hm : jv_me M' n) (hv : jv_ms M') (hf : jv_fit M M') (hn : As.length = n) (hS : S0 = As.reverse ++ S) (hw : (S.map fun v => v.category).sum ≤ 8) :
    ∀ (p : Program) (e : Env) (R : Room) (s : State) (m : MethodId) (args : Array Value) (below : List Frame) (meth : Method) (c : Code) (H : Heap) (locs : List Loc) (cells slots : Nat) (ls : Array Slot) (mc ms : Nat) (Qc : Array Value → State → Outcome → State → Prop) (XC : String → State → State → Prop), jv_C X M p R s m meth c → jv_L L ls → L.length = M.2.2.1 → jv_H X h H →
      vx_Met X.1 M'.1 [jv_cw M'] (jv_rm M' mc ms) (jv_Pc X As h) Qc XC mc ms (jv_A X) → cells + mc ≤ R.cells ∧ slots + ms ≤ R.slots → vx_Run p X.1 e R s m args below meth c H locs cells slots mc ms (F0 m pc ls S0) S (Qc As.toArray) XC (jv_A X) := by
  subst hS
  intro p e R s m args below meth c H locs cells slots ls mc ms Qc XC hC hL hn9 hH hM hf9
  have hU := hC.2.2.2.2.2.1
  have hp : PreS s H (jv_Pc X As h) As := ⟨jv_Pc.blind _ _ _, fun U hU9 hW => ⟨rfl, hU.warm hW, by rw [hU9]; exact hH⟩⟩
  exact vx_runS (Ts := []) ⟨hC.1, hC.2.1, hC.2.2.2.1, hC.2.2.2.2.1, fun w hw => by cases hw⟩ hM ⟨jv_callB hC hm hl hf, hU.1.use hv rfl args⟩ hp rfl hn (hL.1.trans hn9) rfl (lv_room hw) hd hf9
end JCall2
section JCall3
variable {δ : Type} {X : jx} {M : jm} {b0 : Nat × Nat} {en : δ ⊕ String → jr} {pc : Nat} {L : List (Option Value)} {S S0 : List Value} {h : jh}
/-- a virtual call of the class's own private method that may throw -/
def cVX {γ : Type} (h : jh) (b ci : Nat) (o1 : Option ((γ ⊕ String) × jh)) (K : γ → jh → Option ((δ ⊕ String) × jh)) : Option ((δ ⊕ String) × jh) := if isO h b ci = true then bX o1 K else none
theorem jv_callVX {γ : Type} {en' : γ ⊕ String → jr} {pv : γ → Option Value} {M' : jm} {As : List Value} {b ci i n N : Nat} {T : u_T} {o1 : Option ((γ ⊕ String) × jh)} {K : γ → jh → Option ((δ ⊕ String) × jh)} (hd : decode M.2.1 pc = .ok (.invokevirtual i, 3)) (hen : ∀ a, en' (.inl a) = .inl (pv a)) (henX : ∀ E, en' (.inr E) = .inr E) (henX2 : ∀ E, en (.inr E) = .inr E) (hh : M.2.2.2.2.2.2 = []) (hl : Cond.methodLink M.1.cls i M'.1 ∈ lw_tbl) (hm : jv_me M' n) (hv : jv_mv M') (hf : jv_fit M M') (hc : vwCl[ci]? = some (M'.1.cls, T, N)) (hn : As.length = n) (hS : S0 = As.reverse ++ .ref b :: S) (hw : (S.map fun v => v.category).sum ≤ 8)
    (hP : jv_P X M' en' (.ref b :: As) h o1) (k : ∀ a h1, jv_O X M b0 en (pc + 3) L ((pv a).toList ++ S) h1 (K a h1)) : jv_O X M b0 en pc L S0 h (cVX h b ci o1 K) := by
  unfold cVX
  split
  · next hb =>
    unfold bX
    split
    · next a1 h1 =>
      have h9 := jv_callV (en' := fun a : γ => .inl (pv a)) (o1 := some (a1, h1)) (K := K) hd (fun _ => rfl) (Or.inl hl) hm hv hf hc hn hS hw (fun a h' e => by cases e; have := hP (.inl a1) h1 rfl; rw [hen] at this; exact this) k
      unfold cV at h9
      rw [if_pos hb] at h9
      exact h9
    · next E h1 =>
      intro a h' e0
      cases e0
      have hM := hP (.inr E) h1 rfl
      rw [henX] at hM
      rw [henX2]
      exact jv_thrownOut hh hM (jv_runVX hd hl hm hv hf hc hn hS hw hb)
    · exact jv_none rfl
  · exact jv_none rfl
theorem jv_callSX {γ : Type} {en' : γ ⊕ String → jr} {pv : γ → Option Value} {M' : jm} {As : List Value} {i n : Nat} {o1 : Option ((γ ⊕ String) × jh)} {K : γ → jh → Option ((δ ⊕ String) × jh)} (hd : decode M.2.1 pc = .ok (.invokestatic i, 3)) (hen : ∀ a, en' (.inl a) = .inl (pv a)) (henX : ∀ E, en' (.inr E) = .inr E) (henX2 : ∀ E, en (.inr E) = .inr E) (hh : M.2.2.2.2.2.2 = []) (hl : Cond.methodLink M.1.cls i M'.1 ∈ lw_tbl) (hm : jv_me M' n) (hv : jv_ms M') (hf : jv_fit M M') (hn : As.length = n) (hS : S0 = As.reverse ++ S) (hw : (S.map fun v => v.category).sum ≤ 8)
    (hP : jv_P X M' en' As h o1) (k : ∀ a h1, jv_O X M b0 en (pc + 3) L ((pv a).toList ++ S) h1 (K a h1)) : jv_O X M b0 en pc L S0 h (bX o1 K) := by
  unfold bX
  split
  · next a1 h1 =>
    exact jv_callS (en' := fun a : γ => .inl (pv a)) (o1 := some (a1, h1)) (K := K) hd (fun _ => rfl) (Or.inl hl) hm hv hf hn hS hw (fun a h' e => by cases e; have := hP (.inl a1) h1 rfl; rw [hen] at this; exact this) k
  · next E h1 =>
    intro a h' e0
    cases e0
    have hM := hP (.inr E) h1 rfl
    rw [henX] at hM
    rw [henX2]
    exact jv_thrownOut hh hM (jv_runSX hd hl hm hv hf hn hS hw)
  · exact jv_none rfl
end JCall3
section JCatch
variable {α : Type} {X : jx} {M : jm} {b0 : Nat × Nat} {en : α → jr} {pc : Nat} {L : List (Option Value)} {S S0 : List Value} {h : jh}
/-- a virtual call of a public method, caught here: class c1 by the row r1 of the table -/
def cVC {γ β : Type} (h : jh) (b ci : Nat) (o1 : Option ((γ ⊕ String) × jh)) (K : γ → jh → Option β) (KX : String → jh → Option β) : Option β := if isO h b ci = true then (match o1 with
  | some (.inl a, h1) => K a h1
  | some (.inr E, h1) => KX E h1
  | none => none) else none
theorem jv_callVC {γ : Type} {en' : γ ⊕ String → jr} {pv : γ → Option Value} {M' : jm} {As : List Value} {b ci i n N : Nat} {T : u_T} {o1 : Option ((γ ⊕ String) × jh)} {K : γ → jh → Option (α × jh)} {KX : String → jh → Option (α × jh)} (hd : decode M.2.1 pc = .ok (.invokevirtual i, 3)) (hen : ∀ a, en' (.inl a) = .inl (pv a)) (henX : ∀ E, en' (.inr E) = .inr E) (hl : Cond.methodLink M.1.cls i M'.1 ∈ lw_tbl) (hm : jv_me M' n) (hv : jv_mv M') (hf : jv_fit M M') (hc : vwCl[ci]? = some (M'.1.cls, T, N)) (hn : As.length = n) (hS : S0 = As.reverse ++ .ref b :: S) (hw : (S.map fun v => v.category).sum ≤ 8)
    (hP : jv_P X M' en' (.ref b :: As) h o1) (k : ∀ a h1, jv_O X M b0 en (pc + 3) L ((pv a).toList ++ S) h1 (K a h1))
    (kx : ∀ (E : String) (h1 : jh), KX E h1 = none ∨ ∃ (name : String) (pre suf : List ExceptionTableEntry) (x : ExceptionTableEntry), tableOf M.2.2.2.2.2.2 = pre ++ x :: suf ∧ covers x pc = true ∧ x.catchType ≠ 0 ∧ Cond.classLink M.1.cls x.catchType name ∈ lw_tbl ∧ Cond.castable E name ∈ lw_tbl ∧
      (∀ z ∈ pre, covers z pc = false ∨ (z.catchType ≠ 0 ∧ ∃ nm : String, Cond.classLink M.1.cls z.catchType nm ∈ lw_tbl ∧ ∀ U : State, jv_K X U → va_Nc E nm U)) ∧ ∀ q : Nat, jv_O X M b0 en x.handlerPc L [.ref q] h1 (KX E h1)) : jv_O X M b0 en pc L S0 h (cVC h b ci o1 K KX) := by
  unfold cVC
  split
  · next hb =>
    split
    · next a1 h1 =>
      have h9 := jv_callV (en' := fun a : γ => .inl (pv a)) (o1 := some (a1, h1)) (K := K) hd (fun _ => rfl) (Or.inl hl) hm hv hf hc hn hS hw (fun a h' e => by cases e; have := hP (.inl a1) h1 rfl; rw [hen] at this; exact this) k
      unfold cV at h9
      rw [if_pos hb] at h9
      exact h9
    · next E h1 =>
      rcases kx E h1 with hz | ⟨name, pre, suf, x, t1, t2, t3, t4, t5, t6, t7⟩
      · exact jv_none hz
      · intro a h' e0
        have hM := hP (.inr E) h1 rfl
        rw [henX] at hM
        refine jv_thrown hM (t7 0 a h' e0).1 (jv_runVX hd hl hm hv hf hc hn hS hw hb) (fun p e R s m args below meth c H locs ls q ce b1 b2 hC hc hs hlo hL hn hH hce hcv hcl => ?_)
        have hU := hC.2.2.2.2.2.1
        exact vx_catch (own := M.1.cls) hC.2.2.2.2.1 pre x suf (hC.2.2.2.2.2.2.2.2.1.trans t1) (fun z hz => (t6 z hz).elim Or.inl (fun ⟨y1, nm, y2, y3⟩ => Or.inr ⟨y1, nm, hU.1.use y2 rfl args, y3 s hU.2.2.1⟩)) t2 t3 (hU.1.use t4 rfl args) (hU.1.use t5 rfl args) hce hcv hcl ((t7 q a h' e0).2 b1 b2 p e R s m args below meth c H locs ls hC hc hs hlo hL hn hH)
    · exact jv_none rfl
  · exact jv_none rfl
end JCatch
