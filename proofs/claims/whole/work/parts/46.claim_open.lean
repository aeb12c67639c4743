/-! THE CLAIM OUT OF ONE WALK OF THE LAW'S BODY. Your part is whole_start (and what it stands on); all else here is the same for every law, but numbers. -/
def R_law : String := "SpaceWardenLaw"
def lw_P (b : Addr) (xs : List Int32) (args : Array Value) (s : State) : Prop := args = #[.ref b] ∧ s.IntsAt b xs ∧ xs.length ≤ 3072 ∧ (Jvm.Cond.and given_1 narrow_1).before args s = true
def lw_Q (_ : Array Value) (s : State) (o : Outcome) (t : State) : Prop := o = .returned (some (.int 1)) ∧ Framed s o t [] 601024 7293034
def lw_Z (below : List Frame) (a : Array Value) (s : State) : State → Prop := fun t => ∃ o, t.status = .running ∧ Ended t below o ∧ lw_Q a s o t
/-- the law's own end, with 1 on the stack, nothing written that was there before, its room as the claim has it -/
theorem lw_ret {p : Program} {l : Launch} {e : Env} {s : State} {m : MethodId} {below : List Frame} {meth : Method} {c : Code} {b : Nat} (hx : p.tables.exec = Jvm.exec) (hb : c.code = code) (hr : meth.sig.returnType = ret) (hlocks : meth.locks = false) {pc : Nat} {H : Heap} {ls : Array Slot} (hdg : decode code pc = .ok (.ireturn, 1)) : W p l e room_1 s m #[Value.ref b] below meth c H [] 601024 7293034 (lw_Z below #[Value.ref b] s) (F0 m pc ls [.int 1]) := by
  intro T hT X
  obtain ⟨fs, hret, hrun, hended, hW, hframe⟩ := X.leave (v := some (.int 1)) (hlocks := hlocks) (fun h => by rw [hr] at h; cases h)
  have hmeth' : T.vm.method? m = some meth := X.method'
  refine ⟨T.setFrames fs, ?_, .returned (some (.int 1)), hrun, hended, rfl, ⟨_, rfl⟩, hW, hframe⟩
  jvm_step X.here [X.here.top, hx, hb, hdg, hmeth', hr, ret, narrow_b1]
  (try refine ⟨rfl, ?_⟩); (try refine ⟨rfl, ?_⟩)
  first | (intro acts; rw [hret _ acts rfl rfl rfl]) | rw [hret _ _ rfl rfl rfl]
  exact Steps.refl _
/-- what holds at the law's entry: the machine, the code, the tables' words (any of lw_tbl by 'hts w (by decide +kernel)'), the script of L ints xs at the cell b, what the Statement gives of the start (any of its parts by flat_of_before) -/
def lw_At (p : Program) (s : State) (m : MethodId) (meth : Method) (c : Code) (b L : Nat) (xs : Nat → Int32) : Prop :=
  p.tables.exec = Jvm.exec ∧ c.code = code ∧ meth.sig.returnType = ret ∧ c.maxLocals = 7 ∧ s.vm.findClass R_law = some m.cls ∧ (∀ w ∈ lw_tbl, w.before #[Value.ref b] s = true) ∧ va_X b L xs s s.heap ∧ b < s.heap.size ∧ meth.locks = false ∧ meth.name = "law" ∧ c.exceptionTable.toList = [] ∧ (Jvm.Cond.and given_1 narrow_1).before #[Value.ref b] s = true
/-- THE PURE FACT: what is left when the machine is gone: the printed function of the law answers 1 on every script, within the room -/
def jv_pure : Prop := ∀ (L : Nat) (xs : Nat → Int32) (z : Nat), L ≤ 3072 → ∃ h' : jh, f_L_law L xs (z, 0, fun _ => jv_abs) = some (1, h') ∧ h'.1 ≤ z + 601024 ∧ h'.2.1 ≤ 7293034
theorem jv_mono {p : Program} {l : Launch} {e : Env} {R : Room} {s : State} {m : MethodId} {args : Array Value} {below : List Frame} {meth : Method} {c : Code} {H : Heap} {locs : List Loc} {cells slots : Nat} {Q Q' : State → Prop} {g : JFrame} (hq : ∀ t, Q t → Q' t) (k : W p l e R s m args below meth c H locs cells slots Q g) : W p l e R s m args below meth c H locs cells slots Q' g := fun T hT X => by
  obtain ⟨t, a, b⟩ := k T hT X
  exact ⟨t, a, hq t b⟩
theorem whole_start_open (hp : jv_pure) {p : Program} {e : Env} {s : State} {m : MethodId} {below : List Frame} {meth : Method} {c : Code} (l : Launch) (hflags : l.flags = flags0) {b L : Nat} {xs : Nat → Int32} (hL : L ≤ 3072) (C0 : lw_At p s m meth c b L xs) : W p l e room_1 s m #[Value.ref b] below meth c s.heap [] 0 0 (lw_Z below #[Value.ref b] s) (entryFrame m ([Value.ref b] : List Value).toArray 7) := by
  obtain ⟨hx, hb, hr, hml, hown, hts, hX, hbl, hlocks, hname, htab, hgv⟩ := C0
  have hst : l.stackTraces = false := by
    unfold Launch.stackTraces
    rw [hflags]
    decide +kernel
  obtain ⟨X, e1, e2, e3, e4, e5, hU⟩ := jv_Uof hst hL hts hX hbl hgv
  obtain ⟨h', hf, hc, hs⟩ := hp L xs s.heap.size hL
  have hO := o_f_L_law X (s.heap.size, 0) (s.heap.size, 0, fun _ => jv_abs)
  rw [e4, e5] at hO
  obtain ⟨hm, hW⟩ := hO 1 h' hf
  have hz : jv_z X = s.heap.size := by show X.2.2.1.size = _; rw [e2]
  rw [lg_entry_eq]
  have hLe : jv_L [some (.ref (jv_ad X 13)), none, none, none, none, none, none] ((lg_sl [Value.ref b] ++ List.replicate (7 - (lg_sl [Value.ref b]).length) Slot.unset).toArray) := by
    have := jv_L.entry (av := [Value.ref b]) (n := 7) (by simp [Value.category]) (Nat.le_of_ble_eq_true rfl)
    rw [e3]
    exact this
  have h9 := hW (Nat.le_refl _) (Nat.le_refl _) p e room_1 s m #[Value.ref b] below meth c s.heap [] _ ⟨hx, hb, hr, hml, hown, hU, hlocks, hname, htab, by decide, by decide⟩ (by show h'.1 - s.heap.size ≤ 601024; omega) (by show h'.2.1 - 0 ≤ 7293034; omega) (fun q hq => by cases hq) hLe rfl ⟨rfl, by rw [hz]; exact Nat.le_refl _, fun q hq => by rw [e2], fun q => Or.inl rfl⟩
  have h9 : W p X.1 e room_1 s m #[Value.ref b] below meth c s.heap [] (s.heap.size - s.heap.size) (0 - 0) (vx_MQ below (jv_Q X (jeI 1) h') (jv_XC X (jeI 1) h') #[Value.ref b] s (h'.1 - s.heap.size) (h'.2.1 - 0) (jv_A X)) (F0 m 0 ((lg_sl [Value.ref b] ++ List.replicate (7 - (lg_sl [Value.ref b]).length) Slot.unset).toArray) []) := h9
  rw [Nat.sub_self, Nat.sub_self, e1] at h9
  refine jv_mono (fun t ht => ?_) h9
  obtain ⟨o, b1, b2, b3⟩ := ht
  rcases b3 with ⟨⟨v, hv, ho, -⟩, Lc, hfe, hl⟩ | ⟨q, -, E, ce, L', ⟨hxx, -⟩, -⟩
  · cases hv
    refine ⟨o, b1, b2, ho, hfe.1, hfe.2.1, hfe.2.2.weaken (fun y hy hlt => absurd hlt (Nat.not_lt.mpr ?_)) (by omega) (by omega)⟩
    have h8 : jv_z X ≤ y.base := hl y hy
    rw [hz] at h8
    exact h8
  · cases hxx
