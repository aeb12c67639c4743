/-! throws, and calls that may throw; the natives -/
section JThr0
variable {p : Program} {l : Launch} {e : Env} {R : Room} {s : State} {m : MethodId} {args : Array Value} {below : List Frame} {meth : Method} {c : Code} {H : Heap} {locs : List Loc} {cells slots : Nat} {Q : State → Prop}
variable {mc ms : Nat} {free : Addr → Prop} {A0 A1 : Nat → Prop} {H0 : Heap} {a : Array Value} {ls : Array Slot} {st0 rest : List Value}
variable {Qc : Array Value → State → Outcome → State → Prop} {XC : String → State → State → Prop}
/-- 'throw new E()', the kit's vx_throw0 with what it says of the heap made exact -/
theorem jv_thr0 {cc : ByteArray} {pc : Nat} (hexec : p.tables.exec = Jvm.exec) (hb : c.code = cc) (hl : l.stackTraces = false) {own cls : String} {names : List String} {ik ic mc ms : Nat} {A : Nat → Prop}
    (hown : s.vm.findClass own = some m.cls) (hcls : Bundle.fit cls = true) (hnames : ∀ n ∈ names, Bundle.fit n = true)
    (hk : (Cond.classLink own ik cls).before args s = true) (hini : (Cond.initialized cls).before args s = true) (hat : ∀ w ∈ vx_at0 own ic cls names, w.before args s = true)
    (hgood : ∀ w ∈ Cond.classLink own ik cls :: Cond.initialized cls :: vx_at0 own ic cls names, vx_ot w = true)
    (hU : vx_Zq Bundle.tN "UNASSIGNED_STACK" Bundle.steD A s H) (hN : vx_Zq Bundle.tN "SUPPRESSED_SENTINEL" Bundle.listD A s H) (hsize : ls.size = c.maxLocals)
    (d0 : decode cc pc = .ok (.new ik, 3)) (d3 : decode cc (pc + 3) = .ok (.dup, 1)) (d4 : decode cc (pc + 4) = .ok (.invokespecial ic, 3)) (d7 : decode cc (pc + 7) = .ok (.athrow, 1))
    (hout : ∀ x ∈ c.exceptionTable.toList, covers x (pc + 7) = false)
    (hRframes : names.length + 3 < R.frames) (hRlocals : (rest.map fun v => v.category).sum + (13 * (names.length + 1) + 42) ≤ R.locals) (hRcells : cells + 1 ≤ R.cells) (hRslots : slots + 6 ≤ R.slots) (hlocks : meth.locks = false)
    (hx : ∀ t : State, s.vm.Alike t.vm → t.heap.size = H.size + 1 → (∀ q : Nat, q < H.size → t.heap[q]? = H[q]?) → XC cls s t)
    (hf : ∀ z ∈ locs, free z.base) (hc : cells + 1 ≤ mc) (hs : slots + 6 ≤ ms) :
    W p l e R s m args below meth c H locs cells slots (vx_MQ below Qc XC args s mc ms free) (F0 m pc ls rest) := by
  intro T hT X
  have htr : e.platform.stackTraces = false := (show e.platform.stackTraces = l.stackTraces by rw [X.admits.platform]).trans hl
  have Y := vx_rebase X (R' := { frames := R.frames, locals := R.locals, cells := 1, slots := 6 }) (Nat.le_refl _) (Nat.le_refl _) hRcells hRslots
  obtain ⟨s', hA⟩ : ∃ z, z = (T.setVm s.vm).setFrames (.invoking m args :: below) := ⟨_, rfl⟩
  rw [← hA] at Y
  have hvm : s'.vm = s.vm := by rw [hA]; rfl
  have hhp : s'.heap = H := by rw [hA]; exact hT
  have hW0 : s.WarmedH s'.vm := by rw [hvm]; exact State.WarmedH.refl s
  have hat' : ∀ w ∈ vx_at0 own ic cls names, w.before args s' = true := fun w hw => vx_ot_at hW0 hvm.symm (hgood w (List.mem_cons_of_mem _ (List.mem_cons_of_mem _ hw))) (hat w hw)
  have hk' : (Cond.classLink own ik cls).before args s' = true := vx_ot_at hW0 hvm.symm (hgood _ List.mem_cons_self) hk
  have hini' : (Cond.initialized cls).before args s' = true := vx_ot_at hW0 hvm.symm (hgood _ (List.mem_cons_of_mem _ List.mem_cons_self)) hini
  have hU' : vx_Zq Bundle.tN "UNASSIGNED_STACK" Bundle.steD A s' s'.heap := by rw [hhp]; exact vx_Zq.moved hW0.alike hU
  have hN' : vx_Zq Bundle.tN "SUPPRESSED_SENTINEL" Bundle.listD A s' s'.heap := by rw [hhp]; exact vx_Zq.moved hW0.alike hN
  have h : ∀ w ∈ Bundle.ownAtoms0 own ic cls names, w.before args s' = true := vx_own hat' (vx_isRefq hU'.1) (vx_isRefq hN'.1) hU'.2.word hN'.2.word
  have hown' : s'.vm.findClass own = some m.cls := by rw [hvm]; exact hown
  have hins : (Cond.instantiable cls 6).before args s' = true := h _ (by simp [Bundle.ownAtoms0])
  obtain ⟨vm₁, cX, kX, hfX, hkX, -, -, X₁, st1⟩ := Y.newCold hexec (own := own) (C := cls) (index := ik) (n := 6) hown' hk' hins hini'
    (g := F0 m pc ls rest) rfl (by rw [hb]; exact d0) (Nat.le_refl _) (Nat.le_refl _)
  generalize hT1 : (T.setVm vm₁).pushCell { cls := cX, slots := kX.instanceTypes.map defaultValue, vm := .none } = T1 at X₁ st1
  have hcat : (Value.ref T.heap.size).category = 1 := rfl
  have hcellA : T1.heap[T.heap.size]? = some (freshCell cX kX) := by rw [← hT1]; exact State.heap_pushCell_size _ _
  have d3' : decode c.code (pc + 3) = .ok (.dup, 1) := by rw [hb]; exact d3
  obtain ⟨U, hsteps, hrun, hend, hW, hsame, ce, hce, hO⟩ := X₁.ctorThrow0 hexec htr (own := own) (cls := cls) (names := names) (ic := ic) hown' hcls hnames h (fun x hx => nomatch hx) hfX hkX hcellA (by rw [hhp, hT]; exact Nat.le_refl _)
    (g := { method := m, pc := pc + 4, locals := ls, stack := .ref T.heap.size :: .ref T.heap.size :: rest, locked := none }) rfl hsize rfl rfl (rest := rest) rfl
    (by rw [hb]; exact d4) (by rw [hb]; exact d7) hout hRframes (by simp only [List.map_cons, List.sum_cons, hcat]; omega) hlocks
  obtain ⟨f1, f2⟩ := vx_frame hsame
  rw [hhp] at f1 f2
  have f3 : U.heap.size = H.size + 1 := by
    have g1 : U.heap.size ≤ s'.heap.size + (0 + 1) := hsame.2.2.1
    have g2 : T.heap.size < U.heap.size := (Array.getElem?_eq_some_iff.mp hce).1
    rw [hhp] at g1
    rw [hT] at g2
    omega
  have hWs : s.WarmedH U.vm := State.WarmedH.trans hW0 hW
  have hcl : s.vm.findClass cls = some ce.cls := by
    have h9 := hO.cls
    rw [hvm] at h9
    exact h9
  have hall : s.sameButNew ({ U with vm := s.vm } : State) locs mc ms := by
    subst hA
    obtain ⟨e1, e2⟩ := hsame
    rw [State.setFrames_setFrames] at e1
    have h2 : (T.setVm s.vm).sameButNew ({ U with vm := s.vm } : State) [] (0 + 1) (0 + 6) := ⟨e1, e2⟩
    have h3 := X.same.trans h2
    rw [List.append_nil] at h3
    exact h3.mono hc hs
  refine ⟨U, ?_, .threw T.heap.size, hrun, hend, Or.inr ⟨T.heap.size, rfl, cls, ce, locs, hx U hWs.alike f3 (fun q hq => f2 q hq (fun z hz => nomatch hz)), hce, hO.vm, hcl, hWs, hall, hf⟩⟩
  refine st1 _ ?_
  show Steps p.tables e below (T1.setTop { method := m, pc := pc + 3, locals := ls, stack := .ref T.heap.size :: rest, locked := none }) _
  jvm_step X₁.here [X₁.here.top, hexec, d3', Value.category]
  exact hsteps
end JThr0
/-- one cell more, of six slots, that nobody reads -/
def jt (h : jh) : jh := (h.1 + 1, h.2.1 + 6, h.2.2)
def jv_thw (ik ic : Nat) (cls : String) : Prop := ∀ w ∈ Cond.classLink RX12 ik cls :: Cond.initialized cls :: vx_at0 RX12 ic cls ["java/lang/RuntimeException", "java/lang/Exception"], w ∈ lw_tbl ∧ (goodWord w || jv_nw w) = true ∧ vx_ot w = true
section JThr
variable {α : Type} {X : jx} {M : jm} {b0 : Nat × Nat} {en : α → jr} {pc : Nat} {L : List (Option Value)} {S S0 : List Value} {h : jh} {o : Option (α × jh)}
theorem jv_throw {ik ic : Nat} {cls : String} {a : α} (d0 : decode M.2.1 pc = .ok (.new ik, 3)) (d3 : decode M.2.1 (pc + 3) = .ok (.dup, 1)) (d4 : decode M.2.1 (pc + 4) = .ok (.invokespecial ic, 3)) (d7 : decode M.2.1 (pc + 7) = .ok (.athrow, 1)) (hM : M.1.cls = RX12) (hh : M.2.2.2.2.2.2 = []) (hcls : Bundle.fit cls = true) (hw : jv_thw ik ic cls) (hS : (S.map fun v => v.category).sum ≤ 8) (hf : 6 ≤ M.2.2.2.2.1 ∧ 100 ≤ M.2.2.2.2.2.1) (he : en a = .inr cls) : jv_O X M b0 en pc L S h (some (a, jt h)) := by
  intro a9 h' e0
  cases e0
  refine ⟨⟨Nat.le_succ _, Nat.le_add_right _ _⟩, fun b1 b2 p e R s m args below meth c H locs ls hC hc hs hlo hL hn hH => ?_⟩
  have hU := hC.2.2.2.2.2.1
  have hK := hU.2.2.1
  have hfr := hC.2.2.2.2.2.2.2.2.2.1
  have hlc := hC.2.2.2.2.2.2.2.2.2.2
  have hc : h.1 + 1 - b0.1 ≤ R.cells := hc
  have hs : h.2.1 + 6 - b0.2 ≤ R.slots := hs
  refine jv_thr0 (own := RX12) (A := jv_A X) (names := ["java/lang/RuntimeException", "java/lang/Exception"]) hC.1 hC.2.1 hK.1 (by rw [← hM]; exact hC.2.2.2.2.1) hcls (by decide) (hU.1.use (hw _ List.mem_cons_self).1 (hw _ List.mem_cons_self).2.1 args) (hU.1.use (hw _ (List.mem_cons_of_mem _ List.mem_cons_self)).1 (hw _ (List.mem_cons_of_mem _ List.mem_cons_self)).2.1 args)
    (fun w hw9 => hU.1.use (hw w (List.mem_cons_of_mem _ (List.mem_cons_of_mem _ hw9))).1 (hw w (List.mem_cons_of_mem _ (List.mem_cons_of_mem _ hw9))).2.1 args) (fun w hw9 => (hw w hw9).2.2) (hK.2.2.1.1.kept hH.old) (hK.2.2.1.2.kept hH.old) (hL.1.trans (hn.trans hC.2.2.2.1.symm)) d0 d3 d4 d7
    (fun x hx => by rw [hC.2.2.2.2.2.2.2.2.1, hh] at hx; cases hx) (by show 2 + 3 < _; omega) (by show _ + (13 * 3 + 42) ≤ _; omega) (by omega) (by omega) hC.2.2.2.2.2.2.1 (fun t hal hz ho => ⟨he, ?_⟩) hlo (by show _ ≤ h.1 + 1 - b0.1; omega) (by show _ ≤ h.2.1 + 6 - b0.2; omega)
  obtain ⟨y1, y2, y3, y4⟩ := hH
  refine ⟨by rw [hz, y1]; rfl, Nat.le_succ_of_le y2, fun q hq => ?_, fun q => ?_⟩
  · rw [ho q (by omega)]; exact y3 q hq
  · rcases y4 q with y5 | ⟨y5, y6, y7⟩
    · exact Or.inl y5
    · exact Or.inr ⟨y5, Nat.lt_succ_of_lt y6, y7.kept (ho q (by omega))⟩
/-- a call that may throw, in a method without handlers: what is thrown goes on -/
def bX {γ δ : Type} (o : Option ((γ ⊕ String) × jh)) (K : γ → jh → Option ((δ ⊕ String) × jh)) : Option ((δ ⊕ String) × jh) := match o with
  | some (.inl a, h) => K a h
  | some (.inr E, h) => some (.inr E, h)
  | none => none
end JThr
