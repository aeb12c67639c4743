/-! constants that stand in the old heap; the context of a frame; the judgement -/
def jv_nm : List String := ["FORK", "USER", "NUMBERS", "MOUNTS", "MAP", "BECOME", "MOUNT", "ENTER", "END", "KILL", "SHARE"]
def jv_wd : List String := ["fork", "user", "numbers", "mounts", "map", "become", "mount", "enter", "end", "kill", "share"]
def jv_tx : List (List Nat) := (["fork", "user", "numbers", "mounts", "map", "become", "mount", "enter", "end", "kill", "share", "p", "psnnm", "pn", "psn", "ppk", "pp"] : List String).map fun s => s.toList.map Char.toNat
def jv_sh : List Nat := [11, 11, 11, 11, 12, 13, 14, 15, 11, 16, 11]
def jv_K (X : jx) (U : State) : Prop :=
  X.1.stackTraces = false ∧ (va_X (jv_ad X 13) X.2.2.2.2.2.1 X.2.2.2.2.2.2 U X.2.2.1 ∧ jv_ad X 13 < jv_z X ∧ X.2.2.2.2.2.1 ≤ 3072) ∧
  (vx_Zq Bundle.tN "UNASSIGNED_STACK" Bundle.steD (jv_A X) U X.2.2.1 ∧ vx_Zq Bundle.tN "SUPPRESSED_SENTINEL" Bundle.listD (jv_A X) U X.2.2.1) ∧
  (∀ i : Nat, i < 11 → va_Z RX1 (jv_nm.getD i "") "LSpaceWarden$Act;" (.ref (jv_ad X i)) (jv_A X) U X.2.2.1 ∧ va_O RX1 (jv_ad X i) (jv_A X) U X.2.2.1 ∧ va_OF "java/lang/Enum" "ordinal" "I" (.int (Int32.ofNat i)) (jv_ad X i) (jv_A X) U X.2.2.1 ∧
    va_OF RX1 "word" "Ljava/lang/String;" (.ref (jv_ad X (20 + i))) (jv_ad X i) (jv_A X) U X.2.2.1 ∧ va_OF RX1 "shape" "Ljava/lang/String;" (.ref (jv_ad X (20 + jv_sh.getD i 0))) (jv_ad X i) (jv_A X) U X.2.2.1) ∧
  (∀ i j : Nat, i < 11 → j < 11 → jv_ad X i = jv_ad X j → i = j) ∧
  (va_Z RX0 "$SwitchMap$SpaceWarden$Act" "[I" (.ref (jv_ad X 11)) (jv_A X) U X.2.2.1 ∧ va_T .int (jv_ad X 11) 11 (fun j => .int (Int32.ofNat (j + 1))) (jv_A X) U X.2.2.1) ∧
  (va_Z RX1 "ALL" "[LSpaceWarden$Act;" (.ref (jv_ad X 12)) (jv_A X) U X.2.2.1 ∧ va_T (.object RX1) (jv_ad X 12) 11 (fun j => .ref (jv_ad X j)) (jv_A X) U X.2.2.1) ∧
  ((∀ i : Nat, i < 17 → va_O "java/lang/String" (jv_ad X (20 + i)) (jv_A X) U X.2.2.1 ∧ va_OF "java/lang/String" "coder" "B" (.int 0) (jv_ad X (20 + i)) (jv_A X) U X.2.2.1 ∧ va_OF "java/lang/String" "value" "[B" (.ref (jv_ad X (40 + i))) (jv_ad X (20 + i)) (jv_A X) U X.2.2.1 ∧ va_T .byte (jv_ad X (40 + i)) ((jv_tx.map List.length).getD i 0) (fun j => .int (((jv_tx.map fun l => l.map Int32.ofNat).getD i []).getD j 0)) (jv_A X) U X.2.2.1) ∧ True) ∧
  (∀ i : Nat, i < 11 → vk_R RX13 (9 + 2 * i) (jv_wd.getD i "") (jv_ad X (20 + i)) U) ∧
  va_Z "java/lang/String" "COMPACT_STRINGS" "Z" (.int 1) (jv_A X) U X.2.2.1 ∧ va_Zq "jdk/internal/util/Preconditions" "SIOOBE_FORMATTER" "Ljava/util/function/BiFunction;" (jv_A X) U X.2.2.1 ∧ va_Nc "java/lang/IllegalArgumentException" "java/util/NoSuchElementException" U
theorem jv_K.warm {X : jx} {s U : State} (hW : s.WarmedH U.vm) (h : jv_K X s) : jv_K X U := by
  obtain ⟨h1, ⟨h2, h2'⟩, ⟨h3, h4⟩, h5, h6, ⟨h7, h8⟩, ⟨h9, h10⟩, h11, h12, h13, h14, h15⟩ := h
  have a := hW.alike
  exact ⟨h1, ⟨h2.moved a, h2'⟩, ⟨h3.moved a, h4.moved a⟩, fun i hi => ⟨(h5 i hi).1.moved a, (h5 i hi).2.1.moved a, (h5 i hi).2.2.1.moved a, (h5 i hi).2.2.2.1.moved a, (h5 i hi).2.2.2.2.moved a⟩, h6, ⟨h7.moved a, h8.moved a⟩, ⟨h9.moved a, h10.moved a⟩, ⟨fun i hi => ⟨(h11.1 i hi).1.moved a, (h11.1 i hi).2.1.moved a, (h11.1 i hi).2.2.1.moved a, (h11.1 i hi).2.2.2.moved a⟩, trivial⟩, fun i hi => (h12 i hi).warm hW, h13.moved a, h14.moved a, h15.moved a⟩
abbrev jv_ty (X : jx) : List (ClassId × FieldType) := [(X.2.2.2.1 0, .int), (X.2.2.2.1 1, .long), (X.2.2.2.1 2, .object RX11), (X.2.2.2.1 3, .object "java/lang/String")]
/-- what a state's tables and old heap say -/
def jv_U (X : jx) (U : State) : Prop := jv_T U ∧ va_K X.2.1 vwCl (jv_ty X) U ∧ jv_K X U ∧ va_AO RX11 U ∧ va_AO "java/lang/String" U
theorem jv_U.warm {X : jx} {s U : State} (hW : s.WarmedH U.vm) (h : jv_U X s) : jv_U X U := ⟨h.1.warm hW, va_K.moved hW.alike h.2.1, h.2.2.1.warm hW, va_AO.moved hW.alike h.2.2.2.1, va_AO.moved hW.alike h.2.2.2.2⟩
def jv_C (X : jx) (M : jm) (p : Program) (R : Room) (s : State) (m : MethodId) (meth : Method) (c : Code) : Prop :=
  p.tables.exec = Jvm.exec ∧ c.code = M.2.1 ∧ meth.sig.returnType = M.2.2.2.1 ∧ c.maxLocals = M.2.2.1 ∧ s.vm.findClass M.1.cls = some m.cls ∧ jv_U X s ∧ meth.locks = false ∧ meth.name = M.1.name ∧ c.exceptionTable.toList = tableOf M.2.2.2.2.2.2 ∧ M.2.2.2.2.1 ≤ R.frames ∧ M.2.2.2.2.2.1 ≤ R.locals
def jv_Q (X : jx) (r : jr) (h' : jh) : Array Value → State → Outcome → State → Prop := fun _ _ o t => ∃ v, r = .inl v ∧ o = .returned v ∧ jv_H X h' t.heap
def jv_XC (X : jx) (r : jr) (h' : jh) : String → State → State → Prop := fun E _ t => r = .inr E ∧ jv_H X h' t.heap
def jv_V (X : jx) (M : jm) (b0 : Nat × Nat) (pc : Nat) (L : List (Option Value)) (S : List Value) (h : jh) (r : jr) (h' : jh) : Prop :=
  (h.1 ≤ h'.1 ∧ h.2.1 ≤ h'.2.1) ∧ (b0.1 ≤ h.1 → b0.2 ≤ h.2.1 → ∀ (p : Program) (e : Env) (R : Room) (s : State) (m : MethodId) (args : Array Value) (below : List Frame) (meth : Method) (c : Code) (H : Heap) (locs : List Loc) (ls : Array Slot),
    jv_C X M p R s m meth c → h'.1 - b0.1 ≤ R.cells → h'.2.1 - b0.2 ≤ R.slots → (∀ q ∈ locs, jv_z X ≤ q.base) → jv_L L ls → L.length = M.2.2.1 → jv_H X h H →
    W p X.1 e R s m args below meth c H locs (h.1 - b0.1) (h.2.1 - b0.2) (vx_MQ below (jv_Q X r h') (jv_XC X r h') args s (h'.1 - b0.1) (h'.2.1 - b0.2) (jv_A X)) (F0 m pc ls S))
def jv_O {α : Type} (X : jx) (M : jm) (b0 : Nat × Nat) (en : α → jr) (pc : Nat) (L : List (Option Value)) (S : List Value) (h : jh) (o : Option (α × jh)) : Prop := ∀ (a : α) (h' : jh), o = some (a, h') → jv_V X M b0 pc L S h (en a) h'
/-- how an answer is told -/
abbrev jeI : Int32 → jr := fun r => .inl (some (.int r))
abbrev jeV : Unit → jr := fun _ => .inl none
abbrev jeQ : Option Nat → jr := fun r => .inl (some (va_rf r))
abbrev jeR : Nat → jr := fun r => .inl (some (.ref r))
abbrev jeIX : Int32 ⊕ String → jr := fun r => match r with
  | .inl v => .inl (some (.int v))
  | .inr E => .inr E
abbrev jeVX : Unit ⊕ String → jr := fun r => match r with
  | .inl _ => .inl none
  | .inr E => .inr E
section JR
variable {α : Type} {X : jx} {M : jm} {b0 : Nat × Nat} {en : α → jr} {pc : Nat} {L : List (Option Value)} {S : List Value} {h : jh} {o : Option (α × jh)}
/-- an instruction that leaves the heap -/
theorem jv_go {pc' : Nat} {L' : List (Option Value)} {S' : List Value}
    (st : ∀ (p : Program) (e : Env) (R : Room) (s : State) (m : MethodId) (args : Array Value) (below : List Frame) (meth : Method) (c : Code) (H : Heap) (locs : List Loc) (cells slots : Nat) (Q : State → Prop) (ls : Array Slot), jv_C X M p R s m meth c → jv_L L ls → L.length = M.2.2.1 → jv_H X h H →
      (∀ ls' : Array Slot, jv_L L' ls' → L'.length = M.2.2.1 → W p X.1 e R s m args below meth c H locs cells slots Q (F0 m pc' ls' S')) → W p X.1 e R s m args below meth c H locs cells slots Q (F0 m pc ls S))
    (k : jv_O X M b0 en pc' L' S' h o) : jv_O X M b0 en pc L S h o := by
  intro a h' e0
  obtain ⟨k1, k2⟩ := k a h' e0
  refine ⟨k1, fun b1 b2 p e R s m args below meth c H locs ls hC hc hs hlo hL hn hH => ?_⟩
  exact st p e R s m args below meth c H locs _ _ _ ls hC hL hn hH (fun ls' hL' hn' => k2 b1 b2 p e R s m args below meth c H locs ls' hC hc hs hlo hL' hn' hH)
theorem jv_le_row {L' : List (Option Value)} (hl : jv_le L' L) (k : jv_O X M b0 en pc L' S h o) : jv_O X M b0 en pc L S h o :=
  jv_go (fun _ _ _ _ _ _ _ _ _ _ _ _ _ _ ls _ hL hn _ kk => kk ls (hL.le hl) ((jv_le_spec hl).1.trans hn)) k
theorem jv_none {a0 : Option (α × jh)} (e : a0 = none) : jv_O X M b0 en pc L S h a0 := fun a h' e0 => by rw [e] at e0; cases e0
theorem jv_iconst {n : Int} {v : Int32} (hd : decode M.2.1 pc = .ok (.iconst n, 1)) (hv : Int32.ofInt n = v) (k : jv_O X M b0 en (pc + 1) L (.int v :: S) h o) : jv_O X M b0 en pc L S h o :=
  jv_go (fun _ _ _ _ _ _ _ _ _ _ _ _ _ _ ls hC hL hn _ kk => lv_iconst hC.1 hC.2.1 hd hv (kk ls hL hn)) k
theorem jv_iload_n {q : Fin 4} {i : Nat} {x : Int32} (hd : decode M.2.1 pc = .ok (.iload_n q, 1)) (hi : (q : Nat) = i) (hl : L[i]? = some (some (.int x))) (k : jv_O X M b0 en (pc + 1) L (.int x :: S) h o) : jv_O X M b0 en pc L S h o :=
  jv_go (fun _ _ _ _ _ _ _ _ _ _ _ _ _ _ ls hC hL hn _ kk => lv_iload_n hC.1 hC.2.1 hd hi (hL.2.2 _ _ hl).2 (kk ls hL hn)) k
end JR
