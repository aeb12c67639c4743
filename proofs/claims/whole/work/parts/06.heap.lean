/-! what is done to the abstract heap, and the rows -/
def jg (h : jh) (a ci k : Nat) : Option Value := match h.2.2 a with
  | .inr (.inr (.inr (c, fs))) => if c = ci then fs[k]? else none
  | _ => none
def jp (h : jh) (a ci k : Nat) (v : Value) : Option jh := match h.2.2 a with
  | .inr (.inr (.inr (c, fs))) => if c = ci ∧ k < fs.length then some (jv_wr h a (jO ci (fs.set k v))) else none
  | _ => none
def isO (h : jh) (a ci : Nat) : Bool := match h.2.2 a with
  | .inr (.inr (.inr (c, _))) => c == ci
  | _ => false
def gI {β : Type} (h : jh) (a ci k : Nat) (K : Int32 → Option β) : Option β := match jg h a ci k with
  | some (.int v) => K v
  | _ => none
def gR {β : Type} (h : jh) (a ci k : Nat) (K : Nat → Option β) : Option β := match jg h a ci k with
  | some (.ref v) => K v
  | _ => none
def gQ {β : Type} (h : jh) (a ci k : Nat) (K : Option Nat → Option β) : Option β := match jg h a ci k with
  | some (.ref v) => K (some v)
  | some .null => K none
  | _ => none
def pV {β : Type} (h : jh) (a ci k : Nat) (v : Value) (K : jh → Option β) : Option β := match jp h a ci k v with
  | some h1 => K h1
  | none => none
def jai (h : jh) (a : Nat) (i : Int32) : Option Int32 := match h.2.2 a with
  | .inl (n, f) => if i < 0 ∨ n ≤ i.toNatClampNeg then none else some (f i.toNatClampNeg)
  | _ => none
def jsi (h : jh) (a : Nat) (i v : Int32) : Option jh := match h.2.2 a with
  | .inl (n, f) => if i < 0 ∨ n ≤ i.toNatClampNeg then none else some (jv_wr h a (jI n (upd f i.toNatClampNeg v)))
  | _ => none
def aI {β : Type} (h : jh) (a : Nat) (i : Int32) (K : Int32 → Option β) : Option β := match jai h a i with
  | some v => K v
  | none => none
def sI {β : Type} (h : jh) (a : Nat) (i v : Int32) (K : jh → Option β) : Option β := match jsi h a i v with
  | some h1 => K h1
  | none => none
def lnI {β : Type} (h : jh) (a : Nat) (K : Int32 → Option β) : Option β := match h.2.2 a with
  | .inl (n, _) => K (Int32.ofNat n)
  | _ => none
def aL {β : Type} (h : jh) (a : Nat) (i : Int32) (K : Int64 → Option β) : Option β := match h.2.2 a with
  | .inr (.inl (n, f)) => if i < 0 ∨ n ≤ i.toNatClampNeg then none else K (f i.toNatClampNeg)
  | _ => none
def sL {β : Type} (h : jh) (a : Nat) (i : Int32) (v : Int64) (K : jh → Option β) : Option β := match h.2.2 a with
  | .inr (.inl (n, f)) => if i < 0 ∨ n ≤ i.toNatClampNeg then none else K (jv_wr h a (jL n (vp_updL f i.toNatClampNeg v)))
  | _ => none
def aQ {β : Type} (h : jh) (t a : Nat) (i : Int32) (K : Option Nat → Option β) : Option β := match h.2.2 a with
  | .inr (.inr (.inl (t', n, f))) => if t' = t then (if i < 0 ∨ n ≤ i.toNatClampNeg then none else K (f i.toNatClampNeg)) else none
  | _ => none
def lnQ {β : Type} (h : jh) (t a : Nat) (K : Int32 → Option β) : Option β := match h.2.2 a with
  | .inr (.inr (.inl (t', n, _))) => if t' = t then K (Int32.ofNat n) else none
  | _ => none
/-- a World is put into an array of them; a String (by its number) into an array of those -/
def sW {β : Type} (h : jh) (a : Nat) (i : Int32) (v : Nat) (K : jh → Option β) : Option β := match h.2.2 a with
  | .inr (.inr (.inl (t', n, f))) => if t' = 2 ∧ isO h v 9 = true then (if i < 0 ∨ n ≤ i.toNatClampNeg then none else K (jv_wr h a (jQ 2 n (va_up f i.toNatClampNeg (some v))))) else none
  | _ => none
def sS {β : Type} (h : jh) (a : Nat) (i : Int32) (v : Nat) (K : jh → Option β) : Option β := match h.2.2 a with
  | .inr (.inr (.inl (t', n, f))) => if t' = 3 ∧ v < 17 then (if i < 0 ∨ n ≤ i.toNatClampNeg then none else K (jv_wr h a (jQ 3 n (va_up f i.toNatClampNeg (some v))))) else none
  | _ => none
def bd {γ β : Type} (o : Option (γ × jh)) (K : γ → jh → Option β) : Option β := match o with
  | some (a, h) => K a h
  | none => none
def nn {β : Type} (r : Option Nat) (K : Nat → Option β) : Option β := match r with
  | some a => K a
  | none => none
/-- a field by its row of the pool: class ci of the worlds, its field k -/
def jv_F (own : String) (i ci k : Nat) (C : String) (T : u_T) (N : Nat) : Prop :=
  vwCl[ci]? = some (C, T, N) ∧ k < N ∧ (∀ w ∈ u_ws C T N, w ∈ lw_tbl) ∧ (Cond.fieldLink own i (T k).1 (T k).2.1 (T k).2.2.1 ∈ lw_tbl ∨ ∃ host, Cond.fieldLinkNest own i (T k).1 (T k).2.1 (T k).2.2.1 host ∈ lw_tbl)
theorem jg_spec {h : jh} {a ci k : Nat} {v : Value} (e : jg h a ci k = some v) : ∃ fs, h.2.2 a = jO ci fs ∧ fs[k]? = some v := by
  unfold jg at e
  split at e
  · next c fs hc =>
    split at e
    · next h1 => subst h1; exact ⟨fs, hc, e⟩
    · cases e
  · cases e
theorem u_ws_good {C : String} {T : u_T} {N : Nat} {w : Cond} (hw : w ∈ u_ws C T N) : (goodWord w || jv_nw w) = true := by
  unfold u_ws at hw
  obtain ⟨k, -, rfl⟩ := List.mem_map.mp hw
  unfold u_lay
  split <;> rfl
theorem jv_abs_ne {ci : Nat} {fs : List Value} {q : vw_C} (hc : vwCl[ci]? = some q) : jO ci fs ≠ jv_abs := by
  intro e
  have h1 : ci = 99 := by
    unfold jv_abs jO at e
    injection e with e; injection e with e; injection e with e; injection e
  subst h1
  simp [vwCl] at hc
section JH
variable {α : Type} {X : jx} {M : jm} {b0 : Nat × Nat} {en : α → jr} {pc : Nat} {L : List (Option Value)} {S : List Value} {h : jh} {o : Option (α × jh)}
theorem jv_get {i ci k a N : Nat} {C : String} {T : u_T} {v : Value} (hd : decode M.2.1 pc = .ok (.getfield i, 3)) (hF : jv_F M.1.cls i ci k C T N) (hv : jg h a ci k = some v) (kk : jv_O X M b0 en (pc + 3) L (v :: S) h o) : jv_O X M b0 en pc L (.ref a :: S) h o := by
  obtain ⟨fs, h1, h2⟩ := jg_spec hv
  obtain ⟨hc, hk, hws, hl⟩ := hF
  refine jv_go (fun p e R s m args below meth c H locs cells slots Q ls hC hL hn hH kk => ?_) kk
  obtain ⟨-, -, hat⟩ := hH.at h1 (jv_abs_ne hc)
  have hP : va_P X.2.1 vwCl [(a, .inr (ci, fs))] H := by
    intro k0 q hq
    have : k0 = 0 := by
      have := (List.getElem?_eq_some_iff.mp hq).1
      simp at this; exact this
    subst this
    cases hq
    exact hat
  have hU := hC.2.2.2.2.2.1
  have hts : ∀ w ∈ u_ws C T N, w.before args s = true := fun w hw => hU.1.use (hws w hw) (u_ws_good hw) args
  rcases hl with hl | ⟨host, hl⟩
  · exact va_get hC.1 hC.2.1 hts (fun _ h => h) hC.2.2.2.2.1 hU.2.1 hP 0 rfl hc k hk (hU.1.use hl rfl args) (fun _ h => h) h2 hd (kk ls hL hn)
  · exact va_getN hC.1 hC.2.1 hts (fun _ h => h) hC.2.2.2.2.1 hU.2.1 hP 0 rfl hc k hk (hU.1.use hl rfl args) (fun _ h => h) h2 hd (kk ls hL hn)
theorem jv_gI {i ci k a N : Nat} {C : String} {T : u_T} {K : Int32 → Option (α × jh)} (hd : decode M.2.1 pc = .ok (.getfield i, 3)) (hF : jv_F M.1.cls i ci k C T N) (kk : ∀ v, jv_O X M b0 en (pc + 3) L (.int v :: S) h (K v)) : jv_O X M b0 en pc L (.ref a :: S) h (gI h a ci k K) := by
  unfold gI
  split
  · next v hv => exact jv_get hd hF hv (kk v)
  · exact jv_none rfl
theorem jv_gR {i ci k a N : Nat} {C : String} {T : u_T} {K : Nat → Option (α × jh)} (hd : decode M.2.1 pc = .ok (.getfield i, 3)) (hF : jv_F M.1.cls i ci k C T N) (kk : ∀ v, jv_O X M b0 en (pc + 3) L (.ref v :: S) h (K v)) : jv_O X M b0 en pc L (.ref a :: S) h (gR h a ci k K) := by
  unfold gR
  split
  · next v hv => exact jv_get hd hF hv (kk v)
  · exact jv_none rfl
theorem jv_gQ {i ci k a N : Nat} {C : String} {T : u_T} {K : Option Nat → Option (α × jh)} (hd : decode M.2.1 pc = .ok (.getfield i, 3)) (hF : jv_F M.1.cls i ci k C T N) (kk : ∀ v, jv_O X M b0 en (pc + 3) L (va_rf v :: S) h (K v)) : jv_O X M b0 en pc L (.ref a :: S) h (gQ h a ci k K) := by
  unfold gQ
  split
  · next v hv => exact jv_get hd hF hv (kk (some v))
  · next hv => exact jv_get hd hF hv (kk none)
  · exact jv_none rfl
/-- an instruction that writes: the heap goes on as h1 -/
theorem jv_goH {pc' : Nat} {S' : List Value} {h1 : jh} (hs1 : h.1 = h1.1 ∧ h.2.1 = h1.2.1)
    (st : ∀ (p : Program) (e : Env) (R : Room) (s : State) (m : MethodId) (args : Array Value) (below : List Frame) (meth : Method) (c : Code) (H : Heap) (locs : List Loc) (cells slots : Nat) (Q : State → Prop) (ls : Array Slot), jv_C X M p R s m meth c → jv_H X h H →
      (∀ (H1 : Heap) (l1 : Loc), jv_H X h1 H1 → jv_z X ≤ l1.base → W p X.1 e R s m args below meth c H1 (locs ++ [l1]) cells slots Q (F0 m pc' ls S')) → W p X.1 e R s m args below meth c H locs cells slots Q (F0 m pc ls S))
    (k : jv_O X M b0 en pc' L S' h1 o) : jv_O X M b0 en pc L S h o := by
  intro a h' e0
  obtain ⟨k1, k2⟩ := k a h' e0
  obtain ⟨q1, q2⟩ := hs1
  rw [← q1, ← q2] at k1 k2
  refine ⟨k1, fun b1 b2 p e R s m args below meth c H locs ls hC hc hs hlo hL hn hH => ?_⟩
  exact st p e R s m args below meth c H locs _ _ _ ls hC hH (fun H1 l1 hH1 hl1 => k2 b1 b2 p e R s m args below meth c H1 (locs ++ [l1]) ls hC hc hs (fun q hq => by
    rcases List.mem_append.mp hq with h9 | h9
    · exact hlo q h9
    · rw [List.mem_singleton.mp h9]; exact hl1) hL hn hH1)
theorem jv_iaload {a : Nat} {i : Int32} {K : Int32 → Option (α × jh)} (hd : decode M.2.1 pc = .ok (.iaload, 1)) (kk : ∀ v, jv_O X M b0 en (pc + 1) L (.int v :: S) h (K v)) : jv_O X M b0 en pc L (.int i :: .ref a :: S) h (aI h a i K) := by
  unfold aI
  split
  · next v hv =>
    unfold jai at hv
    split at hv
    · next n f hc =>
      split at hv
      · cases hv
      · next hin =>
        cases hv
        refine jv_go (fun p e R s m args below meth c H locs cells slots Q ls hC hL hn hH k9 => ?_) (kk (f i.toNatClampNeg))
        obtain ⟨-, -, hat⟩ := hH.at hc (by intro e; cases e)
        have hP : va_P X.2.1 vwCl [(a, .inl (X.2.2.2.1 0, n, .inl f))] H := by
          intro k0 q hq
          have : k0 = 0 := by
            have := (List.getElem?_eq_some_iff.mp hq).1
            simp at this; exact this
          subst this
          cases hq
          exact hat
        exact va_iald hC.1 hC.2.1 hC.2.2.2.2.2.1.2.1 hP 0 0 rfl rfl hin hd (k9 ls hL hn)
    · cases hv
  · exact jv_none rfl
theorem jv_iastore {a : Nat} {i v : Int32} {K : jh → Option (α × jh)} (hd : decode M.2.1 pc = .ok (.iastore, 1)) (kk : ∀ h1, jv_O X M b0 en (pc + 1) L S h1 (K h1)) : jv_O X M b0 en pc L (.int v :: .int i :: .ref a :: S) h (sI h a i v K) := by
  unfold sI
  split
  · next h1 hv =>
    unfold jsi at hv
    split at hv
    · next n f hc =>
      split at hv
      · cases hv
      · next hin =>
        cases hv
        refine jv_goH (h1 := jv_wr h a (jI n (upd f i.toNatClampNeg v))) ⟨rfl, rfl⟩ (fun p e R s m args below meth c H locs cells slots Q ls hC hH k9 => ?_) (kk _)
        obtain ⟨g1, g2, hat⟩ := hH.at hc (by intro e; cases e)
        refine W.iast hC.1 hC.2.1 hat ((hC.2.2.2.2.2.1.2.1.2 0 _ rfl).1 n (fun j => .int (f j))) (fun q => by cases q) (by show ¬ (i < 0 ∨ (arrV _ _ _).slots.size ≤ _); rw [arrV_size]; exact hin) rfl rfl hd fun H1 e1 z1 oq => ?_
        refine k9 H1 _ (hH.wr g1 g2 z1 oq ?_) g1
        refine e1.trans ?_
        show some ((arrV (X.2.2.2.1 0) n (fun j => Value.int (f j))).setSlot i.toNatClampNeg (.int v)) = some (arrV (X.2.2.2.1 0) n (fun j => Value.int (upd f i.toNatClampNeg v j)))
        rw [arrV_store]
        congr 2
        funext q
        by_cases hq : q = i.toNatClampNeg
        · subst hq
          simp [updV, upd]
        · simp [updV, upd, hq]
    · cases hv
  · exact jv_none rfl
end JH
