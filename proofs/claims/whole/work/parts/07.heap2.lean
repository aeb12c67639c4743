/-! rows: putfield, other arrays, what is made -/
def jv_cls (ci : Nat) (C : String) (T : u_T) (N : Nat) (ty : Nat → FieldType) : Prop :=
  vwCl[ci]? = some (C, T, N) ∧ (∀ w ∈ u_ws C T N, w ∈ lw_tbl) ∧ (∀ k, k < N → parseFieldDescriptor (T k).2.2.1 = some (ty k)) ∧ ∀ a, a < N → ∀ b, b < N → a ≠ b → (T a).2.1 ≠ (T b).2.1
theorem kX2 : jv_cls 0 RX2 TX2 4 tyX2 := ⟨rfl, inX2, tyX2_ok, nmX2⟩
theorem kX3 : jv_cls 1 RX3 TX3 4 tyX3 := ⟨rfl, inX3, tyX3_ok, nmX3⟩
theorem kX4 : jv_cls 2 RX4 TX4 4 tyX4 := ⟨rfl, inX4, tyX4_ok, nmX4⟩
theorem kX5 : jv_cls 3 RX5 TX5 9 tyX5 := ⟨rfl, inX5, tyX5_ok, nmX5⟩
theorem kX6 : jv_cls 4 RX6 TX6 7 tyX6 := ⟨rfl, inX6, tyX6_ok, nmX6⟩
theorem kX7 : jv_cls 5 RX7 TX7 4 tyX7 := ⟨rfl, inX7, tyX7_ok, nmX7⟩
theorem kX8 : jv_cls 6 RX8 TX8 6 tyX8 := ⟨rfl, inX8, tyX8_ok, nmX8⟩
theorem kX9 : jv_cls 7 RX9 TX9 2 tyX9 := ⟨rfl, inX9, tyX9_ok, nmX9⟩
theorem kX10 : jv_cls 8 RX10 TX10 6 tyX10 := ⟨rfl, inX10, tyX10_ok, nmX10⟩
theorem kX11 : jv_cls 9 RX11 TX11 4 tyX11 := ⟨rfl, inX11, tyX11_ok, nmX11⟩
theorem kX12 : jv_cls 10 RX12 TX12 10 tyX12 := ⟨rfl, inX12, tyX12_ok, nmX12⟩
theorem kX13 : jv_cls 11 RX13 TX13 36 tyX13 := ⟨rfl, inX13, tyX13_ok, nmX13⟩
theorem jp_spec {h h1 : jh} {a ci k : Nat} {v : Value} (e : jp h a ci k v = some h1) : ∃ fs, h.2.2 a = jO ci fs ∧ k < fs.length ∧ h1 = jv_wr h a (jO ci (fs.set k v)) := by
  unfold jp at e
  split at e
  · next c fs hc =>
    split at e
    · next h2 => obtain ⟨h3, h4⟩ := h2; subst h3; cases e; exact ⟨fs, hc, h4, rfl⟩
    · cases e
  · cases e
def nO {β : Type} (h : jh) (ci N : Nat) (fs : List Value) (K : Nat → jh → Option β) : Option β := K h.1 (jv_al h (jO ci fs) N)
def nI4 {β : Type} (h : jh) (n : Int32) (K : Nat → jh → Option β) : Option β := if n < 0 ∨ 100000 < n.toNatClampNeg then none else K h.1 (jv_al h (jI n.toNatClampNeg (fun _ => 0)) n.toNatClampNeg)
def nL8 {β : Type} (h : jh) (n : Int32) (K : Nat → jh → Option β) : Option β := if n < 0 ∨ 100000 < n.toNatClampNeg then none else K h.1 (jv_al h (jL n.toNatClampNeg (fun _ => 0)) n.toNatClampNeg)
def nQ {β : Type} (h : jh) (t : Nat) (n : Int32) (K : Nat → jh → Option β) : Option β := if n < 0 ∨ 100000 < n.toNatClampNeg then none else K h.1 (jv_al h (jQ t n.toNatClampNeg (fun _ => none)) n.toNatClampNeg)
section JH2
variable {α : Type} {X : jx} {M : jm} {b0 : Nat × Nat} {en : α → jr} {pc : Nat} {L : List (Option Value)} {S : List Value} {h : jh} {o : Option (α × jh)}
theorem jv_put {i ci k a N : Nat} {C : String} {T : u_T} {ty0 : Nat → FieldType} {ty : FieldType} {v : Value} {h1 : jh} (hd : decode M.2.1 pc = .ok (.putfield i, 3)) (hF : jv_F M.1.cls i ci k C T N) (hQ : jv_cls ci C T N ty0)
    (hfin : (T k).2.2.2 = false ∨ ((T k).2.2.2 = true ∧ M.1.name = "<init>" ∧ (T k).1 = M.1.cls ∧ Cond.fieldLink M.1.cls i (T k).1 (T k).2.1 (T k).2.2.1 ∈ lw_tbl)) (hty : ty0 k = ty) (hn : narrow ty v = v) (hfit : fits ty v = true)
    (hv : jp h a ci k v = some h1) (kk : jv_O X M b0 en (pc + 3) L S h1 o) : jv_O X M b0 en pc L (v :: .ref a :: S) h o := by
  obtain ⟨fs, g1, g2, rfl⟩ := jp_spec hv
  obtain ⟨hc, hk, hws, hl⟩ := hF
  obtain ⟨-, -, hpd, hnm⟩ := hQ
  refine jv_goH (h1 := jv_wr h a (jO ci (fs.set k v))) ⟨rfl, rfl⟩ (fun p e R s m args below meth c H locs cells slots Q ls hC hH k9 => ?_) kk
  obtain ⟨z1, z2, hat⟩ := hH.at g1 (jv_abs_ne hc)
  have hU := hC.2.2.2.2.2.1
  have hown := hC.2.2.2.2.1
  have hts : ∀ w ∈ u_ws C T N, w.before args s = true := fun w hw => hU.1.use (hws w hw) (u_ws_good hw) args
  have hap := va_apart (own := M.1.cls) hts (fun _ h => h) ty0 hpd hnm hU.2.1 hc
  obtain ⟨r, h1, cell, q1, q2, q3, q4⟩ := hat
  have hr : r = (C, T, N) := Option.some.inj (h1.symm.trans hc)
  subst hr
  obtain ⟨hS, hfc, kC, hkC, hkind⟩ := hU.2.1.1 ci _ hc
  obtain ⟨cf, kf, fi, f, hi, hsl⟩ := hS k hk
  have hlay := hts _ (u_in_lay hk)
  unfold u_lay at hlay
  have hst := (u_facts hfc hkC (u_lays hts (fun _ h => h) hk) hi).1
  have hdp : parseFieldDescriptor (T k).2.2.1 = some ty := by rw [← hty]; exact hpd k hk
  have fin : ∀ (H' : Heap), H'[a]? = some (cell.setSlot f.slot v) → H'.size = H.size → (∀ q, q ≠ a → H'[q]? = H[q]?) → jv_H X (jv_wr h a (jO ci (fs.set k v))) H' := by
    intro H' e1 e2 e3
    rw [hsl] at e1
    exact hH.wr z1 z2 e2 e3 ⟨_, hc, t_OB.to (V := updV (vp_V fs) k v) ⟨_, e1, q2, q3, t_set q4 hap hk v⟩ (fun j _ => vp_updV_set g2 v j)⟩
  rcases hfin with hfin | ⟨hfin, hin2, hdecl, hl2⟩
  · rw [if_neg (by rw [hfin]; decide)] at hlay
    have h6 := u_store hfc hkC hkind hlay hi hdp hn hfit
    rcases hl with hl | ⟨host, hl⟩
    · exact W.putK hC.1 hC.2.1 (f := f) ⟨hown, hU.1.use hl rfl args, ⟨_, _, _, hi⟩, hst⟩ (by rw [q2]; exact h6) q1 q3 (by rw [hsl]; exact k2_hasslot (q4 k hk)) rfl rfl hd fun H' e1 e2 e3 => k9 H' _ (fin H' e1 e2 e3) z1
    · exact va_WputK hC.1 hC.2.1 (f := f) hown (hU.1.use hl rfl args) hi hst (by rw [q2]; exact h6) q1 q3 (by rw [hsl]; exact k2_hasslot (q4 k hk)) rfl rfl hd fun H' e1 e2 e3 => k9 H' _ (fin H' e1 e2 e3) z1
  · rw [if_pos hfin] at hlay
    have hcf : m.cls = cf := by
      obtain ⟨_, _, c', _, _, _, -, -, hf', -, -, -, hown2, -⟩ := Cond.laysFinal_spec hlay
      have e1 : c' = cf := by have := hi.symm.trans hf'; simp at this; exact this.1.symm
      rw [hdecl] at hown2
      rw [← e1]; exact Option.some.inj (hown.symm.trans hown2)
    have h6 := u_fits hfc hkC hkind (Or.inr hlay) hi hdp hn hfit
    exact W.putFinK hC.1 hC.2.1 hown (hU.1.use hl2 rfl args) hi hst hcf (hC.2.2.2.2.2.2.2.1.trans hin2) (by rw [q2]; exact h6) q1 q3 (by rw [hsl]; exact k2_hasslot (q4 k hk)) rfl rfl hd fun H' e1 e2 e3 => k9 H' _ (fin H' e1 e2 e3) z1
theorem jv_pV {i ci k a N : Nat} {C : String} {T : u_T} {ty0 : Nat → FieldType} {ty : FieldType} {v : Value} {K : jh → Option (α × jh)} (hd : decode M.2.1 pc = .ok (.putfield i, 3)) (hF : jv_F M.1.cls i ci k C T N) (hQ : jv_cls ci C T N ty0)
    (hfin : (T k).2.2.2 = false ∨ ((T k).2.2.2 = true ∧ M.1.name = "<init>" ∧ (T k).1 = M.1.cls ∧ Cond.fieldLink M.1.cls i (T k).1 (T k).2.1 (T k).2.2.1 ∈ lw_tbl)) (hty : ty0 k = ty) (hn : narrow ty v = v) (hfit : fits ty v = true)
    (kk : ∀ h1, jv_O X M b0 en (pc + 3) L S h1 (K h1)) : jv_O X M b0 en pc L (v :: .ref a :: S) h (pV h a ci k v K) := by
  unfold pV
  split
  · next h1 hv => exact jv_put hd hF hQ hfin hty hn hfit hv (kk h1)
  · exact jv_none rfl
theorem jv_P1 {X : jx} {a : Nat} {e : va_E} {H : Heap} (hat : va_at X.2.1 vwCl (a, e) H) : va_P X.2.1 vwCl [(a, e)] H := by
  intro k0 q hq
  have : k0 = 0 := by
    have := (List.getElem?_eq_some_iff.mp hq).1
    simp at this; exact this
  subst this
  cases hq
  exact hat
theorem jv_lnI {a : Nat} {K : Int32 → Option (α × jh)} (hd : decode M.2.1 pc = .ok (.arraylength, 1)) (kk : ∀ v, jv_O X M b0 en (pc + 1) L (.int v :: S) h (K v)) : jv_O X M b0 en pc L (.ref a :: S) h (lnI h a K) := by
  unfold lnI
  split
  · next n f hc =>
    refine jv_go (fun p e R s m args below meth c H locs cells slots Q ls hC hL hn hH k9 => ?_) (kk _)
    obtain ⟨-, -, hat⟩ := hH.at hc (by intro e; cases e)
    exact va_alen hC.1 hC.2.1 hC.2.2.2.2.2.1.2.1 (jv_P1 hat) 0 0 rfl rfl rfl hd (k9 ls hL hn)
  · exact jv_none rfl
theorem jv_laload {a : Nat} {i : Int32} {K : Int64 → Option (α × jh)} (hd : decode M.2.1 pc = .ok (.laload, 1)) (kk : ∀ v, jv_O X M b0 en (pc + 1) L (.long v :: S) h (K v)) : jv_O X M b0 en pc L (.int i :: .ref a :: S) h (aL h a i K) := by
  unfold aL
  split
  · next n f hc =>
    split
    · exact jv_none rfl
    · next hin =>
      refine jv_go (fun p e R s m args below meth c H locs cells slots Q ls hC hL hn hH k9 => ?_) (kk (f i.toNatClampNeg))
      obtain ⟨-, -, hat⟩ := hH.at hc (by intro e; cases e)
      exact va_lald hC.1 hC.2.1 hC.2.2.2.2.2.1.2.1 (jv_P1 hat) 0 1 rfl rfl hin hd (k9 ls hL hn)
  · exact jv_none rfl
theorem jv_lastore {a : Nat} {i : Int32} {v : Int64} {K : jh → Option (α × jh)} (hd : decode M.2.1 pc = .ok (.lastore, 1)) (kk : ∀ h1, jv_O X M b0 en (pc + 1) L S h1 (K h1)) : jv_O X M b0 en pc L (.long v :: .int i :: .ref a :: S) h (sL h a i v K) := by
  unfold sL
  split
  · next n f hc =>
    split
    · exact jv_none rfl
    · next hin =>
      refine jv_goH (h1 := jv_wr h a (jL n (vp_updL f i.toNatClampNeg v))) ⟨rfl, rfl⟩ (fun p e R s m args below meth c H locs cells slots Q ls hC hH k9 => ?_) (kk _)
      obtain ⟨g1, g2, hat⟩ := hH.at hc (by intro e; cases e)
      refine W.last hC.1 hC.2.1 hat ((hC.2.2.2.2.2.1.2.1.2 1 _ rfl).1 n (fun j => .long (f j))) (fun q => by cases q) (by show ¬ (i < 0 ∨ (arrV _ _ _).slots.size ≤ _); rw [arrV_size]; exact hin) rfl rfl hd fun H1 e1 z1 oq => ?_
      refine k9 H1 _ (hH.wr g1 g2 z1 oq ?_) g1
      refine e1.trans ?_
      show some ((arrV (X.2.2.2.1 1) n (fun j => Value.long (f j))).setSlot i.toNatClampNeg (.long v)) = some (arrV (X.2.2.2.1 1) n (fun j => Value.long (vp_updL f i.toNatClampNeg v j)))
      rw [arrV_store]
      congr 2
      funext q
      by_cases hq : q = i.toNatClampNeg
      · subst hq
        simp [updV, vp_updL]
      · simp [updV, vp_updL, hq]
  · exact jv_none rfl
theorem jv_aaloadW {a : Nat} {i : Int32} {K : Option Nat → Option (α × jh)} (hd : decode M.2.1 pc = .ok (.aaload, 1)) (kk : ∀ v, jv_O X M b0 en (pc + 1) L (va_rf v :: S) h (K v)) : jv_O X M b0 en pc L (.int i :: .ref a :: S) h (aQ h 2 a i K) := by
  unfold aQ
  split
  · next t n f hc =>
    split
    · next ht =>
      subst ht
      split
      · exact jv_none rfl
      · next hin =>
        refine jv_go (fun p e R s m args below meth c H locs cells slots Q ls hC hL hn hH k9 => ?_) (kk (f i.toNatClampNeg))
        obtain ⟨-, -, hat⟩ := hH.at hc (by intro e; cases e)
        exact va_aldq hC.1 hC.2.1 hC.2.2.2.2.2.1.2.1 (jv_P1 hat) 0 2 rfl rfl hin hd (k9 ls hL hn)
    · exact jv_none rfl
  · exact jv_none rfl
theorem jv_aaloadS {a : Nat} {i : Int32} {K : Option Nat → Option (α × jh)} (hd : decode M.2.1 pc = .ok (.aaload, 1)) (kk : ∀ v : Option Nat, jv_O X M b0 en (pc + 1) L (va_rf (v.map fun k => jv_ad X (20 + k)) :: S) h (K v)) : jv_O X M b0 en pc L (.int i :: .ref a :: S) h (aQ h 3 a i K) := by
  unfold aQ
  split
  · next t n f hc =>
    split
    · next ht =>
      subst ht
      split
      · exact jv_none rfl
      · next hin =>
        refine jv_go (fun p e R s m args below meth c H locs cells slots Q ls hC hL hn hH k9 => ?_) (kk (f i.toNatClampNeg))
        obtain ⟨-, -, hat⟩ := hH.at hc (by intro e; cases e)
        exact va_aldq hC.1 hC.2.1 hC.2.2.2.2.2.1.2.1 (jv_P1 hat) 0 3 rfl rfl hin hd (k9 ls hL hn)
    · exact jv_none rfl
  · exact jv_none rfl
theorem jv_lnS {a : Nat} {K : Int32 → Option (α × jh)} (hd : decode M.2.1 pc = .ok (.arraylength, 1)) (kk : ∀ v, jv_O X M b0 en (pc + 1) L (.int v :: S) h (K v)) : jv_O X M b0 en pc L (.ref a :: S) h (lnQ h 3 a K) := by
  unfold lnQ
  split
  · next t n f hc =>
    split
    · next ht =>
      subst ht
      refine jv_go (fun p e R s m args below meth c H locs cells slots Q ls hC hL hn hH k9 => ?_) (kk _)
      obtain ⟨-, -, hat⟩ := hH.at hc (by intro e; cases e)
      exact va_alen hC.1 hC.2.1 hC.2.2.2.2.2.1.2.1 (jv_P1 hat) 0 3 rfl rfl rfl hd (k9 ls hL hn)
    · exact jv_none rfl
  · exact jv_none rfl
theorem isO_spec {h : jh} {a ci : Nat} (e : isO h a ci = true) : ∃ fs, h.2.2 a = jO ci fs := by
  unfold isO at e
  split at e
  · next c fs hc => simp at e; subst e; exact ⟨fs, hc⟩
  · cases e
theorem jv_aastoreW {a v : Nat} {i : Int32} {K : jh → Option (α × jh)} (hd : decode M.2.1 pc = .ok (.aastore, 1)) (kk : ∀ h1, jv_O X M b0 en (pc + 1) L S h1 (K h1)) : jv_O X M b0 en pc L (.ref v :: .int i :: .ref a :: S) h (sW h a i v K) := by
  unfold sW
  split
  · next t n f hc =>
    split
    · next ht =>
      obtain ⟨ht, hv⟩ := ht
      subst ht
      obtain ⟨vs, hv⟩ := isO_spec hv
      split
      · exact jv_none rfl
      · next hin =>
        refine jv_goH (h1 := jv_wr h a (jQ 2 n (va_up f i.toNatClampNeg (some v)))) ⟨rfl, rfl⟩ (fun p e R s m args below meth c H locs cells slots Q ls hC hH k9 => ?_) (kk _)
        obtain ⟨g1, g2, hat⟩ := hH.at hc (by intro e; cases e)
        obtain ⟨-, -, hat2⟩ := hH.at hv (jv_abs_ne (q := (RX11, TX11, 4)) rfl)
        have hK := hC.2.2.2.2.2.1.2.1
        have h0 : ¬ i < 0 := fun q => hin (Or.inl q)
        have hlt : i.toNatClampNeg < n := Nat.not_le.mp fun q => hin (Or.inr q)
        obtain ⟨r', hr', cellV, y1, y2, y3, -⟩ := hat2
        have hcls := (hK.1 9 (RX11, TX11, 4) rfl).2
        obtain ⟨kA, comp, k1, k2, k3, -⟩ := (hK.2 2 _ rfl).2
        have hcomp : comp = X.2.1.1 9 := Option.some.inj (k3.symm.trans hcls.1)
        subst hcomp
        obtain ⟨kC, hkC, -⟩ := hcls.2
        refine W.aast hC.1 hC.2.1 hat (fun q h => by cases h) (fun h => by cases h) k1 k2 rfl hkC ⟨h0, by show _ < (arrV _ _ _).slots.size; rw [arrV_size]; exact hlt⟩ y1 (fun q h => by rw [y3] at h; cases h) (by rw [y2]; exact hkC) (by rw [y2]; exact va_assign hcls) rfl rfl hd fun H1 e1 z1 oq => ?_
        refine k9 H1 _ (hH.wr g1 g2 z1 oq ?_) g1
        refine e1.trans ?_
        show some ((arrV (X.2.2.2.1 2) n (fun j => va_rf (f j))).setSlot i.toNatClampNeg (.ref v)) = some (arrV (X.2.2.2.1 2) n (fun j => va_rf (va_up f i.toNatClampNeg (some v) j)))
        rw [arrV_store]
        congr 2
        funext q
        by_cases hq : q = i.toNatClampNeg
        · subst hq
          simp [updV, va_up, va_rf]
        · simp [updV, va_up, hq]
    · exact jv_none rfl
  · exact jv_none rfl
/-- what is made -/
theorem jv_goA {pc' : Nat} {S' : List Value} {c0 : jc} {n : Nat}
    (st : ∀ (p : Program) (e : Env) (R : Room) (s : State) (m : MethodId) (args : Array Value) (below : List Frame) (meth : Method) (c : Code) (H : Heap) (locs : List Loc) (cells slots : Nat) (Q : State → Prop) (ls : Array Slot), jv_C X M p R s m meth c → jv_H X h H → cells + 1 ≤ R.cells → slots + n ≤ R.slots →
      (∀ H1 : Heap, jv_H X (jv_al h c0 n) H1 → W p X.1 e R s m args below meth c H1 locs (cells + 1) (slots + n) Q (F0 m pc' ls S')) → W p X.1 e R s m args below meth c H locs cells slots Q (F0 m pc ls S))
    (k : jv_O X M b0 en pc' L S' (jv_al h c0 n) o) : jv_O X M b0 en pc L S h o := by
  intro a h' e0
  obtain ⟨⟨k1, k1'⟩, k2⟩ := k a h' e0
  have k1 : h.1 + 1 ≤ h'.1 := k1
  have k1' : h.2.1 + n ≤ h'.2.1 := k1'
  refine ⟨⟨by omega, by omega⟩, fun b1 b2 p e R s m args below meth c H locs ls hC hc hs hlo hL hn hH => ?_⟩
  refine st p e R s m args below meth c H locs _ _ _ ls hC hH (by omega) (by omega) (fun H1 hH1 => ?_)
  have h3 := k2 (Nat.le_trans b1 (Nat.le_succ _)) (Nat.le_trans b2 (Nat.le_add_right _ _)) p e R s m args below meth c H1 locs ls hC hc hs hlo hL hn hH1
  have e1 : (jv_al h c0 n).1 - b0.1 = h.1 - b0.1 + 1 := by show h.1 + 1 - b0.1 = _; omega
  have e2 : (jv_al h c0 n).2.1 - b0.2 = h.2.1 - b0.2 + n := by show h.2.1 + n - b0.2 = _; omega
  rw [e1, e2] at h3
  exact h3
theorem jv_new {i ci N : Nat} {C : String} {T : u_T} {ty0 : Nat → FieldType} {fs : List Value} {K : Nat → jh → Option (α × jh)} (hd : decode M.2.1 pc = .ok (.new i, 3)) (hQ : jv_cls ci C T N ty0) (w1 : Cond.classLink M.1.cls i C ∈ lw_tbl) (w2 : Cond.instantiable C N ∈ lw_tbl) (w3 : Cond.initialized C ∈ lw_tbl) (hfs : ∀ j, j < N → defaultValue (ty0 j) = vp_V fs j)
    (kk : ∀ a h1, jv_O X M b0 en (pc + 3) L (.ref a :: S) h1 (K a h1)) : jv_O X M b0 en pc L S h (nO h ci N fs K) := by
  unfold nO
  obtain ⟨hc, hws, hpd, hnm⟩ := hQ
  refine jv_goA (c0 := jO ci fs) (n := N) (fun p e R s m args below meth c H locs cells slots Q ls hC hH hcl hsl k9 => ?_) (kk h.1 _)
  have hU := hC.2.2.2.2.2.1
  have hts : ∀ w ∈ u_ws C T N, w.before args s = true := fun w hw => hU.1.use (hws w hw) (u_ws_good hw) args
  have hKn := hU.2.1.1 ci _ hc
  refine W.newcK hC.1 hC.2.1 hC.2.2.2.2.1 (hU.1.use w1 rfl args) (hU.1.use w2 rfl args) (hU.1.use w3 rfl args) rfl hd hcl hsl hKn.2.1 hH.1 fun H1 kC hkC e1 z1 o1 => ?_
  exact k9 H1 (hH.al z1 o1 ⟨_, hc, (u_born ty0 hts (fun _ h => h) hKn hkC e1 hpd).to hfs⟩)
theorem jv_newI {n : Int32} {K : Nat → jh → Option (α × jh)} (hd : decode M.2.1 pc = .ok (.newarray .int, 2)) (w1 : Cond.arrayClass .int ∈ lw_tbl) (kk : ∀ a h1, jv_O X M b0 en (pc + 2) L (.ref a :: S) h1 (K a h1)) : jv_O X M b0 en pc L (.int n :: S) h (nI4 h n K) := by
  unfold nI4
  split
  · exact jv_none rfl
  · next hn =>
    refine jv_goA (c0 := jI n.toNatClampNeg (fun _ => 0)) (n := n.toNatClampNeg) (fun p e R s m args below meth c H locs cells slots Q ls hC hH hcl hsl k9 => ?_) (kk h.1 _)
    have hU := hC.2.2.2.2.2.1
    refine va_newaK (atype := .int) hC.1 hC.2.1 (hU.1.use w1 rfl args) rfl hd rfl (fun h => hn (Or.inl h)) rfl (by show n.toNatClampNeg * 4 ≤ _; omega) hcl hsl hH.1 fun H1 cA e1 z1 o1 hAr hNm => ?_
    have hcA : cA = X.2.2.2.1 0 := Option.some.inj (hNm.symm.trans (hU.2.1.2 0 _ rfl).2)
    subst hcA
    exact k9 H1 (hH.al z1 o1 e1)
theorem jv_newL {n : Int32} {K : Nat → jh → Option (α × jh)} (hd : decode M.2.1 pc = .ok (.newarray .long, 2)) (w1 : Cond.arrayClass .long ∈ lw_tbl) (kk : ∀ a h1, jv_O X M b0 en (pc + 2) L (.ref a :: S) h1 (K a h1)) : jv_O X M b0 en pc L (.int n :: S) h (nL8 h n K) := by
  unfold nL8
  split
  · exact jv_none rfl
  · next hn =>
    refine jv_goA (c0 := jL n.toNatClampNeg (fun _ => 0)) (n := n.toNatClampNeg) (fun p e R s m args below meth c H locs cells slots Q ls hC hH hcl hsl k9 => ?_) (kk h.1 _)
    have hU := hC.2.2.2.2.2.1
    refine va_newaK (atype := .long) hC.1 hC.2.1 (hU.1.use w1 rfl args) rfl hd rfl (fun h => hn (Or.inl h)) rfl (by show n.toNatClampNeg * 8 ≤ _; omega) hcl hsl hH.1 fun H1 cA e1 z1 o1 hAr hNm => ?_
    have hcA : cA = X.2.2.2.1 1 := Option.some.inj (hNm.symm.trans (hU.2.1.2 1 _ rfl).2)
    subst hcA
    exact k9 H1 (hH.al z1 o1 e1)
theorem jv_newQ {i t : Nat} {C : String} {n : Int32} {K : Nat → jh → Option (α × jh)} (hd : decode M.2.1 pc = .ok (.anewarray i, 3)) (w1 : Cond.classLink M.1.cls i C ∈ lw_tbl) (ht : (jv_ty X)[t]? = some (X.2.2.2.1 t, .object C)) (hao : ∀ U : State, jv_U X U → va_AO C U) (kk : ∀ a h1, jv_O X M b0 en (pc + 3) L (.ref a :: S) h1 (K a h1)) : jv_O X M b0 en pc L (.int n :: S) h (nQ h t n K) := by
  unfold nQ
  split
  · exact jv_none rfl
  · next hn =>
    refine jv_goA (c0 := jQ t n.toNatClampNeg (fun _ => none)) (n := n.toNatClampNeg) (fun p e R s m args below meth c H locs cells slots Q ls hC hH hcl hsl k9 => ?_) (kk h.1 _)
    have hU := hC.2.2.2.2.2.1
    refine W.anew hC.1 hC.2.1 hC.2.2.2.2.1 (hU.1.use w1 rfl args) (va_AO.use (hao s hU)) rfl hd rfl (fun h => hn (Or.inl h)) (by omega) hcl hsl fun cA kA comp f1 f2 f3 f4 => ?_
    obtain ⟨kA', comp', x1, x2, x3, x4⟩ := (hU.2.1.2 t _ ht).2
    have hcA : cA = X.2.2.2.1 t := Option.some.inj (f1.symm.trans x4)
    subst hcA
    rw [hH.1]
    refine k9 _ (hH.al (by rw [Array.size_push, hH.1]) (fun q hq => by rw [Array.getElem?_push, if_neg (by rw [hH.1]; exact Nat.ne_of_lt hq)]) ?_)
    show _ = some (arrV (X.2.2.2.1 t) n.toNatClampNeg (fun j : Nat => va_rf ((if t = 3 then fun j : Nat => ((none : Option Nat)).map (fun k => X.2.2.2.2.1 (20 + k)) else fun _ : Nat => none) j)))
    have e9 : (fun j : Nat => va_rf ((if t = 3 then fun j : Nat => ((none : Option Nat)).map (fun k => X.2.2.2.2.1 (20 + k)) else fun _ : Nat => none) j)) = fun _ => Value.null := by
      funext j; split <;> rfl
    rw [e9, ← arrV_new, ← hH.1, Array.getElem?_push_size]
end JH2
