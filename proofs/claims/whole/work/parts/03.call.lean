theorem wm_all {s : State} {args : Array Value} (hts : ∀ w ∈ tb_, w.before args s = true) : ∀ w ∈ tb_, ∀ (a' : Array Value) (U : State), s.WarmedH U.vm → w.before a' U = true := by
  intro w hw a' U hW
  have h1 := (List.mem_filter.mp hw).2
  rw [Bool.or_eq_true] at h1
  rcases h1 with h1 | h1
  · exact word_at hW (good_of_word h1) (hts w hw)
  · cases w <;> first
      | (simp [nestW] at h1; done)
      | exact va_Nw.use rfl (va_Nw.warmF hW (va_Nw.of rfl (hts _ hw)))
      | exact va_Nw.use rfl (va_Nw.warmM hW (va_Nw.of rfl (hts _ hw)))
/-- the end of a method: its answer and its cells as Post says, nothing else changed -/
def CQ (g : GX) (M : va_W) (Post : Option Value → va_W → Prop) : Array Value → State → Outcome → State → Prop := fun _ st oc t =>
  (∃ (r : Option Value) (M' : va_W), oc = .returned r ∧ Post r M' ∧ va_P g.1 vwCl M' t.heap ∧ va_D (va_A M st.heap.size) M') ∧ va_F (va_A M st.heap.size) st t
abbrev wsC (y : MethodName) (t : MT) : List Jvm.Cond := Jvm.Cond.code y t.1 t.2.1 t.2.2.2.1 :: tb_
/-- a method's contract: from the cells M, with these arguments, it comes to Post -/
def Ct (l : Launch) (g : GX) (y : MethodName) (t : MT) (fr lo nc ns : Nat) (as : List Value) (M : va_W) (Post : Option Value → va_W → Prop) : Prop :=
  ∀ sz : Nat, Met l y (wsC y t) ({ frames := fr, cells := nc, slots := ns, locals := lo }) (va_Pc as (fun U => U.heap.size = sz ∧ va_P g.1 vwCl M U.heap ∧ va_K g.1 vwCl (gt_ g) U ∧ va_D (fun _ => True) M)) (CQ g M Post) nc ns (va_A M sz)
/-- a frame whose end is a contract's -/
def RX (x : FX) (g : GX) (M0 : va_W) (Post : Option Value → va_W → Prop) (nc ns : Nat) : Prop := match x with
  | (_, _, _, s, _, args, below, _, _, A, Q) => A = va_A M0 s.heap.size ∧ Q = MQ below (CQ g M0 Post) args s nc ns (va_A M0 s.heap.size)
theorem argsIn : ∀ (as : List Value) (i0 : Nat), (∀ v ∈ as, v.category = 1) → ∀ (i : Nat) (v : Value), as[i]? = some v → (i0 + i, v) ∈ lv_args i0 as
  | [], _, _, i, v, h => by simp at h
  | a :: as, i0, hc, 0, v, h => by
    rw [List.getElem?_cons_zero] at h
    cases h
    unfold lv_args
    first | exact List.mem_cons_self | (simp)
  | a :: as, i0, hc, i + 1, v, h => by
    rw [List.getElem?_cons_succ] at h
    have ha : a.category = 1 := hc a List.mem_cons_self
    have h1 := argsIn as (i0 + 1) (fun w hw => hc w (List.mem_cons_of_mem _ hw)) i v h
    rw [show i0 + 1 + i = i0 + (i + 1) by omega] at h1
    unfold lv_args
    simp only [ha]
    exact List.mem_cons_of_mem _ h1
theorem lenSl (as : List Value) (hc : ∀ v ∈ as, v.category = 1) : (lg_sl as).length = as.length := by
  induction as with
  | nil => rfl
  | cons a as ih =>
    have ha : a.category = 1 := hc a List.mem_cons_self
    have h2 := ih (fun w hw => hc w (List.mem_cons_of_mem _ hw))
    simp only [lg_sl, List.flatMap_cons, ha] at h2 ⊢
    simp only [List.length_append, List.length_cons]
    simp [h2, Nat.add_comm]
theorem Ct.of {l : Launch} {g : GX} {y : MethodName} {t : MT} {fr lo nc ns : Nat} {as : List Value} {M : va_W} {Post : Option Value → va_W → Prop} (hy : plainName y.cls = true) (ho : t.2.2.1 = y.cls) (hm : t.2.2.2.2 = y.name) (hc : as.all (fun v => v.category == 1) = true) (hle : as.length ≤ t.2.1) {L : List Value} (hL : as ++ List.replicate (t.2.1 - as.length) un_ = L)
    (h : ∀ x : FX, x.2.1 = l → RX x g M Post nc ns → Go x { frames := fr, cells := nc, slots := ns, locals := lo } t g 0 L [] M 0 0) : Ct l g y t fr lo nc ns as M Post := by
  intro sz
  have hc' : ∀ v ∈ as, v.category = 1 := fun v hv => by simpa using List.all_eq_true.mp hc v hv
  refine Met.ofW (cc := t.1) (maxL := t.2.1) (ret := t.2.2.2.1) hy rfl ?_
  intro p e s m args below meth c s₁ B hml hv
  obtain ⟨rfl, hsz, hP, hK, hD0⟩ := hv
  have hts := atoms_spec (ws := wsC y t) B.pre
  have hown : s.vm.findClass y.cls = some m.cls := findClass_of_methodNamed B.named
  have hin : meth.name = y.name := (name_of_methodNamed B.named B.method).1
  subst hsz
  have hD := hD0.self (sz := s.heap.size)
  have hl := lv_entry as (n := t.2.1) (by rw [lenSl as hc']; exact hle)
  rw [lg_entry_eq]
  refine h (p, l, e, s, m, as.toArray, below, meth, c, va_A M s.heap.size, MQ below (CQ g M Post) as.toArray s nc ns (va_A M s.heap.size)) rfl ⟨rfl, rfl⟩ s.heap [] _ ⟨B.exec, B.bytes, hml, by rw [ho]; exact hown, fun w hw => hts w (List.mem_cons_of_mem _ hw), hK, fun q hq => Or.inr hq, B.notSynchronized, B.returns, by rw [hin, hm]⟩ ?_ hP hD va_S.rf
  refine ⟨⟨hl.1, hl.2.1, fun q hq => by cases hq⟩, fun i v hi hne => ?_⟩
  subst hL
  by_cases hlt : i < as.length
  · rw [List.getElem?_append_left hlt] at hi
    refine ⟨hc' v (List.mem_of_getElem? hi), ?_⟩
    have h2 := argsIn as 0 hc' i v hi
    rw [Nat.zero_add] at h2
    exact hl.2.2 (i, v) h2
  · rw [List.getElem?_append_right (by omega)] at hi
    exact absurd (List.eq_of_mem_replicate (List.mem_of_getElem? hi)) hne
section G2
variable {x : FX} {R : Room} {t : MT} {g : GX} {pc q : Nat} {L st : List Value} {M M0 : va_W} {ce sl nc ns : Nat} {Post : Option Value → va_W → Prop}
theorem g_iret {v : Int32} {ty : FieldType} (hX : RX x g M0 Post nc ns) (hd : decode t.1 pc = .ok (.ireturn, 1)) (ht : t.2.2.2.1 = some ty) (hn : narrow ty (.int v) = .int v) (h1 : ce ≤ nc) (h2 : sl ≤ ns) (hPo : Post (some (.int v)) M) : Go x R t g pc L [.int v] M ce sl := by
  obtain ⟨p, l, e, s, m, args, below, meth, c, A, Q⟩ := x
  intro H locs ls F hl hP hD hS
  obtain ⟨rfl, rfl⟩ := hX
  obtain ⟨f1, f2, f3, f4, f5, f6, f7, f8, f9, f10⟩ := F
  refine W.widen h1 h2 ?_
  exact W.zret f1 f2 (f9.trans ht) hn (fun u hu hW => ⟨⟨_, M, rfl, hPo, by rw [hu]; exact hP, hD⟩, hS.F hu⟩) hS.2.2 hd f8
theorem g_vret (hX : RX x g M0 Post nc ns) (hd : decode t.1 pc = .ok (.return_, 1)) (ht : t.2.2.2.1 = none) (h1 : ce ≤ nc) (h2 : sl ≤ ns) (hPo : Post none M) : Go x R t g pc L [] M ce sl := by
  obtain ⟨p, l, e, s, m, args, below, meth, c, A, Q⟩ := x
  intro H locs ls F hl hP hD hS
  obtain ⟨rfl, rfl⟩ := hX
  obtain ⟨f1, f2, f3, f4, f5, f6, f7, f8, f9, f10⟩ := F
  refine W.widen h1 h2 ?_
  exact W.vret f1 f2 (f9.trans ht) (fun u hu hW => ⟨⟨_, M, rfl, hPo, by rw [hu]; exact hP, hD⟩, hS.F hu⟩) hS.2.2 hd f8
theorem g_aret {a : Nat} {C : String} (hX : RX x g M0 Post nc ns) (hd : decode t.1 pc = .ok (.areturn, 1)) (ht : t.2.2.2.1 = some (.object C)) (h1 : ce ≤ nc) (h2 : sl ≤ ns) (hPo : Post (some (.ref a)) M) : Go x R t g pc L [.ref a] M ce sl := by
  obtain ⟨p, l, e, s, m, args, below, meth, c, A, Q⟩ := x
  intro H locs ls F hl hP hD hS
  obtain ⟨rfl, rfl⟩ := hX
  obtain ⟨f1, f2, f3, f4, f5, f6, f7, f8, f9, f10⟩ := F
  refine W.widen h1 h2 ?_
  exact W.aret f1 f2 (f9.trans ht) (Or.inl ⟨_, rfl⟩) (Or.inr ⟨_, rfl⟩) (fun u hu hW => ⟨⟨_, M, rfl, hPo, by rw [hu]; exact hP, hD⟩, hS.F hu⟩) hS.2.2 hd f8
end G2
/-- behind a call -/
theorem callC {p : Program} {l : Launch} {e : Env} {R : Room} {s : State} {m : MethodId} {args : Array Value} {below : List Frame} {meth : Method} {c : Code} {H : Heap} {locs : List Loc} {ce sl : Nat} {Q : State → Prop} {pc : Nat} {ls : Array Slot} {rest st0 : List Value} {a : Array Value} {A : Nat → Prop} {H0 : Heap} {mc ms : Nat} {g : GX} {M : va_W} {Post : Option Value → va_W → Prop}
    (hr : va_Run p l e R s m args below meth c H locs ce sl mc ms (F0 m pc ls st0) rest (CQ g M Post a) (va_A M H.size)) (hS : va_S A H0 H locs) (hD : va_D A M) (hA : ∀ q, H0.size ≤ q → A q)
    (kk : ∀ (r : Option Value) (M' : va_W) (H1 : Heap) (locs1 : List Loc), Post r M' → va_P g.1 vwCl M' H1 → va_D A M' → va_S A H0 H1 locs1 → W p l e R s m args below meth c H1 locs1 (ce + mc) (sl + ms) Q (F0 m (pc + 3) ls (r.toList ++ rest))) : W p l e R s m args below meth c H locs ce sl Q (F0 m pc ls st0) := by
  have hAA : ∀ q, va_A M H.size q → A q := by
    intro q h
    rcases h with ⟨k, e, h⟩ | h
    · exact hD.2 k (q, e) h
    · exact hA q (Nat.le_trans hS.1 h)
  intro T hT X
  obtain ⟨v, st₀, t, T', L, h0, X', hL, e1, e2, ⟨⟨r, M', hv, hp, hP1, hD1⟩, hz, hk⟩, st⟩ := hr T hT X
  cases hv
  rw [h0] at hz hk hD1
  obtain ⟨t2, a1, b1⟩ := kk v M' T'.heap (locs ++ L) hp (by rw [e1]; exact hP1) (hD1.weaken (fun _ z _ h => hAA z.1 h))
    ⟨Nat.le_trans hS.1 (by rw [e1]; exact hz), fun q h1 h2 => by rw [e1, hk q (Nat.lt_of_lt_of_le h1 hS.1) (fun z => h2 (hAA q z))]; exact hS.2.1 q h1 h2, fun q hq => by
      rcases List.mem_append.mp hq with h | h
      · exact hS.2.2 q h
      · exact hAA _ (hL q h)⟩ T' rfl X'
  exact ⟨t2, st t2 a1, b1⟩
theorem preOk {g : GX} {M : va_W} {s : State} {H : Heap} {as : List Value} {A : Nat → Prop} (hP : va_P g.1 vwCl M H) (hD : va_D A M) (hK : va_K g.1 vwCl (gt_ g) s) : PreS s H (va_Pc as (fun U => U.heap.size = H.size ∧ va_P g.1 vwCl M U.heap ∧ va_K g.1 vwCl (gt_ g) U ∧ va_D (fun _ => True) M)) as :=
  ⟨fun a U gg mk q => by obtain ⟨q0, q1, qP, qK, qD⟩ := q; exact ⟨q0, q1, qP, va_K.moved (u := U) (U := U.calling gg mk a) (Vm.Alike.refl U.vm) qK, qD⟩, fun U hU hW => ⟨rfl, by rw [hU], by rw [hU]; exact hP, va_K.moved hW.alike hK, hD.weaken (fun _ _ _ _ => trivial)⟩⟩
/-- what a call needs of the tables: the method's own words -/
def MW (y : MethodName) (t : MT) (n : Nat) : Prop := (Jvm.Cond.code y t.1 t.2.1 t.2.2.2.1 ∈ tb_ ∧ Jvm.Cond.initialized y.cls ∈ tb_) ∧ (y.cls ≠ "java/lang/invoke/MethodHandle" ∧ y.cls ≠ "java/lang/invoke/VarHandle" ∧ (parseMethodDescriptor y.desc).map (fun d => d.parameters.length) = some n)
theorem mwB {R : Room} {s : State} {args : Array Value} {own : String} {i : Nat} {y : MethodName} {t : MT} {n fr lo nc ns : Nat} (hts : ∀ w ∈ tb_, w.before args s = true) (hm : MW y t n) (hl : Jvm.Cond.methodLink own i y ∈ tb_) (hR : fr + 1 ≤ R.frames ∧ 8 + (t.2.1 + 11) + lo ≤ R.locals) :
    CallB R s args own i y t.1 t.2.1 t.2.2.2.1 (wsC y t) { frames := fr, cells := nc, slots := ns, locals := lo } nc ns n := by
  obtain ⟨⟨h1, h2⟩, h3, h4, h5⟩ := hm
  refine ⟨rfl, rfl, hR.1, hR.2, fun w hw => ?_, List.mem_cons_self, hts _ h1, hts _ h2, ⟨h3, h4⟩, fun sig h => ?_, hts _ hl⟩
  · rcases List.mem_cons.mp hw with rfl | hw
    · exact wm_all hts _ h1
    · exact wm_all hts _ hw
  · rw [h] at h5
    exact (Option.some.inj h5).symm
theorem mwN {R : Room} {s : State} {args : Array Value} {own host : String} {i : Nat} {y : MethodName} {t : MT} {n fr lo nc ns : Nat} (hts : ∀ w ∈ tb_, w.before args s = true) (hm : MW y t n) (hl : Jvm.Cond.methodLinkNest own i y host ∈ tb_) (hR : fr + 1 ≤ R.frames ∧ 8 + (t.2.1 + 11) + lo ≤ R.locals) :
    va_CN R s args own i y host t.1 t.2.1 t.2.2.2.1 (wsC y t) { frames := fr, cells := nc, slots := ns, locals := lo } nc ns n := by
  obtain ⟨⟨h1, h2⟩, h3, h4, h5⟩ := hm
  refine ⟨⟨rfl, rfl, hR.1, hR.2, fun w hw => ?_, List.mem_cons_self⟩, hts _ h1, hts _ h2, ⟨h3, h4⟩, fun sig h => ?_, hts _ hl⟩
  · rcases List.mem_cons.mp hw with rfl | hw
    · exact wm_all hts _ h1
    · exact wm_all hts _ hw
  · rw [h] at h5
    exact (Option.some.inj h5).symm
section G3
variable {x : FX} {R : Room} {t : MT} {g : GX} {pc q : Nat} {L st : List Value} {M : va_W} {ce sl : Nat} {Post' : Option Value → va_W → Prop} {y : MethodName} {t' : MT} {fr' lo' nc' ns' n i b ci : Nat} {as rest : List Value} {fs : List Value}
/-- a virtual call's words -/
def CV (own : String) (i : Nat) (y : MethodName) (t : MT) (n : Nat) : Prop := MW y t n ∧ Jvm.Cond.methodLink own i y ∈ tb_ ∧ Jvm.Cond.instanceMethod y ∈ tb_ ∧ Jvm.Cond.selects y.cls y y ∈ tb_
theorem g_callV (hd : decode t.1 pc = .ok (.invokevirtual i, 3)) (hq : pc + 3 = q) (hw : CV t.2.2.1 i y t' n) (hC : Ct x.2.1 g y t' fr' lo' nc' ns' (.ref b :: as) M Post') (hst : as.reverse ++ .ref b :: rest = st) (hn : as.length = n) (hR : fr' + 1 ≤ R.frames ∧ 8 + (t'.2.1 + 11) + lo' ≤ R.locals) (hcs : ce + nc' ≤ R.cells ∧ sl + ns' ≤ R.slots) (hcat : (rest.map fun v => v.category).sum ≤ 8) (k0 : Nat) (hM : M[k0]? = some (b, .inr (ci, fs))) (hci : (vwCl[ci]?).map (fun z => z.1) = some y.cls)
    (k : ∀ (r : Option Value) (M' : va_W), Post' r M' → Go x R t g q L (r.toList ++ rest) M' (ce + nc') (sl + ns')) : Go x R t g pc L st M ce sl := by
  subst hq
  subst hst
  obtain ⟨p, l, e, s, m, args, below, meth, c, A, Q⟩ := x
  intro H locs ls F hl hP hD hS
  obtain ⟨f1, f2, f3, f4, f5, f6, f7, f8, f9, f10⟩ := id F
  obtain ⟨w1, w2, w3, w4⟩ := hw
  obtain ⟨z, hz⟩ : ∃ z, vwCl[ci]? = some z := by
    cases hz : vwCl[ci]? with
    | none => rw [hz] at hci; cases hci
    | some z => exact ⟨z, rfl⟩
  have hzc : z.1 = y.cls := by rw [hz] at hci; exact Option.some.inj hci
  have hpr := preOk (as := .ref b :: as) hP hD f6
  refine callC (va_runV ⟨f1, f2, f3, f4, f5⟩ (hC H.size) ⟨mwB f5 w1 w2 hR, f5 _ w3, f5 _ w4⟩ ⟨hpr.1, hzc ▸ va_recv f6 hP hz hM, hpr.2⟩ rfl hn hl.1.1 rfl (lv_room hcat) hd hcs) hS hD f7 (fun r M' H1 locs1 hPo hP1 hD1 hS1 => ?_)
  exact k r M' hPo H1 locs1 ls F hl hP1 hD1 hS1
/-- a static call's words -/
def CS (own : String) (i : Nat) (y : MethodName) (t : MT) (n : Nat) : Prop := MW y t n ∧ Jvm.Cond.methodLink own i y ∈ tb_ ∧ Jvm.Cond.static y ∈ tb_
theorem g_callS (hd : decode t.1 pc = .ok (.invokestatic i, 3)) (hq : pc + 3 = q) (hw : CS t.2.2.1 i y t' n) (hC : Ct x.2.1 g y t' fr' lo' nc' ns' as M Post') (hst : as.reverse ++ rest = st) (hn : as.length = n) (hR : fr' + 1 ≤ R.frames ∧ 8 + (t'.2.1 + 11) + lo' ≤ R.locals) (hcs : ce + nc' ≤ R.cells ∧ sl + ns' ≤ R.slots) (hcat : (rest.map fun v => v.category).sum ≤ 8)
    (k : ∀ (r : Option Value) (M' : va_W), Post' r M' → Go x R t g q L (r.toList ++ rest) M' (ce + nc') (sl + ns')) : Go x R t g pc L st M ce sl := by
  subst hq
  subst hst
  obtain ⟨p, l, e, s, m, args, below, meth, c, A, Q⟩ := x
  intro H locs ls F hl hP hD hS
  obtain ⟨f1, f2, f3, f4, f5, f6, f7, f8, f9, f10⟩ := id F
  obtain ⟨w1, w2, w3⟩ := hw
  have hpr := preOk (as := as) hP hD f6
  refine callC (va_runS ⟨f1, f2, f3, f4, f5⟩ (hC H.size) ⟨mwB f5 w1 w2 hR, f5 _ w3⟩ hpr rfl hn hl.1.1 rfl (lv_room hcat) hd hcs) hS hD f7 (fun r M' H1 locs1 hPo hP1 hD1 hS1 => ?_)
  exact k r M' hPo H1 locs1 ls F hl hP1 hD1 hS1
/-- a constructor's words -/
def CI (own : String) (i : Nat) (y : MethodName) (t : MT) (n : Nat) : Prop := MW y t n ∧ (Jvm.Cond.methodLink own i y ∈ tb_ ∨ ∃ host, Jvm.Cond.methodLinkNest own i y host ∈ tb_) ∧ y.name = "<init>" ∧ Jvm.Cond.instanceMethod y ∈ tb_ ∧ t.2.2.2.1 = none
theorem g_callI (hd : decode t.1 pc = .ok (.invokespecial i, 3)) (hq : pc + 3 = q) (hw : CI t.2.2.1 i y t' n) (hC : Ct x.2.1 g y t' fr' lo' nc' ns' (.ref b :: as) M Post') (hst : as.reverse ++ .ref b :: rest = st) (hn : as.length = n) (hR : fr' + 1 ≤ R.frames ∧ 8 + (t'.2.1 + 11) + lo' ≤ R.locals) (hcs : ce + nc' ≤ R.cells ∧ sl + ns' ≤ R.slots) (hcat : (rest.map fun v => v.category).sum ≤ 8)
    (k : ∀ (r : Option Value) (M' : va_W), Post' r M' → Go x R t g q L (r.toList ++ rest) M' (ce + nc') (sl + ns')) : Go x R t g pc L st M ce sl := by
  subst hq
  subst hst
  obtain ⟨p, l, e, s, m, args, below, meth, c, A, Q⟩ := x
  intro H locs ls F hl hP hD hS
  obtain ⟨f1, f2, f3, f4, f5, f6, f7, f8, f9, f10⟩ := id F
  obtain ⟨w1, w2, w3, w4, w5⟩ := hw
  have hpr := preOk (as := .ref b :: as) hP hD f6
  obtain ⟨tc, tn, to, tr, tm⟩ := t'
  dsimp only at w5
  subst w5
  rcases w2 with w2 | ⟨host, w2⟩
  · refine callC (va_runI ⟨f1, f2, f3, f4, f5⟩ (hC H.size) ⟨mwB f5 w1 w2 hR, w3, f5 _ w4⟩ hpr rfl hn hl.1.1 rfl (lv_room hcat) hd hcs) hS hD f7 (fun r M' H1 locs1 hPo hP1 hD1 hS1 => ?_)
    exact k r M' hPo H1 locs1 ls F hl hP1 hD1 hS1
  · refine callC (va_runIN ⟨f1, f2, f3, f4, f5⟩ (hC H.size) ⟨mwN f5 w1 w2 hR, w3, f5 _ w4⟩ hpr rfl hn hl.1.1 rfl (lv_room hcat) hd hcs) hS hD f7 (fun r M' H1 locs1 hPo hP1 hD1 hS1 => ?_)
    exact k r M' hPo H1 locs1 ls F hl hP1 hD1 hS1
theorem g_objInit {a : Nat} (hd : decode t.1 pc = .ok (.invokespecial i, 3)) (hq : pc + 3 = q) (h1 : Jvm.Cond.methodLink t.2.2.1 i objectInit ∈ tb_) (h2 : Jvm.Cond.instanceMethod objectInit ∈ tb_) (h3 : Jvm.Cond.code objectInit ⟨#[0xb1]⟩ 1 none ∈ tb_) (hf : 1 ≤ R.frames) (hlo : (st.map fun v => v.category).sum + 12 ≤ R.locals) (k : Go x R t g q L st M ce sl) : Go x R t g pc L (.ref a :: st) M ce sl := by
  subst hq
  obtain ⟨p, l, e, s, m, args, below, meth, c, A, Q⟩ := x
  intro H locs ls F hl hP hD hS
  obtain ⟨f1, f2, f3, f4, f5, f6, f7, f8, f9, f10⟩ := id F
  refine W.objInit f1 f2 f4 (f5 _ h1) (f5 _ h2) (f5 _ h3) rfl (by rw [f3]; exact hl.1.1) rfl hd hf ?_ (k H locs ls F hl hP hD hS)
  show 2 * 0 + (st.map fun v => v.category).sum + 12 ≤ R.locals
  omega
/-- a class that is made: its words, its fields at birth -/
def NW (own : String) (i ci N : Nat) (fs : List Value) : Prop := ∃ (C : String) (T : u_T) (ty : Nat → FieldType), vwCl[ci]? = some (C, T, N) ∧ (∀ w ∈ u_ws C T N, w ∈ tb_) ∧ (∀ k, k < N → parseFieldDescriptor (T k).2.2.1 = some (ty k)) ∧ Jvm.Cond.classLink own i C ∈ tb_ ∧ Jvm.Cond.instantiable C N ∈ tb_ ∧ Jvm.Cond.initialized C ∈ tb_ ∧ ∀ j, j < N → defaultValue (ty j) = vp_V fs j
theorem g_new {N : Nat} (hd : decode t.1 pc = .ok (.new i, 3)) (hq : pc + 3 = q) (hw : NW t.2.2.1 i ci N fs) (hc : ce + 1 ≤ R.cells) (hs : sl + N ≤ R.slots) (k : ∀ a : Nat, Go x R t g q L (.ref a :: st) (M ++ [(a, .inr (ci, fs))]) (ce + 1) (sl + N)) : Go x R t g pc L st M ce sl := by
  subst hq
  obtain ⟨p, l, e, s, m, args, below, meth, c, A, Q⟩ := x
  intro H locs ls F hl hP hD hS
  obtain ⟨f1, f2, f3, f4, f5, f6, f7, f8, f9, f10⟩ := id F
  obtain ⟨C, T, ty, h1, h2, h3, h4, h5, h6, h7⟩ := hw
  exact va_new f1 f2 f5 h2 ty h3 f4 (f5 _ h4) (f5 _ h5) (f5 _ h6) f6 hP hD hS f7 h1 h7 hc hs hd (fun a H1 hP1 hD1 hS1 => k a H1 locs ls F hl hP1 hD1 hS1)
theorem g_newi {n : Int32} {N : Nat} (hd : decode t.1 pc = .ok (.newarray .int, 2)) (hq : pc + 2 = q) (hw : Jvm.Cond.arrayClass .int ∈ tb_) (hn : ¬ n < 0) (hN : n.toNatClampNeg = N) (hb : N * 4 ≤ 536870912) (hc : ce + 1 ≤ R.cells) (hs : sl + N ≤ R.slots) (k : ∀ a : Nat, Go x R t g q L (.ref a :: st) (M ++ [(a, .inl (g.2.1, N, .inl (fun _ => 0)))]) (ce + 1) (sl + N)) : Go x R t g pc L (.int n :: st) M ce sl := by
  subst hq
  obtain ⟨p, l, e, s, m, args, below, meth, c, A, Q⟩ := x
  intro H locs ls F hl hP hD hS
  obtain ⟨f1, f2, f3, f4, f5, f6, f7, f8, f9, f10⟩ := id F
  refine va_newa (atype := .int) (a0 := (N, .inl (fun _ => 0))) (ty := .int) f1 f2 (f5 _ hw) rfl f6 hP hD hS f7 (fun _ => rfl) hn hN hb hc hs hd (fun a cA H1 hK1 hP1 hD1 hS1 => ?_)
  have e1 : va_RA s cA .int := (hK1.2 2 (cA, .int) rfl).2
  have e2 : va_RA s g.2.1 .int := (hK1.2 0 (g.2.1, .int) rfl).2
  have e3 : cA = g.2.1 := Option.some.inj (e1.symm.trans e2)
  subst e3
  exact k a H1 locs ls F hl hP1 hD1 hS1
theorem g_newz {n : Int32} {N : Nat} (hd : decode t.1 pc = .ok (.newarray .boolean, 2)) (hq : pc + 2 = q) (hw : Jvm.Cond.arrayClass .boolean ∈ tb_) (hn : ¬ n < 0) (hN : n.toNatClampNeg = N) (hb : N * 1 ≤ 536870912) (hc : ce + 1 ≤ R.cells) (hs : sl + N ≤ R.slots) (k : ∀ a : Nat, Go x R t g q L (.ref a :: st) (M ++ [(a, .inl (g.2.2, N, .inl (fun _ => 0)))]) (ce + 1) (sl + N)) : Go x R t g pc L (.int n :: st) M ce sl := by
  subst hq
  obtain ⟨p, l, e, s, m, args, below, meth, c, A, Q⟩ := x
  intro H locs ls F hl hP hD hS
  obtain ⟨f1, f2, f3, f4, f5, f6, f7, f8, f9, f10⟩ := id F
  refine va_newa (atype := .boolean) (a0 := (N, .inl (fun _ => 0))) (ty := .boolean) f1 f2 (f5 _ hw) rfl f6 hP hD hS f7 (fun _ => rfl) hn hN hb hc hs hd (fun a cA H1 hK1 hP1 hD1 hS1 => ?_)
  have e1 : va_RA s cA .boolean := (hK1.2 2 (cA, .boolean) rfl).2
  have e2 : va_RA s g.2.2 .boolean := (hK1.2 1 (g.2.2, .boolean) rfl).2
  have e3 : cA = g.2.2 := Option.some.inj (e1.symm.trans e2)
  subst e3
  exact k a H1 locs ls F hl hP1 hD1 hS1
end G3
