def nestW : Jvm.Cond → Bool
  | .fieldLinkNest .. => true
  | .methodLinkNest .. => true
  | _ => false
/-- the tables' words that a call hands on -/
def tb_ : List Jvm.Cond := lw_tbl.filter (fun w => goodWord w || nestW w)
abbrev GX : Type := va_G × ClassId × ClassId
abbrev gt_ (g : GX) : List (ClassId × FieldType) := [(g.2.1, .int), (g.2.2, .boolean)]
/-- an unset local -/
abbrev un_ : Value := .float 0
/-- what is known of the locals -/
def LH (nL : Nat) (L : List Value) (ls : Array Slot) : Prop := lv_has ls nL [] ∧ ∀ (i : Nat) (v : Value), L[i]? = some v → v ≠ un_ → v.category = 1 ∧ ls[i]? = some (.val v)
abbrev FX : Type := Program × Launch × Env × State × MethodId × Array Value × List Frame × Method × Code × (Nat → Prop) × (State → Prop)
/-- a method: code, locals, class, answer, name -/
abbrev MT : Type := ByteArray × Nat × String × Option FieldType × String
def Fix (x : FX) (t : MT) (g : GX) : Prop := match x with
  | (p, _, _, s, m, args, _, meth, c, A, _) => p.tables.exec = Jvm.exec ∧ c.code = t.1 ∧ c.maxLocals = t.2.1 ∧ s.vm.findClass t.2.2.1 = some m.cls ∧ (∀ w ∈ tb_, w.before args s = true) ∧ va_K g.1 vwCl (gt_ g) s ∧ (∀ q, s.heap.size ≤ q → A q) ∧ meth.locks = false ∧ meth.sig.returnType = t.2.2.2.1 ∧ meth.name = t.2.2.2.2
/-- from pc, with these locals, this stack, these cells, the frame comes to its end -/
def Go (x : FX) (R : Room) (t : MT) (g : GX) (pc : Nat) (L st : List Value) (M : va_W) (ce sl : Nat) : Prop := match x with
  | (p, l, e, s, m, args, below, meth, c, A, Q) => ∀ (H : Heap) (locs : List Loc) (ls : Array Slot), Fix (p, l, e, s, m, args, below, meth, c, A, Q) t g → LH t.2.1 L ls → va_P g.1 vwCl M H → va_D A M → va_S A s.heap H locs → W p l e R s m args below meth c H locs ce sl Q (F0 m pc ls st)
/-- the locals as the kit's list -/
def prL (L : List Value) : List (Nat × Value) := (List.range L.length).filterMap fun i => match L[i]? with
  | some v => if v = un_ then none else some (i, v)
  | none => none
theorem prL_mem {L : List Value} {q : Nat × Value} : q ∈ prL L ↔ L[q.1]? = some q.2 ∧ q.2 ≠ un_ := by
  obtain ⟨i, v⟩ := q
  unfold prL
  rw [List.mem_filterMap]
  constructor
  · rintro ⟨j, hj, h⟩
    cases hL : L[j]? with
    | none => rw [hL] at h; cases h
    | some w =>
      rw [hL] at h
      dsimp only at h
      by_cases hw : w = un_
      · rw [if_pos hw] at h; cases h
      · rw [if_neg hw] at h
        cases h
        exact ⟨hL, hw⟩
  · rintro ⟨h1, h2⟩
    refine ⟨i, List.mem_range.mpr (List.getElem?_eq_some_iff.mp h1).1, ?_⟩
    dsimp only at h1 h2
    rw [h1]
    dsimp only
    rw [if_neg h2]
theorem LH.has {nL : Nat} {L : List Value} {ls : Array Slot} (h : LH nL L ls) : lv_has ls nL (prL L) := by
  obtain ⟨⟨h1, h2, -⟩, h3⟩ := h
  refine ⟨h1, h2, fun q hq => ?_⟩
  obtain ⟨a, b⟩ := prL_mem.mp hq
  exact (h3 q.1 q.2 a b).2
theorem LH.put {nL : Nat} {L : List Value} {ls ls' : Array Slot} {i : Nat} {v : Value} (h : LH nL L ls) (hc : v.category = 1) (h' : lv_has ls' nL ((i, v) :: (prL L).filter (fun q => !(q.1 == i) && !(q.1 + 1 == i && q.2.category == 2)))) : LH nL (L.set i v) ls' := by
  obtain ⟨g1, g2, g3⟩ := h'
  refine ⟨⟨g1, g2, fun q hq => by cases hq⟩, fun j w hj hw => ?_⟩
  by_cases hji : j = i
  · subst hji
    have hlt : j < L.length := by
      have := (List.getElem?_eq_some_iff.mp hj).1
      rwa [List.length_set] at this
    rw [List.getElem?_set_self hlt] at hj
    cases hj
    exact ⟨hc, g3 (j, v) List.mem_cons_self⟩
  · rw [List.getElem?_set_ne (Ne.symm hji)] at hj
    have hcw := (h.2 j w hj hw).1
    refine ⟨hcw, g3 (j, w) (List.mem_cons_of_mem _ (List.mem_filter.mpr ⟨prL_mem.mpr ⟨hj, hw⟩, ?_⟩))⟩
    simp [hji, hcw]
/-- fewer locals known -/
def LSb : List Value → List Value → Prop
  | [], _ => True
  | a :: l, b :: m => (a = un_ ∨ a = b) ∧ LSb l m
  | a :: l, [] => a = un_ ∧ LSb l []
theorem LSb.at : ∀ {L' L : List Value}, LSb L' L → ∀ (i : Nat) (v : Value), L'[i]? = some v → v ≠ un_ → L[i]? = some v
  | [], _, _, i, v, h, _ => by simp at h
  | a :: l, b :: m, h, 0, v, hv, hne => by
    rw [List.getElem?_cons_zero] at hv ⊢
    cases hv
    rcases h.1 with z | z
    · exact absurd z hne
    · rw [z]
  | a :: l, b :: m, h, i + 1, v, hv, hne => by
    rw [List.getElem?_cons_succ] at hv ⊢
    exact LSb.at h.2 i v hv hne
  | a :: l, [], h, 0, v, hv, hne => by
    rw [List.getElem?_cons_zero] at hv
    cases hv
    exact absurd h.1 hne
  | a :: l, [], h, i + 1, v, hv, hne => by
    rw [List.getElem?_cons_succ] at hv
    exact absurd (LSb.at h.2 i v hv hne) (by rw [List.getElem?_nil]; exact fun z => by cases z)
section G1
variable {x : FX} {R : Room} {t : MT} {g : GX} {pc q : Nat} {L st : List Value} {M : va_W} {ce sl : Nat}
theorem g_weak {L' : List Value} (h : LSb L' L) (k : Go x R t g pc L' st M ce sl) : Go x R t g pc L st M ce sl := by
  obtain ⟨p, l, e, s, m, args, below, meth, c, A, Q⟩ := x
  intro H locs ls F hl hP hD hS
  exact k H locs ls F ⟨hl.1, fun i v hv hne => hl.2 i v (h.at i v hv hne) hne⟩ hP hD hS
theorem g_widen {ce' sl' : Nat} (h1 : ce ≤ ce') (h2 : sl ≤ sl') (k : Go x R t g pc L st M ce' sl') : Go x R t g pc L st M ce sl := by
  obtain ⟨p, l, e, s, m, args, below, meth, c, A, Q⟩ := x
  intro H locs ls F hl hP hD hS
  exact W.widen h1 h2 (k H locs ls F hl hP hD hS)
/-- fewer cells known -/
theorem g_sub {M' : va_W} (is : List Nat) (hn : va_nd is = true) (hs : is.map (fun i => M[i]?) = M'.map some) (k : Go x R t g pc L st M' ce sl) : Go x R t g pc L st M ce sl := by
  obtain ⟨p, l, e, s, m, args, below, meth, c, A, Q⟩ := x
  intro H locs ls F hl hP hD hS
  refine k H locs ls F hl (fun k0 q0 hk => ?_) (hD.sub is hn hs) hS
  have h1 : (is.map (fun i => M[i]?))[k0]? = some (some q0) := by rw [hs, List.getElem?_map, hk]; rfl
  rw [List.getElem?_map] at h1
  cases hi : is[k0]? with
  | none => rw [hi] at h1; cases h1
  | some i => rw [hi] at h1; exact hP i q0 (Option.some.inj h1)
theorem g_iadd {a b : Int32} (hd : decode t.1 pc = .ok (.iadd, 1)) (hq : pc + 1 = q) (k : Go x R t g q L (.int (a + b) :: st) M ce sl) : Go x R t g pc L (.int b :: .int a :: st) M ce sl := by
  subst hq
  obtain ⟨p, l, e, s, m, args, below, meth, c, A, Q⟩ := x
  intro H locs ls F hl hP hD hS
  exact lv_iadd F.1 F.2.1 hd (k H locs ls F hl hP hD hS)
theorem g_isub {a b : Int32} (hd : decode t.1 pc = .ok (.isub, 1)) (hq : pc + 1 = q) (k : Go x R t g q L (.int (a - b) :: st) M ce sl) : Go x R t g pc L (.int b :: .int a :: st) M ce sl := by
  subst hq
  obtain ⟨p, l, e, s, m, args, below, meth, c, A, Q⟩ := x
  intro H locs ls F hl hP hD hS
  exact lv_isub F.1 F.2.1 hd (k H locs ls F hl hP hD hS)
theorem g_imul {a b : Int32} (hd : decode t.1 pc = .ok (.imul, 1)) (hq : pc + 1 = q) (k : Go x R t g q L (.int (a * b) :: st) M ce sl) : Go x R t g pc L (.int b :: .int a :: st) M ce sl := by
  subst hq
  obtain ⟨p, l, e, s, m, args, below, meth, c, A, Q⟩ := x
  intro H locs ls F hl hP hD hS
  exact lv_imul F.1 F.2.1 hd (k H locs ls F hl hP hD hS)
theorem g_iand {a b : Int32} (hd : decode t.1 pc = .ok (.iand, 1)) (hq : pc + 1 = q) (k : Go x R t g q L (.int (a &&& b) :: st) M ce sl) : Go x R t g pc L (.int b :: .int a :: st) M ce sl := by
  subst hq
  obtain ⟨p, l, e, s, m, args, below, meth, c, A, Q⟩ := x
  intro H locs ls F hl hP hD hS
  exact lv_iand F.1 F.2.1 hd (k H locs ls F hl hP hD hS)
theorem g_ior {a b : Int32} (hd : decode t.1 pc = .ok (.ior, 1)) (hq : pc + 1 = q) (k : Go x R t g q L (.int (a ||| b) :: st) M ce sl) : Go x R t g pc L (.int b :: .int a :: st) M ce sl := by
  subst hq
  obtain ⟨p, l, e, s, m, args, below, meth, c, A, Q⟩ := x
  intro H locs ls F hl hP hD hS
  exact lv_ior F.1 F.2.1 hd (k H locs ls F hl hP hD hS)
theorem g_ixor {a b : Int32} (hd : decode t.1 pc = .ok (.ixor, 1)) (hq : pc + 1 = q) (k : Go x R t g q L (.int (a ^^^ b) :: st) M ce sl) : Go x R t g pc L (.int b :: .int a :: st) M ce sl := by
  subst hq
  obtain ⟨p, l, e, s, m, args, below, meth, c, A, Q⟩ := x
  intro H locs ls F hl hP hD hS
  exact lv_ixor F.1 F.2.1 hd (k H locs ls F hl hP hD hS)
theorem g_ishl {a b : Int32} (hd : decode t.1 pc = .ok (.ishl, 1)) (hq : pc + 1 = q) (k : Go x R t g q L (.int (a <<< (b &&& 31)) :: st) M ce sl) : Go x R t g pc L (.int b :: .int a :: st) M ce sl := by
  subst hq
  obtain ⟨p, l, e, s, m, args, below, meth, c, A, Q⟩ := x
  intro H locs ls F hl hP hD hS
  exact lv_ishl F.1 F.2.1 hd (k H locs ls F hl hP hD hS)
theorem g_ishr {a b : Int32} (hd : decode t.1 pc = .ok (.ishr, 1)) (hq : pc + 1 = q) (k : Go x R t g q L (.int (a >>> (b &&& 31)) :: st) M ce sl) : Go x R t g pc L (.int b :: .int a :: st) M ce sl := by
  subst hq
  obtain ⟨p, l, e, s, m, args, below, meth, c, A, Q⟩ := x
  intro H locs ls F hl hP hD hS
  exact lv_ishr F.1 F.2.1 hd (k H locs ls F hl hP hD hS)
theorem g_iushr {a b : Int32} (hd : decode t.1 pc = .ok (.iushr, 1)) (hq : pc + 1 = q) (k : Go x R t g q L (.int (a.toUInt32 >>> (b.toUInt32 &&& Int32.toUInt32 31)).toInt32 :: st) M ce sl) : Go x R t g pc L (.int b :: .int a :: st) M ce sl := by
  subst hq
  obtain ⟨p, l, e, s, m, args, below, meth, c, A, Q⟩ := x
  intro H locs ls F hl hP hD hS
  exact lv_iushr F.1 F.2.1 hd rfl (k H locs ls F hl hP hD hS)
theorem g_idiv {a b : Int32} (hd : decode t.1 pc = .ok (.idiv, 1)) (hq : pc + 1 = q) (hne : ¬ b = 0) (k : Go x R t g q L (.int (a / b) :: st) M ce sl) : Go x R t g pc L (.int b :: .int a :: st) M ce sl := by
  subst hq
  obtain ⟨p, l, e, s, m, args, below, meth, c, A, Q⟩ := x
  intro H locs ls F hl hP hD hS
  exact lv_idiv F.1 F.2.1 hd hne (k H locs ls F hl hP hD hS)
theorem g_irem {a b : Int32} (hd : decode t.1 pc = .ok (.irem, 1)) (hq : pc + 1 = q) (hne : ¬ b = 0) (k : Go x R t g q L (.int (a - a / b * b) :: st) M ce sl) : Go x R t g pc L (.int b :: .int a :: st) M ce sl := by
  subst hq
  obtain ⟨p, l, e, s, m, args, below, meth, c, A, Q⟩ := x
  intro H locs ls F hl hP hD hS
  exact lv_irem F.1 F.2.1 hd hne (k H locs ls F hl hP hD hS)
theorem g_iconst {n : Int} {v : Int32} (hd : decode t.1 pc = .ok (.iconst n, 1)) (hq : pc + 1 = q) (hv : Int32.ofInt n = v) (k : Go x R t g q L (.int v :: st) M ce sl) : Go x R t g pc L (st) M ce sl := by
  subst hq
  obtain ⟨p, l, e, s, m, args, below, meth, c, A, Q⟩ := x
  intro H locs ls F hl hP hD hS
  exact lv_iconst F.1 F.2.1 hd hv (k H locs ls F hl hP hD hS)
theorem g_bipush {n : Int} {v : Int32} (hd : decode t.1 pc = .ok (.bipush n, 2)) (hq : pc + 2 = q) (hv : (Int8.ofInt n).toInt32 = v) (k : Go x R t g q L (.int v :: st) M ce sl) : Go x R t g pc L (st) M ce sl := by
  subst hq
  obtain ⟨p, l, e, s, m, args, below, meth, c, A, Q⟩ := x
  intro H locs ls F hl hP hD hS
  exact lv_bipush F.1 F.2.1 hd hv (k H locs ls F hl hP hD hS)
theorem g_sipush {n : Int} {v : Int32} (hd : decode t.1 pc = .ok (.sipush n, 3)) (hq : pc + 3 = q) (hv : (Int16.ofInt n).toInt32 = v) (k : Go x R t g q L (.int v :: st) M ce sl) : Go x R t g pc L (st) M ce sl := by
  subst hq
  obtain ⟨p, l, e, s, m, args, below, meth, c, A, Q⟩ := x
  intro H locs ls F hl hP hD hS
  exact lv_sipush F.1 F.2.1 hd hv (k H locs ls F hl hP hD hS)
theorem g_ldc {i : Nat} {v : Int32} (hd : decode t.1 pc = .ok (.ldc i, 2)) (hq : pc + 2 = q) (hw : Jvm.Cond.constant t.2.2.1 i v ∈ tb_) (k : Go x R t g q L (.int v :: st) M ce sl) : Go x R t g pc L (st) M ce sl := by
  subst hq
  obtain ⟨p, l, e, s, m, args, below, meth, c, A, Q⟩ := x
  intro H locs ls F hl hP hD hS
  exact lv_ldc F.1 F.2.1 F.2.2.2.1 (F.2.2.2.2.1 _ hw) hd (k H locs ls F hl hP hD hS)
theorem g_ldcw {i : Nat} {v : Int32} (hd : decode t.1 pc = .ok (.ldc_w i, 3)) (hq : pc + 3 = q) (hw : Jvm.Cond.constant t.2.2.1 i v ∈ tb_) (k : Go x R t g q L (.int v :: st) M ce sl) : Go x R t g pc L (st) M ce sl := by
  subst hq
  obtain ⟨p, l, e, s, m, args, below, meth, c, A, Q⟩ := x
  intro H locs ls F hl hP hD hS
  exact lv_ldcw F.1 F.2.1 F.2.2.2.1 (F.2.2.2.2.1 _ hw) hd (k H locs ls F hl hP hD hS)
theorem g_iload_n {n : Fin 4} {i : Nat} {a : Int32} (hd : decode t.1 pc = .ok (.iload_n n, 1)) (hq : pc + 1 = q) (hi : (n : Nat) = i) (hv : L[i]? = some (.int a)) (k : Go x R t g q L (.int a :: st) M ce sl) : Go x R t g pc L (st) M ce sl := by
  subst hq
  obtain ⟨p, l, e, s, m, args, below, meth, c, A, Q⟩ := x
  intro H locs ls F hl hP hD hS
  exact lv_iload_n F.1 F.2.1 hd hi (hl.2 _ _ hv (fun z => by cases z)).2 (k H locs ls F hl hP hD hS)
theorem g_iload {i : Nat} {a : Int32} (hd : decode t.1 pc = .ok (.iload i, 2)) (hq : pc + 2 = q) (hv : L[i]? = some (.int a)) (k : Go x R t g q L (.int a :: st) M ce sl) : Go x R t g pc L (st) M ce sl := by
  subst hq
  obtain ⟨p, l, e, s, m, args, below, meth, c, A, Q⟩ := x
  intro H locs ls F hl hP hD hS
  exact lv_iload F.1 F.2.1 hd (hl.2 _ _ hv (fun z => by cases z)).2 (k H locs ls F hl hP hD hS)
theorem g_aload_n {n : Fin 4} {i : Nat} {a : Nat} (hd : decode t.1 pc = .ok (.aload_n n, 1)) (hq : pc + 1 = q) (hi : (n : Nat) = i) (hv : L[i]? = some (.ref a)) (k : Go x R t g q L (.ref a :: st) M ce sl) : Go x R t g pc L (st) M ce sl := by
  subst hq
  obtain ⟨p, l, e, s, m, args, below, meth, c, A, Q⟩ := x
  intro H locs ls F hl hP hD hS
  exact lv_aload_n F.1 F.2.1 hd hi (hl.2 _ _ hv (fun z => by cases z)).2 (k H locs ls F hl hP hD hS)
theorem g_aload {i : Nat} {a : Nat} (hd : decode t.1 pc = .ok (.aload i, 2)) (hq : pc + 2 = q) (hv : L[i]? = some (.ref a)) (k : Go x R t g q L (.ref a :: st) M ce sl) : Go x R t g pc L (st) M ce sl := by
  subst hq
  obtain ⟨p, l, e, s, m, args, below, meth, c, A, Q⟩ := x
  intro H locs ls F hl hP hD hS
  exact lv_aload F.1 F.2.1 hd (hl.2 _ _ hv (fun z => by cases z)).2 (k H locs ls F hl hP hD hS)
theorem g_dup {v : Value} (hd : decode t.1 pc = .ok (.dup, 1)) (hq : pc + 1 = q) (hc : v.category = 1) (k : Go x R t g q L (v :: v :: st) M ce sl) : Go x R t g pc L (v :: st) M ce sl := by
  subst hq
  obtain ⟨p, l, e, s, m, args, below, meth, c, A, Q⟩ := x
  intro H locs ls F hl hP hD hS
  exact lv_dup F.1 F.2.1 hd hc (k H locs ls F hl hP hD hS)
theorem g_dup2 {v w : Value} (hd : decode t.1 pc = .ok (.dup2, 1)) (hq : pc + 1 = q) (hc : v.category = 1) (hc2 : w.category = 1) (k : Go x R t g q L (v :: w :: v :: w :: st) M ce sl) : Go x R t g pc L (v :: w :: st) M ce sl := by
  subst hq
  obtain ⟨p, l, e, s, m, args, below, meth, c, A, Q⟩ := x
  intro H locs ls F hl hP hD hS
  exact lv_dup2_11 F.1 F.2.1 hd hc hc2 (k H locs ls F hl hP hD hS)
theorem g_pop {v : Value} (hd : decode t.1 pc = .ok (.pop, 1)) (hq : pc + 1 = q) (hc : v.category = 1) (k : Go x R t g q L (st) M ce sl) : Go x R t g pc L (v :: st) M ce sl := by
  subst hq
  obtain ⟨p, l, e, s, m, args, below, meth, c, A, Q⟩ := x
  intro H locs ls F hl hP hD hS
  exact lv_pop F.1 F.2.1 hd hc (k H locs ls F hl hP hD hS)
theorem g_null  (hd : decode t.1 pc = .ok (.aconst_null, 1)) (hq : pc + 1 = q) (k : Go x R t g q L (.null :: st) M ce sl) : Go x R t g pc L (st) M ce sl := by
  subst hq
  obtain ⟨p, l, e, s, m, args, below, meth, c, A, Q⟩ := x
  intro H locs ls F hl hP hD hS
  exact lv_null F.1 F.2.1 hd (k H locs ls F hl hP hD hS)
theorem g_istore_n {n : Fin 4} {i : Nat} {a : Int32} {L' : List Value} (hd : decode t.1 pc = .ok (.istore_n n, 1)) (hq : pc + 1 = q) (hi : (n : Nat) = i) (hn : i < t.2.1) (hL : L.set i (.int a) = L') (k : Go x R t g q L' st M ce sl) : Go x R t g pc L (.int a :: st) M ce sl := by
  subst hq
  subst hL
  obtain ⟨p, l, e, s, m, args, below, meth, c, A, Q⟩ := x
  intro H locs ls F hl hP hD hS
  exact lv_istore_n F.1 F.2.1 hd hi hl.has hn rfl (fun ls2 h2 => k H locs ls2 F (hl.put rfl h2) hP hD hS)
theorem g_istore {i : Nat} {a : Int32} {L' : List Value} (hd : decode t.1 pc = .ok (.istore i, 2)) (hq : pc + 2 = q) (hn : i < t.2.1) (hL : L.set i (.int a) = L') (k : Go x R t g q L' st M ce sl) : Go x R t g pc L (.int a :: st) M ce sl := by
  subst hq
  subst hL
  obtain ⟨p, l, e, s, m, args, below, meth, c, A, Q⟩ := x
  intro H locs ls F hl hP hD hS
  exact lv_istore F.1 F.2.1 hd hl.has hn rfl (fun ls2 h2 => k H locs ls2 F (hl.put rfl h2) hP hD hS)
theorem g_astore_n {n : Fin 4} {i : Nat} {a : Nat} {L' : List Value} (hd : decode t.1 pc = .ok (.astore_n n, 1)) (hq : pc + 1 = q) (hi : (n : Nat) = i) (hn : i < t.2.1) (hL : L.set i (.ref a) = L') (k : Go x R t g q L' st M ce sl) : Go x R t g pc L (.ref a :: st) M ce sl := by
  subst hq
  subst hL
  obtain ⟨p, l, e, s, m, args, below, meth, c, A, Q⟩ := x
  intro H locs ls F hl hP hD hS
  exact lv_astore_n F.1 F.2.1 hd hi hl.has hn rfl (fun ls2 h2 => k H locs ls2 F (hl.put rfl h2) hP hD hS)
/-- a number gets a name -/
theorem g_name {a v : Int32} (h : v = a) (k : Go x R t g pc L (.int v :: st) M ce sl) : Go x R t g pc L (.int a :: st) M ce sl := h ▸ k
theorem g_iinc {i : Nat} {n : Int} {a b : Int32} {L' : List Value} (hd : decode t.1 pc = .ok (.iinc i n, 3)) (hq : pc + 3 = q) (hv : L[i]? = some (.int a)) (hb : a + Int32.ofInt n = b) (hn : i < t.2.1) (hL : L.set i (.int b) = L') (k : Go x R t g q L' st M ce sl) : Go x R t g pc L st M ce sl := by
  subst hq
  subst hL
  obtain ⟨p, l, e, s, m, args, below, meth, c, A, Q⟩ := x
  intro H locs ls F hl hP hD hS
  obtain ⟨k0, hk0⟩ := List.getElem?_of_mem (prL_mem.mpr (⟨hv, fun z => by cases z⟩ : L[((i, Value.int a) : Nat × Value).1]? = some (i, Value.int a).2 ∧ (i, Value.int a).2 ≠ un_))
  exact lv_iinc F.1 F.2.1 hd hl.has hk0 hb hn rfl (fun ls2 h2 => k H locs ls2 F (hl.put rfl h2) hP hD hS)
theorem g_goto {o : Int} (hd : decode t.1 pc = .ok (.goto o, 3)) (hq : (pc : Int) + o = (q : Int)) (k : Go x R t g q L st M ce sl) : Go x R t g pc L st M ce sl := by
  obtain ⟨p, l, e, s, m, args, below, meth, c, A, Q⟩ := x
  intro H locs ls F hl hP hD hS
  exact lv_goto F.1 F.2.1 hd hq (k H locs ls F hl hP hD hS)
theorem g_if_eq {a : Int32} {o : Int} {r : Nat} (hd : decode t.1 pc = .ok (.ifCond .eq o, 3)) (hr : (pc : Int) + o = (r : Int)) (hq : pc + 3 = q) (kt : a = 0 → Go x R t g r L st M ce sl) (kf : ¬ a = 0 → Go x R t g q L st M ce sl) : Go x R t g pc L (.int a :: st) M ce sl := by
  subst hq
  obtain ⟨p, l, e, s, m, args, below, meth, c, A, Q⟩ := x
  intro H locs ls F hl hP hD hS
  exact lv_if_eq F.1 F.2.1 hd hr (fun z => kt z H locs ls F hl hP hD hS) (fun z => kf z H locs ls F hl hP hD hS)
theorem g_icmp_eq {a b : Int32} {o : Int} {r : Nat} (hd : decode t.1 pc = .ok (.if_icmp .eq o, 3)) (hr : (pc : Int) + o = (r : Int)) (hq : pc + 3 = q) (kt : a = b → Go x R t g r L st M ce sl) (kf : ¬ a = b → Go x R t g q L st M ce sl) : Go x R t g pc L (.int b :: .int a :: st) M ce sl := by
  subst hq
  obtain ⟨p, l, e, s, m, args, below, meth, c, A, Q⟩ := x
  intro H locs ls F hl hP hD hS
  exact lv_icmp_eq F.1 F.2.1 hd hr (fun z => kt z H locs ls F hl hP hD hS) (fun z => kf z H locs ls F hl hP hD hS)
theorem g_if_ne {a : Int32} {o : Int} {r : Nat} (hd : decode t.1 pc = .ok (.ifCond .ne o, 3)) (hr : (pc : Int) + o = (r : Int)) (hq : pc + 3 = q) (kt : ¬ a = 0 → Go x R t g r L st M ce sl) (kf : a = 0 → Go x R t g q L st M ce sl) : Go x R t g pc L (.int a :: st) M ce sl := by
  subst hq
  obtain ⟨p, l, e, s, m, args, below, meth, c, A, Q⟩ := x
  intro H locs ls F hl hP hD hS
  exact lv_if_ne F.1 F.2.1 hd hr (fun z => kt z H locs ls F hl hP hD hS) (fun z => kf z H locs ls F hl hP hD hS)
theorem g_icmp_ne {a b : Int32} {o : Int} {r : Nat} (hd : decode t.1 pc = .ok (.if_icmp .ne o, 3)) (hr : (pc : Int) + o = (r : Int)) (hq : pc + 3 = q) (kt : ¬ a = b → Go x R t g r L st M ce sl) (kf : a = b → Go x R t g q L st M ce sl) : Go x R t g pc L (.int b :: .int a :: st) M ce sl := by
  subst hq
  obtain ⟨p, l, e, s, m, args, below, meth, c, A, Q⟩ := x
  intro H locs ls F hl hP hD hS
  exact lv_icmp_ne F.1 F.2.1 hd hr (fun z => kt z H locs ls F hl hP hD hS) (fun z => kf z H locs ls F hl hP hD hS)
theorem g_if_lt {a : Int32} {o : Int} {r : Nat} (hd : decode t.1 pc = .ok (.ifCond .lt o, 3)) (hr : (pc : Int) + o = (r : Int)) (hq : pc + 3 = q) (kt : a < 0 → Go x R t g r L st M ce sl) (kf : ¬ a < 0 → Go x R t g q L st M ce sl) : Go x R t g pc L (.int a :: st) M ce sl := by
  subst hq
  obtain ⟨p, l, e, s, m, args, below, meth, c, A, Q⟩ := x
  intro H locs ls F hl hP hD hS
  exact lv_if_lt F.1 F.2.1 hd hr (fun z => kt z H locs ls F hl hP hD hS) (fun z => kf z H locs ls F hl hP hD hS)
theorem g_icmp_lt {a b : Int32} {o : Int} {r : Nat} (hd : decode t.1 pc = .ok (.if_icmp .lt o, 3)) (hr : (pc : Int) + o = (r : Int)) (hq : pc + 3 = q) (kt : a < b → Go x R t g r L st M ce sl) (kf : ¬ a < b → Go x R t g q L st M ce sl) : Go x R t g pc L (.int b :: .int a :: st) M ce sl := by
  subst hq
  obtain ⟨p, l, e, s, m, args, below, meth, c, A, Q⟩ := x
  intro H locs ls F hl hP hD hS
  exact lv_icmp_lt F.1 F.2.1 hd hr (fun z => kt z H locs ls F hl hP hD hS) (fun z => kf z H locs ls F hl hP hD hS)
theorem g_if_ge {a : Int32} {o : Int} {r : Nat} (hd : decode t.1 pc = .ok (.ifCond .ge o, 3)) (hr : (pc : Int) + o = (r : Int)) (hq : pc + 3 = q) (kt : 0 ≤ a → Go x R t g r L st M ce sl) (kf : ¬ 0 ≤ a → Go x R t g q L st M ce sl) : Go x R t g pc L (.int a :: st) M ce sl := by
  subst hq
  obtain ⟨p, l, e, s, m, args, below, meth, c, A, Q⟩ := x
  intro H locs ls F hl hP hD hS
  exact lv_if_ge F.1 F.2.1 hd hr (fun z => kt z H locs ls F hl hP hD hS) (fun z => kf z H locs ls F hl hP hD hS)
theorem g_icmp_ge {a b : Int32} {o : Int} {r : Nat} (hd : decode t.1 pc = .ok (.if_icmp .ge o, 3)) (hr : (pc : Int) + o = (r : Int)) (hq : pc + 3 = q) (kt : b ≤ a → Go x R t g r L st M ce sl) (kf : ¬ b ≤ a → Go x R t g q L st M ce sl) : Go x R t g pc L (.int b :: .int a :: st) M ce sl := by
  subst hq
  obtain ⟨p, l, e, s, m, args, below, meth, c, A, Q⟩ := x
  intro H locs ls F hl hP hD hS
  exact lv_icmp_ge F.1 F.2.1 hd hr (fun z => kt z H locs ls F hl hP hD hS) (fun z => kf z H locs ls F hl hP hD hS)
theorem g_if_gt {a : Int32} {o : Int} {r : Nat} (hd : decode t.1 pc = .ok (.ifCond .gt o, 3)) (hr : (pc : Int) + o = (r : Int)) (hq : pc + 3 = q) (kt : 0 < a → Go x R t g r L st M ce sl) (kf : ¬ 0 < a → Go x R t g q L st M ce sl) : Go x R t g pc L (.int a :: st) M ce sl := by
  subst hq
  obtain ⟨p, l, e, s, m, args, below, meth, c, A, Q⟩ := x
  intro H locs ls F hl hP hD hS
  exact lv_if_gt F.1 F.2.1 hd hr (fun z => kt z H locs ls F hl hP hD hS) (fun z => kf z H locs ls F hl hP hD hS)
theorem g_icmp_gt {a b : Int32} {o : Int} {r : Nat} (hd : decode t.1 pc = .ok (.if_icmp .gt o, 3)) (hr : (pc : Int) + o = (r : Int)) (hq : pc + 3 = q) (kt : b < a → Go x R t g r L st M ce sl) (kf : ¬ b < a → Go x R t g q L st M ce sl) : Go x R t g pc L (.int b :: .int a :: st) M ce sl := by
  subst hq
  obtain ⟨p, l, e, s, m, args, below, meth, c, A, Q⟩ := x
  intro H locs ls F hl hP hD hS
  exact lv_icmp_gt F.1 F.2.1 hd hr (fun z => kt z H locs ls F hl hP hD hS) (fun z => kf z H locs ls F hl hP hD hS)
theorem g_if_le {a : Int32} {o : Int} {r : Nat} (hd : decode t.1 pc = .ok (.ifCond .le o, 3)) (hr : (pc : Int) + o = (r : Int)) (hq : pc + 3 = q) (kt : a ≤ 0 → Go x R t g r L st M ce sl) (kf : ¬ a ≤ 0 → Go x R t g q L st M ce sl) : Go x R t g pc L (.int a :: st) M ce sl := by
  subst hq
  obtain ⟨p, l, e, s, m, args, below, meth, c, A, Q⟩ := x
  intro H locs ls F hl hP hD hS
  exact lv_if_le F.1 F.2.1 hd hr (fun z => kt z H locs ls F hl hP hD hS) (fun z => kf z H locs ls F hl hP hD hS)
theorem g_icmp_le {a b : Int32} {o : Int} {r : Nat} (hd : decode t.1 pc = .ok (.if_icmp .le o, 3)) (hr : (pc : Int) + o = (r : Int)) (hq : pc + 3 = q) (kt : a ≤ b → Go x R t g r L st M ce sl) (kf : ¬ a ≤ b → Go x R t g q L st M ce sl) : Go x R t g pc L (.int b :: .int a :: st) M ce sl := by
  subst hq
  obtain ⟨p, l, e, s, m, args, below, meth, c, A, Q⟩ := x
  intro H locs ls F hl hP hD hS
  exact lv_icmp_le F.1 F.2.1 hd hr (fun z => kt z H locs ls F hl hP hD hS) (fun z => kf z H locs ls F hl hP hD hS)
theorem g_nonnull {a : Nat} {o : Int} (hd : decode t.1 pc = .ok (.ifnonnull o, 3)) (hq : (pc : Int) + o = (q : Int)) (k : Go x R t g q L st M ce sl) : Go x R t g pc L (.ref a :: st) M ce sl := by
  obtain ⟨p, l, e, s, m, args, below, meth, c, A, Q⟩ := x
  intro H locs ls F hl hP hD hS
  exact lv_ifnonnull F.1 F.2.1 hd hq (k H locs ls F hl hP hD hS)
theorem g_nonnullN {o : Int} (hd : decode t.1 pc = .ok (.ifnonnull o, 3)) (hq : pc + 3 = q) (k : Go x R t g q L st M ce sl) : Go x R t g pc L (.null :: st) M ce sl := by
  subst hq
  obtain ⟨p, l, e, s, m, args, below, meth, c, A, Q⟩ := x
  intro H locs ls F hl hP hD hS
  exact lv_ifnonnullN F.1 F.2.1 hd (k H locs ls F hl hP hD hS)
theorem g_swOut {d lo hi : Int} {offs : Array Int} {len : Nat} {a : Int32} (hd : decode t.1 pc = .ok (.tableswitch d lo hi offs, len)) (h : a.toInt < lo ∨ hi < a.toInt) (hq : (pc : Int) + d = (q : Int)) (k : Go x R t g q L st M ce sl) : Go x R t g pc L (.int a :: st) M ce sl := by
  obtain ⟨p, l, e, s, m, args, below, meth, c, A, Q⟩ := x
  intro H locs ls F hl hP hD hS
  exact lv_tableOut F.1 F.2.1 hd h hq (k H locs ls F hl hP hD hS)
theorem g_swIn {d lo hi off : Int} {offs : Array Int} {len : Nat} {a : Int32} (hd : decode t.1 pc = .ok (.tableswitch d lo hi offs, len)) (h1 : ¬ a.toInt < lo) (h2 : ¬ hi < a.toInt) (ho : offs[(a.toInt - lo).toNat]? = some off) (hq : (pc : Int) + off = (q : Int)) (k : Go x R t g q L st M ce sl) : Go x R t g pc L (.int a :: st) M ce sl := by
  obtain ⟨p, l, e, s, m, args, below, meth, c, A, Q⟩ := x
  intro H locs ls F hl hP hD hS
  exact lv_tableIn F.1 F.2.1 hd h1 h2 ho hq (k H locs ls F hl hP hD hS)
/-- a field by its link: class ci, place fi -/
def FO (own : String) (i ci fi : Nat) : Prop := ∃ (C : String) (T : u_T) (N : Nat), vwCl[ci]? = some (C, T, N) ∧ fi < N ∧ (∀ w ∈ u_ws C T N, w ∈ tb_) ∧ (Jvm.Cond.fieldLink own i (T fi).1 (T fi).2.1 (T fi).2.2.1 ∈ tb_ ∨ ∃ host, Jvm.Cond.fieldLinkNest own i (T fi).1 (T fi).2.1 (T fi).2.2.1 host ∈ tb_)
/-- the same, to write it: its type; fin: final, in its class's own constructor -/
def FP (own nm : String) (i ci fi : Nat) (ty : FieldType) : Prop := ∃ (C : String) (T : u_T) (N : Nat) (ty0 : Nat → FieldType), vwCl[ci]? = some (C, T, N) ∧ fi < N ∧ (∀ w ∈ u_ws C T N, w ∈ tb_) ∧ (∀ k, k < N → parseFieldDescriptor (T k).2.2.1 = some (ty0 k)) ∧ (∀ a, a < N → ∀ b, b < N → a ≠ b → (T a).2.1 ≠ (T b).2.1) ∧ parseFieldDescriptor (T fi).2.2.1 = some ty ∧
  (((T fi).2.2.2 = false ∧ (Jvm.Cond.fieldLink own i (T fi).1 (T fi).2.1 (T fi).2.2.1 ∈ tb_ ∨ ∃ host, Jvm.Cond.fieldLinkNest own i (T fi).1 (T fi).2.1 (T fi).2.2.1 host ∈ tb_)) ∨ ((T fi).2.2.2 = true ∧ nm = "<init>" ∧ (T fi).1 = own ∧ Jvm.Cond.fieldLink own i (T fi).1 (T fi).2.1 (T fi).2.2.1 ∈ tb_))
theorem g_get {i ci fi a : Nat} {fs : List Value} {v : Value} (hd : decode t.1 pc = .ok (.getfield i, 3)) (hq : pc + 3 = q) (hw : FO t.2.2.1 i ci fi) (k0 : Nat) (hM : M[k0]? = some (a, .inr (ci, fs))) (hv : fs[fi]? = some v) (k : Go x R t g q L (v :: st) M ce sl) : Go x R t g pc L (.ref a :: st) M ce sl := by
  subst hq
  obtain ⟨p, l, e, s, m, args, below, meth, c, A, Q⟩ := x
  intro H locs ls F hl hP hD hS
  obtain ⟨C, T, N, h1, h2, h3, h4⟩ := hw
  obtain ⟨f1, f2, f3, f4, f5, f6, f7, f8⟩ := id F
  rcases h4 with h4 | ⟨host, h4⟩
  · exact va_get f1 f2 f5 h3 f4 f6 hP k0 hM h1 fi h2 (f5 _ h4) (fun _ h => h) hv hd (k H locs ls F hl hP hD hS)
  · exact va_getN f1 f2 f5 h3 f4 f6 hP k0 hM h1 fi h2 (f5 _ h4) (fun _ h => h) hv hd (k H locs ls F hl hP hD hS)
theorem g_put {i ci fi a : Nat} {fs : List Value} {v : Value} {ty : FieldType} {M' : va_W} (hd : decode t.1 pc = .ok (.putfield i, 3)) (hq : pc + 3 = q) (hw : FP t.2.2.1 t.2.2.2.2 i ci fi ty) (k0 : Nat) (hM : M[k0]? = some (a, .inr (ci, fs))) (hn : narrow ty v = v) (hf : fits ty v = true) (hlen : fi < fs.length) (hM' : M.set k0 (a, .inr (ci, fs.set fi v)) = M') (k : Go x R t g q L st M' ce sl) : Go x R t g pc L (v :: .ref a :: st) M ce sl := by
  subst hq
  subst hM'
  obtain ⟨p, l, e, s, m, args, below, meth, c, A, Q⟩ := x
  intro H locs ls F hl hP hD hS
  obtain ⟨C, T, N, ty0, h1, h2, h3, h4, h5, h6, h7⟩ := hw
  obtain ⟨f1, f2, f3, f4, f5, f6, f7, f8, f9, f10⟩ := id F
  rcases h7 with ⟨h7, h8 | ⟨host, h8⟩⟩ | ⟨h7, h9, h10, h8⟩
  · exact va_put f1 f2 f5 h3 ty0 h4 h5 f4 f6 hP hD hS k0 hM h1 fi h2 (f5 _ h8) (fun _ h => h) h7 h6 hn hf hlen hd (fun H2 locs2 hP2 hD2 hS2 => k H2 locs2 ls F hl hP2 hD2 hS2)
  · exact va_putN f1 f2 f5 h3 ty0 h4 h5 f4 f6 hP hD hS k0 hM h1 fi h2 (f5 _ h8) (fun _ h => h) h7 h6 hn hf hlen hd (fun H2 locs2 hP2 hD2 hS2 => k H2 locs2 ls F hl hP2 hD2 hS2)
  · exact va_putF f1 f2 f5 h3 ty0 h4 h5 f4 f6 hP hD hS k0 hM h1 fi h2 (f5 _ h8) (fun _ h => h) h7 (f10.trans h9) h10 h6 hn hf hlen hd (fun H2 locs2 hP2 hD2 hS2 => k H2 locs2 ls F hl hP2 hD2 hS2)
/-- a place of an array -/
abbrev ib (i : Int32) (n : Nat) : Prop := ¬ (i < 0 ∨ n ≤ i.toNatClampNeg)
theorem g_iald {a n : Nat} {f : Nat → Int32} {i : Int32} (hd : decode t.1 pc = .ok (.iaload, 1)) (hq : pc + 1 = q) (k0 : Nat) (hM : M[k0]? = some (a, .inl (g.2.1, n, .inl f))) (hin : ib i n) (k : Go x R t g q L (.int (f i.toNatClampNeg) :: st) M ce sl) : Go x R t g pc L (.int i :: .ref a :: st) M ce sl := by
  subst hq
  obtain ⟨p, l, e, s, m, args, below, meth, c, A, Q⟩ := x
  intro H locs ls F hl hP hD hS
  exact va_iald F.1 F.2.1 F.2.2.2.2.2.1 hP k0 0 hM rfl hin hd (k H locs ls F hl hP hD hS)
theorem g_zald {a n : Nat} {f : Nat → Int32} {i : Int32} (hd : decode t.1 pc = .ok (.baload, 1)) (hq : pc + 1 = q) (k0 : Nat) (hM : M[k0]? = some (a, .inl (g.2.2, n, .inl f))) (hin : ib i n) (k : Go x R t g q L (.int (f i.toNatClampNeg) :: st) M ce sl) : Go x R t g pc L (.int i :: .ref a :: st) M ce sl := by
  subst hq
  obtain ⟨p, l, e, s, m, args, below, meth, c, A, Q⟩ := x
  intro H locs ls F hl hP hD hS
  exact va_zald F.1 F.2.1 F.2.2.2.2.2.1 hP k0 1 hM rfl hin hd (k H locs ls F hl hP hD hS)
theorem g_iast {a n : Nat} {f : Nat → Int32} {i v : Int32} {M' : va_W} (hd : decode t.1 pc = .ok (.iastore, 1)) (hq : pc + 1 = q) (k0 : Nat) (hM : M[k0]? = some (a, .inl (g.2.1, n, .inl f))) (hin : ib i n) (hM' : M.set k0 (a, .inl (g.2.1, n, .inl (upd f i.toNatClampNeg v))) = M') (k : Go x R t g q L st M' ce sl) : Go x R t g pc L (.int v :: .int i :: .ref a :: st) M ce sl := by
  subst hq
  subst hM'
  obtain ⟨p, l, e, s, m, args, below, meth, c, A, Q⟩ := x
  intro H locs ls F hl hP hD hS
  exact va_iast F.1 F.2.1 F.2.2.2.2.2.1 hP hD hS k0 0 hM rfl hin hd (fun H2 locs2 hP2 hD2 hS2 => k H2 locs2 ls F hl hP2 hD2 hS2)
theorem g_zast {a n : Nat} {f : Nat → Int32} {i v w : Int32} {M' : va_W} (hd : decode t.1 pc = .ok (.bastore, 1)) (hq : pc + 1 = q) (k0 : Nat) (hM : M[k0]? = some (a, .inl (g.2.2, n, .inl f))) (hin : ib i n) (hw : vp_nar .boolean v = w) (hM' : M.set k0 (a, .inl (g.2.2, n, .inl (upd f i.toNatClampNeg w))) = M') (k : Go x R t g q L st M' ce sl) : Go x R t g pc L (.int v :: .int i :: .ref a :: st) M ce sl := by
  subst hq
  subst hM'
  subst hw
  obtain ⟨p, l, e, s, m, args, below, meth, c, A, Q⟩ := x
  intro H locs ls F hl hP hD hS
  exact va_zast F.1 F.2.1 F.2.2.2.2.2.1 hP hD hS k0 1 hM rfl hin hd (fun H2 locs2 hP2 hD2 hS2 => k H2 locs2 ls F hl hP2 hD2 hS2)
theorem g_alen {a n : Nat} {f : Nat → Int32} {v : Int32} (hd : decode t.1 pc = .ok (.arraylength, 1)) (hq : pc + 1 = q) (k0 : Nat) (hM : M[k0]? = some (a, .inl (g.2.1, n, .inl f))) (hv : Int32.ofNat n = v) (k : Go x R t g q L (.int v :: st) M ce sl) : Go x R t g pc L (.ref a :: st) M ce sl := by
  subst hq
  obtain ⟨p, l, e, s, m, args, below, meth, c, A, Q⟩ := x
  intro H locs ls F hl hP hD hS
  exact va_alen F.1 F.2.1 F.2.2.2.2.2.1 hP k0 0 hM rfl hv hd (k H locs ls F hl hP hD hS)
end G1
