/-! ===== a plan has at most 600 orders ===== -/
theorem isoL {E : Gr} {c : Nat} (hi : Iso E c) {men : Nat → Nat} {w sl C : Nat → Prop} (h : LeO E men w sl C) : C c ↔ (w c ∧ men c = 0) := by
  constructor
  · intro hc
    have := h.2 (fun i => C i ∧ (i = c → w c ∧ men c = 0)) ⟨fun i h1 h2 => ⟨h.1.1 i h1 h2, fun e => by rw [e] at h1 h2; exact ⟨h1, h2⟩⟩, fun p a b hp => by
      obtain ⟨n1, n2⟩ := hi p a b hp
      obtain ⟨q1, q2, q3⟩ := h.1.2 p a b hp
      refine ⟨fun z1 z2 z3 => ⟨fun z => ⟨(q1 z1 z2 z3).1 z, fun e => absurd e n1⟩, fun z => ⟨(q1 z1 z2 z3).2 z, fun e => absurd e n2⟩⟩, fun z1 z2 => ⟨q2 z1.1 z2, fun e => absurd e n2⟩, fun z1 z2 => ⟨q3 z1.1 z2, fun e => absurd e n1⟩⟩⟩ c hc
    exact this.2 rfl
  · rintro ⟨h1, h2⟩
    exact h.1.1 c h1 h2
theorem Tr.dgc {n : Nat} {E : Gr} {c : Nat} (hi : Iso E c) {x : Ord_} {s t : Std} (hs : SO n E s) (hT : Tr n E x s t) (hm : t.1 c = s.1 c) : dg t c = dg s c := by
  obtain ⟨sl, hl⟩ := hT.leO
  have := isoL hi hl
  unfold dg
  rw [hm]
  have e : bt t.2 c = true ↔ bt s.2 c = true := by
    rw [this]
    exact ⟨fun z => z.1, fun z => ⟨z, by rw [hm]; exact (hs.2.1 c z).2⟩⟩
  by_cases hb : bt s.2 c = true
  · rw [if_pos hb, if_pos (e.mpr hb)]
  · rw [if_neg hb, if_neg (fun z => hb (e.mp z))]
theorem Tr.slid {n : Nat} {E : Gr} {c : Nat} (hi : Iso E c) {x : Ord_} {s t : Std} (hT : Tr n E x s t) (hx : x.1 = 2) : t.1 c = s.1 c ∧ x.2.1 ≠ c := by
  rcases hT with ⟨z, -⟩ | ⟨z, -⟩ | ⟨-, -, d, hd, e, -⟩
  · omega
  · omega
  · have h1 : x.2.1 ≠ c ∧ d ≠ c := by
      rcases hd with z | z
      · exact hi _ _ _ z
      · exact (hi _ _ _ z).symm
    rw [e, up1_o _ _ (fun z => h1.2 z.symm), up1_o _ _ (fun z => h1.1 z.symm)]
    exact ⟨rfl, h1.1⟩
theorem Tr.put {n : Nat} {E : Gr} {x : Ord_} {s t : Std} (hT : Tr n E x s t) (hx : x.1 = 0) : t.1 = up1 s.1 x.2.1 (s.1 x.2.1 + 1) := by
  rcases hT with ⟨-, -, z, -⟩ | ⟨z, -⟩ | ⟨z, -⟩
  · exact z
  · omega
  · omega
theorem short_ {R : BS → BS → Prop} {a b : BS} (h : ∃ (l : Nat) (P : Nat → BS), P 0 = a ∧ P l = b ∧ ∀ k, k < l → P k = P (k + 1) ∨ R (P k) (P (k + 1))) : ∃ (l : Nat) (P : Nat → BS), P 0 = a ∧ P l = b ∧ (∀ k, k < l → R (P k) (P (k + 1))) ∧ ∀ i j, i < j → j ≤ l → P i ≠ P j := by
  obtain ⟨l0, hl0⟩ := h
  obtain ⟨l, -, ⟨P, p1, p2, p3⟩, hmin⟩ := least (P := fun l => ∃ P : Nat → BS, P 0 = a ∧ P l = b ∧ ∀ k, k < l → P k = P (k + 1) ∨ R (P k) (P (k + 1))) (d0 := l0) hl0
  have dist : ∀ i j, i < j → j ≤ l → P i ≠ P j := by
    intro i j hij hj e
    refine hmin (l - (j - i)) (by omega) ⟨fun k => if k ≤ i then P k else P (k + (j - i)), by show (if 0 ≤ i then P 0 else _) = a; rw [if_pos (by omega)]; exact p1, ?_, fun k hk => ?_⟩
    · show (if l - (j - i) ≤ i then P (l - (j - i)) else P (l - (j - i) + (j - i))) = b
      by_cases z : l - (j - i) ≤ i
      · rw [if_pos z]
        have e1 : l - (j - i) = i := by omega
        have e2 : l = j := by omega
        rw [e1, e, ← e2]; exact p2
      · rw [if_neg z, show l - (j - i) + (j - i) = l by omega]; exact p2
    · show (if k ≤ i then P k else P (k + (j - i))) = (if k + 1 ≤ i then P (k + 1) else P (k + 1 + (j - i))) ∨ R (if k ≤ i then P k else P (k + (j - i))) (if k + 1 ≤ i then P (k + 1) else P (k + 1 + (j - i)))
      by_cases z1 : k + 1 ≤ i
      · rw [if_pos (show k ≤ i by omega), if_pos z1]; exact p3 k (by omega)
      · rw [if_neg z1]
        by_cases z2 : k ≤ i
        · have : k = i := by omega
          rw [if_pos z2, this, e, show i + 1 + (j - i) = j + 1 by omega]
          exact p3 j (by omega)
        · rw [if_neg z2, show k + 1 + (j - i) = k + (j - i) + 1 by omega]
          exact p3 (k + (j - i)) (by omega)
  refine ⟨l, P, p1, p2, fun k hk => ?_, dist⟩
  rcases p3 k hk with z | z
  · exact absurd z (dist k (k + 1) (by omega) (by omega))
  · exact z
/-! the stands without a cave that has no passage -/
def wo (w : Int32) (c : Nat) : Int32 := w &&& (((1 : Int32) <<< (nI c &&& 31)) ^^^ (-1))
theorem wo_bt (w : Int32) {c : Nat} (hc : c < 32) (i : Nat) : bt (wo w c) i = true ↔ (bt w i = true ∧ i ≠ c) := by
  unfold wo
  rw [b_and, Bool.and_eq_true]
  by_cases hi : i < 32
  · rw [b_not _ hi, b_bit hc]; simp
  · rw [b_big (x := w) (by omega)]; simp
def pj (c : Nat) (s : BS) : BS := ((up1 s.1.1 c 0, wo s.1.2 c), s.2)
theorem up_up (m : Nat → Nat) (c v w : Nat) : up1 (up1 m c v) c w = up1 m c w := funext fun d => by
  unfold up1
  by_cases h : d = c
  · rw [if_pos h, if_pos h]
  · rw [if_neg h, if_neg h, if_neg h]
theorem up_cm (m : Nat → Nat) {c e : Nat} (h : c ≠ e) (v w : Nat) : up1 (up1 m c v) e w = up1 (up1 m e w) c v := funext fun d => by
  unfold up1
  by_cases h1 : d = c
  · have : d ≠ e := by omega
    rw [if_neg this, if_pos h1, if_pos h1]
  · by_cases h2 : d = e
    · rw [if_pos h2, if_neg h1, if_pos h2]
    · rw [if_neg h2, if_neg h1, if_neg h1, if_neg h2]
theorem pj_dg (c : Nat) (hc : c < 32) (s : BS) : dg (pj c s).1 c = 0 := by
  unfold dg pj
  show 2 * up1 s.1.1 c 0 c + (if bt (wo s.1.2 c) c = true then 1 else 0) = 0
  rw [up1_s, if_neg (fun z => ((wo_bt _ hc c).mp z).2 rfl)]
theorem pj_le {E : Gr} {c : Nat} (hi : Iso E c) (hc : c < 32) {men : Nat → Nat} {w w' : Int32} {sl : Nat → Prop} (h : LeO E men (fun i => bt w i = true) sl (fun i => bt w' i = true)) : LeO E (up1 men c 0) (fun i => bt (wo w c) i = true) sl (fun i => bt (wo w' c) i = true) := by
  refine ⟨⟨fun i h1 h2 => ?_, fun p a b hp => ?_⟩, fun S hS i hi2 => ?_⟩
  · obtain ⟨z1, z2⟩ := (wo_bt _ hc i).mp h1
    rw [up1_o _ _ z2] at h2
    exact (wo_bt _ hc i).mpr ⟨h.1.1 i z1 h2, z2⟩
  · obtain ⟨n1, n2⟩ := hi p a b hp
    obtain ⟨q1, q2, q3⟩ := h.1.2 p a b hp
    rw [up1_o _ _ n1, up1_o _ _ n2]
    refine ⟨fun z1 z2 z3 => ?_, fun z1 z2 => (wo_bt _ hc b).mpr ⟨q2 ((wo_bt _ hc a).mp z1).1 z2, n2⟩, fun z1 z2 => (wo_bt _ hc a).mpr ⟨q3 ((wo_bt _ hc b).mp z1).1 z2, n1⟩⟩
    have z2' : bt w a = true ∨ bt w b = true := z2.imp (fun z => ((wo_bt _ hc a).mp z).1) (fun z => ((wo_bt _ hc b).mp z).1)
    exact ⟨fun z => (wo_bt _ hc a).mpr ⟨(q1 z1 z2' z3).1 z, n1⟩, fun z => (wo_bt _ hc b).mpr ⟨(q1 z1 z2' z3).2 z, n2⟩⟩
  · obtain ⟨z1, z2⟩ := (wo_bt _ hc i).mp hi2
    have := h.2 (fun i => i ≠ c → S i) ⟨fun j h1 h2 h3 => hS.1 j ((wo_bt _ hc j).mpr ⟨h1, h3⟩) (by rw [up1_o _ _ h3]; exact h2), fun p a b hp => by
      obtain ⟨n1, n2⟩ := hi p a b hp
      obtain ⟨q1, q2, q3⟩ := hS.2 p a b hp
      rw [up1_o _ _ n1, up1_o _ _ n2] at q1
      rw [up1_o _ _ n2] at q2
      rw [up1_o _ _ n1] at q3
      refine ⟨fun y1 y2 y3 => ?_, fun y1 y2 _ => q2 (y1 n1) y2, fun y1 y2 _ => q3 (y1 n2) y2⟩
      have y2' : bt (wo w c) a = true ∨ bt (wo w c) b = true := y2.imp (fun z => (wo_bt _ hc a).mpr ⟨z, n1⟩) (fun z => (wo_bt _ hc b).mpr ⟨z, n2⟩)
      exact ⟨fun z _ => (q1 y1 y2' y3).1 z, fun z _ => (q1 y1 y2' y3).2 z⟩⟩ i z1
    exact this z2
theorem pj_step {X : CX} (hX : CXok X) (hL : cL X = 0) {c : Nat} (hcn : c < cN X) (hi : Iso (cE X) c) {s t : BS} {x : Ord_} (hs : VS X s) (h : Cd X s x t) : pj c s = pj c t ∨ ∃ y, Cd X (pj c s) y (pj c t) := by
  have hn := hX.2.2.2.1.2
  have hc : c < 32 := by omega
  have ht := h.vs hX hs
  obtain ⟨h1, h2, h3, h4, h5⟩ := h
  have s2 : s.2 = false := Bool.eq_false_iff.mpr fun z => by have := hs.2.2.1 z; omega
  have t2 : t.2 = false := Bool.eq_false_iff.mpr fun z => by have := ht.2.2.1 z; omega
  by_cases hxc : x.2.1 = c
  · left
    have hm : t.1.1 = up1 s.1.1 c (t.1.1 c) ∧ ∃ sl, LeO (cE X) t.1.1 (fun i => bt s.1.2 i = true) sl (fun i => bt t.1.2 i = true) := by
      refine ⟨?_, h1.leO⟩
      have hT1 := h1
      rcases h1 with ⟨-, -, e, -⟩ | ⟨-, -, -, e, -⟩ | ⟨z, -⟩
      · rw [e, hxc, up1_s]
      · rw [e, hxc, up1_s]
      · have := hT1.slid hi z
        exact absurd hxc this.2
    obtain ⟨hm, sl, hl⟩ := hm
    have off : ∀ d, d ≠ c → t.1.1 d = s.1.1 d := fun d hd => by rw [hm, up1_o _ _ hd]
    refine Prod.ext (Prod.ext ?_ (b_ext' fun i => ?_)) (by show s.2 = t.2; rw [s2, t2])
    · show up1 s.1.1 c 0 = up1 t.1.1 c 0
      rw [hm, up_up]
    · show bt (wo s.1.2 c) i = true ↔ bt (wo t.1.2 c) i = true
      rw [wo_bt _ hc, wo_bt _ hc]
      constructor
      · rintro ⟨z1, z2⟩
        exact ⟨hl.1.1 i z1 (by rw [off i z2]; exact (hs.1.2.1 i z1).2), z2⟩
      · rintro ⟨z1, z2⟩
        have := hl.2 (fun i => i ≠ c → bt s.1.2 i = true) ⟨fun j y1 _ _ => y1, fun p a b hp => by
          obtain ⟨n1, n2⟩ := hi p a b hp
          rw [off a n1, off b n2]
          have cl := hs.1.2.2.1 p a b hp
          refine ⟨fun y1 y2 y3 => ⟨fun z _ => ?_, fun z _ => ?_⟩, fun y1 y2 _ => ?_, fun y1 y2 _ => ?_⟩
          · rcases y2 with y | y
            · exact y
            · exact (cl z (hs.1.2.1 b y).2).mpr y
          · rcases y2 with y | y
            · exact (cl (hs.1.2.1 a y).2 z).mp y
            · exact y
          · exact (cl (hs.1.2.1 a (y1 n1)).2 y2).mp (y1 n1)
          · exact (cl y2 (hs.1.2.1 b (y1 n2)).2).mpr (y1 n2)⟩ i z1
        exact ⟨this z2, z2⟩
  · right
    refine ⟨x, ?_, fun z => ?_, Or.inl hL, ?_, fun z => by omega⟩
    · rcases h1 with ⟨a1, a2, a3, a4⟩ | ⟨a1, a2, a0, a3, a4⟩ | ⟨a1, a0, d, a2, a3, a4⟩
      · refine Or.inl ⟨a1, a2, ?_, pj_le hi hc a4⟩
        show up1 t.1.1 c 0 = up1 (up1 s.1.1 c 0) x.2.1 (up1 s.1.1 c 0 x.2.1 + 1)
        rw [a3, up1_o s.1.1 0 hxc, up_cm _ hxc]
      · refine Or.inr (Or.inl ⟨a1, a2, ?_, ?_, pj_le hi hc a4⟩)
        · show 0 < up1 s.1.1 c 0 x.2.1
          rw [up1_o s.1.1 0 hxc]; exact a0
        · show up1 t.1.1 c 0 = up1 (up1 s.1.1 c 0) x.2.1 (up1 s.1.1 c 0 x.2.1 - 1)
          rw [a3, up1_o s.1.1 0 hxc, up_cm _ hxc]
      · have hdc : d ≠ c := by
          rcases a2 with z | z
          · exact (hi _ _ _ z).2
          · exact (hi _ _ _ z).1
        refine Or.inr (Or.inr ⟨a1, ?_, d, a2, ?_, pj_le hi hc a4⟩)
        · show 0 < up1 s.1.1 c 0 x.2.1
          rw [up1_o s.1.1 0 hxc]; exact a0
        · show up1 t.1.1 c 0 = up1 (up1 (up1 s.1.1 c 0) x.2.1 (up1 s.1.1 c 0 x.2.1 - 1)) d (up1 s.1.1 c 0 d + 1)
          rw [a3, up1_o s.1.1 0 hxc, up1_o s.1.1 0 hdc, up_cm (up1 s.1.1 x.2.1 (s.1.1 x.2.1 - 1)) hdc, up_cm s.1.1 hxc]
    · have := h2 z
      have t1 := tot_up (men := s.1.1) (v := 0) hcn
      show tot (cN X) (up1 s.1.1 c 0) < cK X
      omega
    · show t.2 = true ↔ _
      rw [t2]
      constructor
      · intro z; cases z
      · rintro ⟨z, -⟩; omega
/-- put and lift -/
theorem two_st {X : CX} (hX : CXok X) (hL : cL X = 0) {c : Nat} (hcn : c < cN X) (hi : Iso (cE X) c) : ∃ t, (∃ x, Cd X (std0 (cN X), false) x t) ∧ ∃ y, Cd X t y (pj c (std0 (cN X), false)) := by
  have hn := hX.2.2.2.1.2
  have hc : c < 32 := by omega
  have hE := hX.2.2.2.2
  have h12 : cN X ≤ 12 := by omega
  have sb : ∀ {sl : Bool}, sl = false → (sl = true ↔ (cL X = 1 ∧ ((false = true) ∨ (0 : Nat) = 2))) := fun {sl} e => by
    rw [e]
    constructor
    · intro z; cases z
    · rintro ⟨z, -⟩; omega
  refine ⟨((up1 (fun _ => 0) c 1, wo (all_ (cN X)) c), false), ⟨(0, c, 0), Or.inl ⟨rfl, hcn, rfl, ?_⟩, fun _ => ?_, Or.inl hL, ?_, fun z => by omega⟩, ⟨(1, c, 0), Or.inr (Or.inl ⟨rfl, hcn, ?_, ?_, ?_⟩), fun z => by (cases z), Or.inl hL, ?_, fun z => by omega⟩⟩
  · refine ⟨⟨fun i h1 h2 => ?_, fun p a b hp => ?_⟩, fun S hS i hi2 => ?_⟩
    · have : i ≠ c := fun z => by rw [z] at h2; have h2' : up1 (fun _ => 0) c 1 c = 0 := h2; rw [up1_s] at h2'; omega
      exact (wo_bt _ hc i).mpr ⟨h1, this⟩
    · obtain ⟨n1, n2⟩ := hi p a b hp
      have := hE.2 p a b hp
      have la : bt (wo (all_ (cN X)) c) a = true := (wo_bt _ hc a).mpr ⟨(all_bt h12 a).mpr (by omega), n1⟩
      have lb : bt (wo (all_ (cN X)) c) b = true := (wo_bt _ hc b).mpr ⟨(all_bt h12 b).mpr (by omega), n2⟩
      exact ⟨fun _ _ _ => ⟨fun _ => la, fun _ => lb⟩, fun _ _ => lb, fun _ _ => la⟩
    · obtain ⟨z1, z2⟩ := (wo_bt _ hc i).mp hi2
      exact hS.1 i z1 (by show up1 (fun _ => 0) c 1 i = 0; rw [up1_o _ _ z2])
  · show tot (cN X) (fun _ => 0) < cK X
    rw [tot_0]
    have := hX.2.1.1
    omega
  · exact sb rfl
  · show 0 < up1 (fun _ => 0) c 1 c
    rw [up1_s]; omega
  · show up1 (fun _ => 0) c 0 = up1 (up1 (fun _ => 0) c 1) c (up1 (fun _ => 0) c 1 c - 1)
    rw [up_up, up1_s]
  · show LeO (cE X) (up1 (fun _ => 0) c 0) (fun i => bt (wo (all_ (cN X)) c) i = true) _ (fun i => bt (wo (all_ (cN X)) c) i = true)
    refine ⟨⟨fun i h1 _ => h1, fun p a b hp => ?_⟩, fun S hS i hi2 => ?_⟩
    · obtain ⟨n1, n2⟩ := hi p a b hp
      have := hE.2 p a b hp
      have la : bt (wo (all_ (cN X)) c) a = true := (wo_bt _ hc a).mpr ⟨(all_bt h12 a).mpr (by omega), n1⟩
      have lb : bt (wo (all_ (cN X)) c) b = true := (wo_bt _ hc b).mpr ⟨(all_bt h12 b).mpr (by omega), n2⟩
      exact ⟨fun _ _ _ => ⟨fun _ => la, fun _ => lb⟩, fun _ _ => lb, fun _ _ => la⟩
    · refine hS.1 i hi2 ?_
      by_cases z : i = c
      · rw [z, up1_s]
      · rw [up1_o _ _ z]
  · show false = true ↔ _
    constructor
    · intro z; cases z
    · rintro ⟨z, -⟩; omega
theorem short_600 {X : CX} (hX : CXok X) {H : Nat} (hS : Stop X H) {g d : Nat} {P : Nat → Nat} (hP : Wy (bst X H) g d P) (hgl : (bQ (bst X H) g).1.2 = 0) (hfst : ∀ j, j < g → (bQ (bst X H) j).1.2 ≠ 0) : d ≤ 600 := by
  have hB := bst_ok hX H (fun h hh => (hS.1 h hh).1)
  obtain ⟨B, hBe⟩ : ∃ B, B = bst X H := ⟨_, rfl⟩
  have hn := hX.2.2.2.1
  have hK := hX.2.1.2
  obtain ⟨Q, hQ⟩ : ∃ Q : Nat → BS, ∀ k, Q k = bQ (bst X H) (P k) := ⟨fun k => bQ (bst X H) (P k), fun _ => rfl⟩
  have vs : ∀ k, k ≤ d → VS X (Q k) := fun k hk => by rw [hQ]; exact hB.2.1 _ (hP.2.2.1 k hk)
  have ne : ∀ i j, i < j → j ≤ d → Q i ≠ Q j := fun i j h1 h2 => by
    rw [hQ, hQ]; exact hB.2.2.1 _ _ (hP.mono i j h1 h2) (hP.2.2.1 j h2)
  have st : ∀ k, k < d → ∃ x, Cd X (Q k) x (Q (k + 1)) := fun k hk => by
    obtain ⟨h1, h2⟩ := hP.2.2.2 k hk
    have := (hB.2.2.2.1 (P (k + 1)) (by omega) (hP.2.2.1 (k + 1) (by omega))).2
    rw [h2] at this
    rw [hQ, hQ]
    exact ⟨_, this⟩
  have q0 : Q 0 = (std0 (cN X), false) := by rw [hQ, hP.1]; exact hB.1.2
  have qd : (Q d).1.2 = 0 := by rw [hQ, hP.2.1]; exact hgl
  have hL := hX.1
  have hLc : cL X = 0 ∨ cL X = 1 ∨ cL X = 2 := by omega
  rcases hLc with hL0 | hL1 | hL2
  · have sl0 : ∀ {s : BS}, VS X s → s.2 = false := fun {s} h => Bool.eq_false_iff.mpr fun z => by have := h.2.2.1 z; omega
    by_cases hiso : cN X = 6 ∧ ∃ c, c < 6 ∧ Iso (cE X) c
    · obtain ⟨h6, c, c1, c2⟩ := hiso
      obtain ⟨t, ⟨x1, hx1⟩, y1, hy1⟩ := two_st hX hL0 (c := c) (by omega) c2
      have vt := hx1.vs hX (VS0 hX)
      have v0 := hy1.vs hX vt
      obtain ⟨l, R, r1, r2, r3, r4⟩ := short_ (R := fun s t => (∃ x, Cd X s x t) ∧ dg s.1 c = 0 ∧ dg t.1 c = 0) (a := pj c (Q 0)) (b := pj c (Q d)) ⟨d, fun k => pj c (Q k), rfl, rfl, fun k hk => by
        obtain ⟨x, hx⟩ := st k hk
        rcases pj_step hX hL0 (by omega) c2 (vs k (by omega)) hx with z | z
        · exact Or.inl z
        · exact Or.inr ⟨z, pj_dg c (by omega) _, pj_dg c (by omega) _⟩⟩
      have vR : ∀ k, k ≤ l → VS X (R k) := by
        intro k
        induction k with
        | zero => intro _; rw [r1, q0]; exact v0
        | succ k ih =>
          intro hk
          obtain ⟨⟨x, hx⟩, -⟩ := r3 k (by omega)
          exact hx.vs hX (ih (by omega))
      have dR : ∀ k, k ≤ l → dg (R k).1 c = 0 := by
        intro k hk
        cases k with
        | zero => rw [r1]; exact pj_dg c (by omega) _
        | succ k => exact (r3 k (by omega)).2.2
      have hl := cnt_588 hX (M := l + 1) (Q := R) (fun i hi => vR i (by omega)) (fun i j h1 h2 => by rw [sl0 (vR i (by omega)), sl0 (vR j (by omega))]) (fun i j h1 h2 => r4 i j h1 (by omega)) (fun _ _ _ _ => ⟨c, c1, fun i j h1 h2 => by rw [dR i (by omega), dR j (by omega)]⟩)
      have := wy_min hX hS hP hgl hfst (l := l + 2) (R := fun k => if k = 0 then (std0 (cN X), false) else if k = 1 then t else R (k - 2)) rfl (by
        show (R (l + 2 - 2)).1.2 = 0
        rw [Nat.add_sub_cancel, r2]
        show wo (Q d).1.2 c = 0
        rw [qd]
        unfold wo
        exact b_zero.mpr fun i _ => by rw [b_and, b_0, Bool.false_and]) (fun k hk => by
        by_cases k0 : k = 0
        · rw [k0]; exact ⟨x1, hx1⟩
        · by_cases k1 : k = 1
          · rw [k1]
            refine ⟨y1, ?_⟩
            show Cd X t y1 (R 0)
            rw [r1, q0]; exact hy1
          · obtain ⟨j, rfl⟩ : ∃ j, k = j + 2 := ⟨k - 2, by omega⟩
            obtain ⟨⟨x, hx⟩, -⟩ := r3 j (by omega)
            exact ⟨x, hx⟩)
      omega
    · have hl := cnt_588 hX (M := d + 1) (Q := Q) (fun i hi => vs i (by omega)) (fun i j h1 h2 => by rw [sl0 (vs i (by omega)), sl0 (vs j (by omega))]) (fun i j h1 h2 => ne i j h1 (by omega)) (fun h6 c c1 c2 => absurd ⟨h6, c, c1, c2⟩ hiso)
      omega
  · have pre : ∀ k, k ≤ d → (Q k).2 = false → k ≤ tot (cN X) (Q k).1.1 := by
      intro k
      induction k with
      | zero => intro _ _; omega
      | succ k ih =>
        intro hk hf
        obtain ⟨x, hx⟩ := st k (by omega)
        have hs : (Q k).2 = false := Bool.eq_false_iff.mpr fun z => by
          have := hx.2.2.2.1.mpr ⟨hL1, Or.inl z⟩
          rw [hf] at this; cases this
        have x2 : x.1 ≠ 2 := fun z => by
          have := hx.2.2.2.1.mpr ⟨hL1, Or.inr z⟩
          rw [hf] at this; cases this
        have x1 : x.1 ≠ 1 := by
          rcases hx.2.2.1 with z | z
          · omega
          · exact z.1
        have := hx.1.o2
        have t0 := (hx.1.tot hX.2.2.2.2).1 (by omega)
        have := ih (by omega) hs
        omega
    have sl : ∀ k, 4 ≤ k → k ≤ d → (Q k).2 = true := fun k h1 h2 => by
      cases hs : (Q k).2 with
      | true => rfl
      | false =>
        have := pre k h2 hs
        have := (vs k h2).2.1
        omega
    by_cases h4 : d < 4
    · omega
    · have hl := cnt_588 hX (M := d - 3) (Q := fun i => Q (i + 4)) (fun i hi => vs (i + 4) (by omega)) (fun i j h1 h2 => by
        show (Q (i + 4)).2 = (Q (j + 4)).2
        rw [sl (i + 4) (by omega) (by omega), sl (j + 4) (by omega) (by omega)]) (fun i j h1 h2 => ne (i + 4) (j + 4) (by omega) (by omega)) (fun h6 c c1 c2 => ⟨c, c1, by
        have cst : ∀ k, 4 + k ≤ d → dg (Q (4 + k)).1 c = dg (Q 4).1 c := by
          intro k
          induction k with
          | zero => intro _; rfl
          | succ k ih =>
            intro hk
            obtain ⟨x, hx⟩ := st (4 + k) (by omega)
            have hs := sl (4 + k) (by omega) (by omega)
            have x2 : x.1 = 2 := by
              have := hx.1.o2
              rcases hx.2.2.1 with z | ⟨z1, z2⟩
              · omega
              · have : x.1 ≠ 0 := fun z => (z2 z).1 hL1 hs
                omega
            rw [show 4 + (k + 1) = 4 + k + 1 by omega, hx.1.dgc c2 (vs (4 + k) (by omega)).1 (hx.1.slid c2 x2).1]
            exact ih (by omega)
        intro i j h1 h2
        show dg (Q (i + 4)).1 c = dg (Q (j + 4)).1 c
        rw [Nat.add_comm i 4, Nat.add_comm j 4, cst i (by omega), cst j (by omega)]⟩)
      omega
  · have sl0 : ∀ {s : BS}, VS X s → s.2 = false := fun {s} h => Bool.eq_false_iff.mpr fun z => by have := h.2.2.1 z; omega
    have hl := cnt_588 hX (M := d + 1) (Q := Q) (fun i hi => vs i (by omega)) (fun i j h1 h2 => by rw [sl0 (vs i (by omega)), sl0 (vs j (by omega))]) (fun i j h1 h2 => ne i j h1 (by omega)) (fun h6 c c1 c2 => by
      have ord : ∀ {s t : BS} {x : Ord_}, Cd X s x t → (x.1 = 0 ∧ x.2.1 = cM X) ∨ x.1 = 2 := fun {s t x} hx => by
        have := hx.1.o2
        rcases hx.2.2.1 with z | ⟨z1, z2⟩
        · omega
        · by_cases x0 : x.1 = 0
          · exact Or.inl ⟨x0, (z2 x0).2 hL2⟩
          · exact Or.inr (by omega)
      by_cases hcm : c = cM X
      · obtain ⟨e, e1, e2⟩ : ∃ e, e < 6 ∧ e ≠ c := by
          by_cases z : c = 0
          · exact ⟨1, by omega, by omega⟩
          · exact ⟨0, by omega, by omega⟩
        refine ⟨e, e1, ?_⟩
        have inv : ∀ k, k ≤ d → ∀ v, v < 6 → v ≠ c → (Q k).1.1 v = 0 ∧ bt (Q k).1.2 v = true := by
          intro k
          induction k with
          | zero =>
            intro _ v v1 v2
            rw [q0]
            refine ⟨rfl, ?_⟩
            show bt (all_ (cN X)) v = true
            rw [all_bt (by omega)]; omega
          | succ k ih =>
            intro hk v v1 v2
            obtain ⟨x, hx⟩ := st k (by omega)
            obtain ⟨i1, i2⟩ := ih (by omega) v v1 v2
            have m0 : (Q (k + 1)).1.1 v = 0 := by
              rcases ord hx with ⟨o1, o2⟩ | o
              · rw [hx.1.put o1, up1_o _ _ (by omega)]; exact i1
              · have h1 := hx.1.slid c2 o
                have h2 := hx.1.cn hX.2.2.2.2
                have h3 := (ih (by omega) x.2.1 (by omega) h1.2).1
                rcases hx.1 with ⟨z, -⟩ | ⟨z, -⟩ | ⟨-, z, -⟩
                · omega
                · omega
                · omega
            obtain ⟨_, hl⟩ := hx.1.leO
            exact ⟨m0, hl.1.1 v i2 m0⟩
        intro i j h1 h2
        obtain ⟨a1, a2⟩ := inv i (by omega) e e1 e2
        obtain ⟨b1, b2⟩ := inv j (by omega) e e1 e2
        unfold dg
        rw [a1, a2, b1, b2]
      · refine ⟨c, c1, ?_⟩
        have cst : ∀ k, k ≤ d → dg (Q k).1 c = dg (Q 0).1 c := by
          intro k
          induction k with
          | zero => intro _; rfl
          | succ k ih =>
            intro hk
            obtain ⟨x, hx⟩ := st k (by omega)
            have hm : (Q (k + 1)).1.1 c = (Q k).1.1 c := by
              rcases ord hx with ⟨o1, o2⟩ | o
              · rw [hx.1.put o1, up1_o _ _ (by omega)]
              · exact (hx.1.slid c2 o).1
            rw [hx.1.dgc c2 (vs k (by omega)).1 hm]
            exact ih (by omega)
        intro i j h1 h2
        rw [cst i (by omega), cst j (by omega)])
    omega
