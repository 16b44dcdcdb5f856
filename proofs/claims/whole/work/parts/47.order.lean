/-! ===== order ===== -/
def apS (S : Nat → Std) (K : Nat) (t : Std) : Nat → Std := fun j => if j ≤ K then S j else t
def apO (O : Nat → Ord_) (K : Nat) (o : Ord_) : Nat → Ord_ := fun j => if j < K then O j else o
theorem apS_l (S : Nat → Std) {K j : Nat} (t : Std) (h : j ≤ K) : apS S K t j = S j := if_pos h
theorem apS_r (S : Nat → Std) (K : Nat) (t : Std) : apS S K t (K + 1) = t := if_neg (by omega)
theorem apO_l (O : Nat → Ord_) {K j : Nat} (o : Ord_) (h : j < K) : apO O K o j = O j := if_pos h
theorem apO_r (O : Nat → Ord_) (K : Nat) (o : Ord_) : apO O K o K = o := if_neg (by omega)
theorem mxT_ap (n : Nat) (S : Nat → Std) (K : Nat) (t : Std) : ∀ j, j ≤ K → mxT n (apS S K t) j = mxT n S j := by
  intro j
  induction j with
  | zero => intro h; unfold mxT; rw [apS_l S t h]
  | succ j ih =>
    intro h
    unfold mxT
    rw [ih (by omega), apS_l S t h]
theorem mxT_9 {n : Nat} {E : Gr} {S : Nat → Std} : ∀ j, (∀ i, i ≤ j → SO n E (S i)) → mxT n S j ≤ 9 := by
  intro j
  induction j with
  | zero => intro h; exact (h 0 (by omega)).2.2.2
  | succ j ih =>
    intro h
    unfold mxT
    have h1 := ih (fun i hi => h i (by omega))
    have h2 := (h (j + 1) (by omega)).2.2.2
    split <;> omega
theorem HI.ap {n : Nat} {E : Gr} {K : Nat} {S : Nat → Std} {O : Nat → Ord_} (h : HI n E K S O) (hK : K < 200) {t : Std} {o : Ord_} (hT : Tr n E o (S K) t) (ht : SO n E t) : HI n E (K + 1) (apS S K t) (apO O K o) := by
  refine ⟨by omega, by rw [apS_l S t (by omega)]; exact h.2.1, fun j hj => ?_, fun j hj => ?_⟩
  · by_cases hjK : j ≤ K
    · rw [apS_l S t hjK]; exact h.2.2.1 j hjK
    · have : j = K + 1 := by omega
      rw [this, apS_r]; exact ht
  · by_cases hjK : j < K
    · rw [apO_l O o hjK, apS_l S t (by omega), apS_l S t (by omega)]; exact h.2.2.2 j hjK
    · have : j = K := by omega
      rw [this, apO_r, apS_l S t (Nat.le_refl K), apS_r]; exact hT
/-- the class writes an order down -/
theorem xcar {σ σ2 : Sg} {n : Nat} {E : Gr} {K : Nat} {S : Nat → Std} {O : Nat → Ord_} (F : Nat) (hK : K < 200) (hHI : HI n E K S O) (hXH : XH σ n K S O) {t : Std} {o : Ord_} (ht : SO n E t) {wh l4 : Int32} (hwh : wh = nI o.1 ∨ (o.1 = 2 ∧ wh = 3)) (hl4 : o.1 = 2 → l4 = nI o.2.2) (hs : Sm [5, 6, 7] [13] σ σ2) (hX : XM12 σ2 n t.1) (h7 : σ2.1 7 = t.2) :
    ∃ σ', bX3_carryOut_82 F σ2 wh (nI o.2.1) l4 (S K).2 = some (1, σ') ∧ Sm [3, 4, 5, 6, 7] [7, 8, 9, 10, 11, 13] σ σ' ∧ XN σ' n t ∧ XH σ' n (K + 1) (apS S K t) (apO O K o) := by
  have h3 : σ2.1 3 = nI K := (hs.1 3 (by simp)).trans hXH.1
  have h4 : σ2.1 4 = nI (mxT n S K) := (hs.1 4 (by simp)).trans hXH.2.1
  have hcK : (nI K).toNatClampNeg = K := nI_clamp (by omega)
  have iK : ib (nI K) 200 := nI_in (by omega) (by omega)
  have hm9 := mxT_9 K hHI.2.2.1
  have ht9 := ht.2.2.2
  generalize hσ5 : sa (sa (sa (sa (sa σ2 7 K wh) 8 K (nI o.2.1)) 9 K l4) 10 K (S K).2) 11 K (nI (mxT n S K)) = σ5
  have s5 : Sm [3, 4, 5, 6, 7] [7, 8, 9, 10, 11, 13] σ2 σ5 := by rw [← hσ5]; exact ((((Sm.sa (by simp)).tr (Sm.sa (by simp))).tr (Sm.sa (by simp))).tr (Sm.sa (by simp))).tr (Sm.sa (by simp))
  have a7 : ∀ j, σ5.2.1 7 j = if j = K then wh else σ2.2.1 7 j := fun j => by rw [← hσ5]; rfl
  have a8 : ∀ j, σ5.2.1 8 j = if j = K then nI o.2.1 else σ2.2.1 8 j := fun j => by rw [← hσ5]; rfl
  have a9 : ∀ j, σ5.2.1 9 j = if j = K then l4 else σ2.2.1 9 j := fun j => by rw [← hσ5]; rfl
  have a10 : ∀ j, σ5.2.1 10 j = if j = K then (S K).2 else σ2.2.1 10 j := fun j => by rw [← hσ5]; rfl
  have a11 : ∀ j, σ5.2.1 11 j = if j = K then nI (mxT n S K) else σ2.2.1 11 j := fun j => by rw [← hσ5]; rfl
  have v5 : σ5.1 = σ2.1 := by rw [← hσ5]; rfl
  have v13 : σ5.2.1 13 = σ2.2.1 13 := by rw [← hσ5]; rfl
  have emx : mx_ (nI (mxT n S K)) (nI (tot n t.1)) = nI (mxT n (apS S K t) (K + 1)) := by
    rw [(mnx (by omega) (by omega)).2]
    show _ = nI (if mxT n (apS S K t) K < tot n (apS S K t (K + 1)).1 then tot n (apS S K t (K + 1)).1 else mxT n (apS S K t) K)
    rw [mxT_ap n S K t K (Nat.le_refl K), apS_r]
  refine ⟨sv (sv σ5 3 (nI (K + 1))) 4 (nI (mxT n (apS S K t) (K + 1))), ?_, (((hs.up (fun i hi => by simp at hi; simp; omega) (fun k hk => by simp at hk; simp [hk])).tr s5).tr (Sm.sv (by simp))).tr (Sm.sv (by simp)), ⟨?_, ?_, fun i => ?_, ?_⟩, ⟨rfl, rfl, fun j hj => ?_⟩⟩
  · unfold bX3_carryOut_82 ls_
    simp only [sa_1, h3, if_pos iK, hcK, h4, hσ5, v5, nI_1]
    have e5 : (sv σ5 3 (nI (K + 1))).1 5 = nI (tot n t.1) := by rw [sv_1, if_neg (by decide), v5]; exact hX.2.1
    have e4 : (sv σ5 3 (nI (K + 1))).1 4 = nI (mxT n S K) := by rw [sv_1, if_neg (by decide), v5]; exact h4
    rw [e5, e4, emx]
  · show ∀ c, c < 12 → σ5.2.1 13 c = _
    rw [v13]; exact hX.1
  · rw [sv_1, if_neg (by decide), sv_1, if_neg (by decide), v5]; exact hX.2.1
  · rw [sv_1, if_neg (by decide), sv_1, if_neg (by decide), v5]; exact hX.2.2 i
  · rw [sv_1, if_neg (by decide), sv_1, if_neg (by decide), v5]; exact h7
  · simp only [sv_2]
    rw [a7, a8, a9, a10, a11]
    by_cases hjK : j = K
    · subst hjK
      rw [if_pos rfl, if_pos rfl, if_pos rfl, if_pos rfl, if_pos rfl, apO_r, apS_l S t (Nat.le_refl j), mxT_ap n S j t j (Nat.le_refl j)]
      exact ⟨hwh, rfl, hl4, rfl, rfl⟩
    · rw [if_neg hjK, if_neg hjK, if_neg hjK, if_neg hjK, if_neg hjK, apO_l O o (by omega), apS_l S t (by omega), mxT_ap n S K t j (by omega), hs.2.1 7 (by simp), hs.2.1 8 (by simp), hs.2.1 9 (by simp), hs.2.1 10 (by simp), hs.2.1 11 (by simp)]
      exact hXH.2.2 j (by omega)
/-- the reference writes an order down -/
theorem mcar {σ σ3 : Sg} {E : Gr} {K : Nat} {S : Nat → Std} {O : Nat → Ord_} {F : Nat} (hF : 40 ≤ F) (hK : K < 200) (hMH : MH σ E K S O) {t : Std} {o : Ord_} {wh l4 : Int32} (hwh : wh = nI o.1 ∨ (o.1 = 2 ∧ wh = 3)) (ho : o.1 ≤ 2) (hs : Sm [23, 24] [29] σ σ3) (hM : MN σ3 t.1) (h23 : σ3.1 23 = t.2) (h24 : ∀ i, bt (σ3.1 24) i = true ↔ PO E (fun i => bt t.2 i = true) i) :
    ∃ τ, bX7_order_161 F σ3 wh (nI o.2.1) l4 = some (1, τ) ∧ Sm [23, 24, 25] [29, 30, 31, 32, 33, 34, 35] σ τ ∧ MH τ E (K + 1) (apS S K t) (apO O K o) := by
  have h25 : σ3.1 25 = nI K := (hs.1 25 (by simp)).trans hMH.1
  have hcK : (nI K).toNatClampNeg = K := nI_clamp (by omega)
  have iK : ib (nI K) 201 := nI_in (by omega) (by omega)
  have key : ∀ al : Int32, ∃ τ, ((fX7_keeps F (sv (sa (sa (sa σ3 30 K (nI o.1)) 31 K (nI o.2.1)) 32 K al) 25 (nI (K + 1)))).bind fun q5 => (fun (r5 : Int32) (σ5 : Sg) => some ((1 : Int32), σ5)) q5.1 q5.2) = some (1, τ) ∧ Sm [23, 24, 25] [29, 30, 31, 32, 33, 34, 35] σ τ ∧ MH τ E (K + 1) (apS S K t) (apO O K o) := by
    intro al
    generalize hσ4 : sv (sa (sa (sa σ3 30 K (nI o.1)) 31 K (nI o.2.1)) 32 K al) 25 (nI (K + 1)) = σ4
    have s4 : Sm [25] [30, 31, 32] σ3 σ4 := by rw [← hσ4]; exact (((Sm.sa (by simp)).tr (Sm.sa (by simp))).tr (Sm.sa (by simp))).tr (Sm.sv (by simp))
    have a30 : ∀ j, σ4.2.1 30 j = if j = K then nI o.1 else σ3.2.1 30 j := fun j => by rw [← hσ4]; rfl
    have a31 : ∀ j, σ4.2.1 31 j = if j = K then nI o.2.1 else σ3.2.1 31 j := fun j => by rw [← hσ4]; rfl
    have e25 : σ4.1 25 = nI (K + 1) := by rw [← hσ4]; rfl
    obtain ⟨τ, e, s5, b1, b2, b3, b4⟩ := kee hF (K := K + 1) (by omega) e25 (hM.sm s4 (by simp))
    refine ⟨τ, by rw [e]; rfl, ((hs.up (fun i hi => by simp at hi; simp; omega) (fun k hk => by simp at hk; simp [hk])).tr (s4.up (fun i hi => by simp at hi; simp [hi]) (fun k hk => by simp at hk; simp; omega))).tr (s5.up (by simp) (fun k hk => by simp at hk; simp; omega)), ⟨?_, fun j hj => ?_, fun j hj => ?_⟩⟩
    · rw [s5.1 25 (by simp)]; exact e25
    · by_cases hjK : j ≤ K
      · rw [apS_l S t hjK]
        obtain ⟨c1, c2, c3⟩ := hMH.2.1 j hjK
        refine ⟨fun c hc => ?_, ?_, fun i => ?_⟩
        · rw [b2 _ (by omega), s4.2.1 33 (by simp), hs.2.1 33 (by simp)]; exact c1 c hc
        · rw [b3, if_neg (by omega), s4.2.1 34 (by simp), hs.2.1 34 (by simp)]; exact c2
        · rw [b4, if_neg (by omega), s4.2.1 35 (by simp), hs.2.1 35 (by simp)]; exact c3 i
      · have : j = K + 1 := by omega
        subst this
        rw [apS_r]
        refine ⟨fun c hc => b1 c hc, ?_, fun i => ?_⟩
        · rw [b3, if_pos rfl, s4.1 23 (by simp)]; exact h23
        · rw [b4, if_pos rfl, s4.1 24 (by simp)]; exact h24 i
    · rw [s5.2.1 30 (by simp), s5.2.1 31 (by simp), a30, a31]
      by_cases hjK : j = K
      · subst hjK; rw [if_pos rfl, if_pos rfl, apO_r]; exact ⟨rfl, rfl⟩
      · rw [if_neg hjK, if_neg hjK, apO_l O o (by omega), hs.2.1 30 (by simp), hs.2.1 31 (by simp)]; exact hMH.2.2 j (by omega)
  unfold bX7_order_161 ls_
  simp only [sa_1, h25, if_pos iK, hcK, nI_1]
  by_cases h3 : wh = 3
  · rw [if_pos h3]
    have ho2 : nI o.1 = 2 := by
      rcases hwh with h | h
      · rw [h3, show (3 : Int32) = nI 3 by decide, nI_eq (by omega) (by omega)] at h; omega
      · rw [h.1]; rfl
    rw [if_neg (show ¬ wh < 2 by rw [h3]; decide), ← ho2]
    exact key l4
  · rw [if_neg h3]
    have ho2 : wh = nI o.1 := hwh.resolve_right (fun h => h3 h.2)
    rw [ho2]
    by_cases h : nI o.1 < 2
    · rw [if_pos h]; exact key (-1)
    · rw [if_neg h]; exact key l4
