/-! the state: numbers of the scalar fields (σ.1), arrays by their cell (σ.2.1), the way (σ.2.2)
  cell 0 x (class X6): ground=cell 1, search=cell 6, layout=cell 14, finder=cell 17, replay=cell 22, way=way
  cell 1 ground (class X1): caves=0, dug=1, mouth=2, lesser=cell 2, greater=cell 3, at=cell 4, next=cell 5
  cell 2 ground.lesser [18]
  cell 3 ground.greater [18]
  cell 4 ground.at [12]
  cell 5 ground.next [12]
  cell 6 search (class X3): ground=cell 1, now=cell 12, done=3, party=4, what=cell 7, cave=cell 8, passage=cell 9, lostBefore=cell 10, partyBefore=cell 11
  cell 7 search.what [200]
  cell 8 search.cave [200]
  cell 9 search.passage [200]
  cell 10 search.lostBefore [200]
  cell 11 search.partyBefore [200]
  cell 12 now (class X4): below=cell 13, total=5, guarded=6, lost=7
  cell 13 now.below [12]
  cell 14 layout (class X2): ground=cell 1, row=cell 15, worst=cell 16
  cell 15 layout.row [12]
  cell 16 layout.worst [4096]
  cell 17 finder (class X0): ground=cell 1, slots=cell 18, stands=cell 19, from=cell 20, orders=cell 21, met=8, goal=9, law=10, most=11, head=12, below=13, lost=14, slid=15, guarded=16, total=17
  cell 18 finder.slots [2048]
  cell 19 finder.stands [1604]
  cell 20 finder.from [1604]
  cell 21 finder.orders [1604]
  cell 22 replay (class X4): below=cell 23, total=18, guarded=19, lost=20
  cell 23 replay.below [12]
  cell 24 model (class X7): caves=21, mouth=22, one=cell 25, two=cell 26, isThere=cell 27, layout=cell 28, men=cell 29, lostCaves=23, lostPassages=24, done=25, what=cell 30, where=cell 31, along=cell 32, stood=cell 33, caveBits=cell 34, passageBits=cell 35, table=cell 36, met=cell 37, cameFrom=cell 38, cameBy=cell 39, metMany=26, hasSlid=27, planMany=28, plan=cell 40, ahead=cell 41
  cell 25 model.one [18]
  cell 26 model.two [18]
  cell 27 model.isThere [18]
  cell 28 model.layout [12]
  cell 29 model.men [12]
  cell 30 model.what [201]
  cell 31 model.where [201]
  cell 32 model.along [201]
  cell 33 model.stood [2412]
  cell 34 model.caveBits [201]
  cell 35 model.passageBits [201]
  cell 36 model.table [524288]
  cell 37 model.met [262144]
  cell 38 model.cameFrom [262144]
  cell 39 model.cameBy [262144]
  cell 40 model.plan [600]
  cell 41 model.ahead [4096]
-/
abbrev Sg : Type := (Nat → Int32) × (Nat → Nat → Int32) × Value
def upA (f : Nat → Nat → Int32) (k : Nat) (x : Nat → Int32) : Nat → Nat → Int32 := fun j => if j = k then x else f j
/-- a scalar set; a place of an array set; the way set -/
def sv (σ : Sg) (i : Nat) (x : Int32) : Sg := (upd σ.1 i x, σ.2.1, σ.2.2)
def sa (σ : Sg) (k i : Nat) (x : Int32) : Sg := (σ.1, upA σ.2.1 k (upd (σ.2.1 k) i x), σ.2.2)
def sw (σ : Sg) (x : Value) : Sg := (σ.1, σ.2.1, x)
def HH (g : GX) (ad : Nat → Nat) (σ : Sg) : va_W := [
  (ad 0, .inr (6, [.ref (ad 1), .ref (ad 6), .ref (ad 14), .ref (ad 17), .ref (ad 22), σ.2.2])),
  (ad 1, .inr (1, [.int (σ.1 0), .int (σ.1 1), .int (σ.1 2), .ref (ad 2), .ref (ad 3), .ref (ad 4), .ref (ad 5)])),
  (ad 2, .inl (g.2.1, 18, .inl (σ.2.1 2))),
  (ad 3, .inl (g.2.1, 18, .inl (σ.2.1 3))),
  (ad 4, .inl (g.2.1, 12, .inl (σ.2.1 4))),
  (ad 5, .inl (g.2.1, 12, .inl (σ.2.1 5))),
  (ad 6, .inr (3, [.ref (ad 1), .ref (ad 12), .int (σ.1 3), .int (σ.1 4), .ref (ad 7), .ref (ad 8), .ref (ad 9), .ref (ad 10), .ref (ad 11)])),
  (ad 7, .inl (g.2.1, 200, .inl (σ.2.1 7))),
  (ad 8, .inl (g.2.1, 200, .inl (σ.2.1 8))),
  (ad 9, .inl (g.2.1, 200, .inl (σ.2.1 9))),
  (ad 10, .inl (g.2.1, 200, .inl (σ.2.1 10))),
  (ad 11, .inl (g.2.1, 200, .inl (σ.2.1 11))),
  (ad 12, .inr (4, [.ref (ad 13), .int (σ.1 5), .int (σ.1 6), .int (σ.1 7)])),
  (ad 13, .inl (g.2.1, 12, .inl (σ.2.1 13))),
  (ad 14, .inr (2, [.ref (ad 1), .ref (ad 15), .ref (ad 16)])),
  (ad 15, .inl (g.2.1, 12, .inl (σ.2.1 15))),
  (ad 16, .inl (g.2.1, 4096, .inl (σ.2.1 16))),
  (ad 17, .inr (0, [.ref (ad 1), .ref (ad 18), .ref (ad 19), .ref (ad 20), .ref (ad 21), .int (σ.1 8), .int (σ.1 9), .int (σ.1 10), .int (σ.1 11), .int (σ.1 12), .int (σ.1 13), .int (σ.1 14), .int (σ.1 15), .int (σ.1 16), .int (σ.1 17)])),
  (ad 18, .inl (g.2.1, 2048, .inl (σ.2.1 18))),
  (ad 19, .inl (g.2.1, 1604, .inl (σ.2.1 19))),
  (ad 20, .inl (g.2.1, 1604, .inl (σ.2.1 20))),
  (ad 21, .inl (g.2.1, 1604, .inl (σ.2.1 21))),
  (ad 22, .inr (4, [.ref (ad 23), .int (σ.1 18), .int (σ.1 19), .int (σ.1 20)])),
  (ad 23, .inl (g.2.1, 12, .inl (σ.2.1 23))),
  (ad 24, .inr (7, [.int (σ.1 21), .int (σ.1 22), .ref (ad 25), .ref (ad 26), .ref (ad 27), .ref (ad 28), .ref (ad 29), .int (σ.1 23), .int (σ.1 24), .int (σ.1 25), .ref (ad 30), .ref (ad 31), .ref (ad 32), .ref (ad 33), .ref (ad 34), .ref (ad 35), .ref (ad 36), .ref (ad 37), .ref (ad 38), .ref (ad 39), .int (σ.1 26), .int (σ.1 27), .int (σ.1 28), .ref (ad 40), .ref (ad 41)])),
  (ad 25, .inl (g.2.1, 18, .inl (σ.2.1 25))),
  (ad 26, .inl (g.2.1, 18, .inl (σ.2.1 26))),
  (ad 27, .inl (g.2.2, 18, .inl (σ.2.1 27))),
  (ad 28, .inl (g.2.1, 12, .inl (σ.2.1 28))),
  (ad 29, .inl (g.2.1, 12, .inl (σ.2.1 29))),
  (ad 30, .inl (g.2.1, 201, .inl (σ.2.1 30))),
  (ad 31, .inl (g.2.1, 201, .inl (σ.2.1 31))),
  (ad 32, .inl (g.2.1, 201, .inl (σ.2.1 32))),
  (ad 33, .inl (g.2.1, 2412, .inl (σ.2.1 33))),
  (ad 34, .inl (g.2.1, 201, .inl (σ.2.1 34))),
  (ad 35, .inl (g.2.1, 201, .inl (σ.2.1 35))),
  (ad 36, .inl (g.2.1, 524288, .inl (σ.2.1 36))),
  (ad 37, .inl (g.2.1, 262144, .inl (σ.2.1 37))),
  (ad 38, .inl (g.2.1, 262144, .inl (σ.2.1 38))),
  (ad 39, .inl (g.2.1, 262144, .inl (σ.2.1 39))),
  (ad 40, .inl (g.2.1, 600, .inl (σ.2.1 40))),
  (ad 41, .inl (g.2.1, 4096, .inl (σ.2.1 41)))]
section HHs
variable {g : GX} {ad : Nat → Nat} {σ : Sg} {ex : va_W}
theorem hc0 : (HH g ad σ ++ ex)[0]? = some (ad 0, .inr (6, [.ref (ad 1), .ref (ad 6), .ref (ad 14), .ref (ad 17), .ref (ad 22), σ.2.2])) := rfl
theorem hc1 : (HH g ad σ ++ ex)[1]? = some (ad 1, .inr (1, [.int (σ.1 0), .int (σ.1 1), .int (σ.1 2), .ref (ad 2), .ref (ad 3), .ref (ad 4), .ref (ad 5)])) := rfl
theorem hc2 : (HH g ad σ ++ ex)[2]? = some (ad 2, .inl (g.2.1, 18, .inl (σ.2.1 2))) := rfl
theorem hc3 : (HH g ad σ ++ ex)[3]? = some (ad 3, .inl (g.2.1, 18, .inl (σ.2.1 3))) := rfl
theorem hc4 : (HH g ad σ ++ ex)[4]? = some (ad 4, .inl (g.2.1, 12, .inl (σ.2.1 4))) := rfl
theorem hc5 : (HH g ad σ ++ ex)[5]? = some (ad 5, .inl (g.2.1, 12, .inl (σ.2.1 5))) := rfl
theorem hc6 : (HH g ad σ ++ ex)[6]? = some (ad 6, .inr (3, [.ref (ad 1), .ref (ad 12), .int (σ.1 3), .int (σ.1 4), .ref (ad 7), .ref (ad 8), .ref (ad 9), .ref (ad 10), .ref (ad 11)])) := rfl
theorem hc7 : (HH g ad σ ++ ex)[7]? = some (ad 7, .inl (g.2.1, 200, .inl (σ.2.1 7))) := rfl
theorem hc8 : (HH g ad σ ++ ex)[8]? = some (ad 8, .inl (g.2.1, 200, .inl (σ.2.1 8))) := rfl
theorem hc9 : (HH g ad σ ++ ex)[9]? = some (ad 9, .inl (g.2.1, 200, .inl (σ.2.1 9))) := rfl
theorem hc10 : (HH g ad σ ++ ex)[10]? = some (ad 10, .inl (g.2.1, 200, .inl (σ.2.1 10))) := rfl
theorem hc11 : (HH g ad σ ++ ex)[11]? = some (ad 11, .inl (g.2.1, 200, .inl (σ.2.1 11))) := rfl
theorem hc12 : (HH g ad σ ++ ex)[12]? = some (ad 12, .inr (4, [.ref (ad 13), .int (σ.1 5), .int (σ.1 6), .int (σ.1 7)])) := rfl
theorem hc13 : (HH g ad σ ++ ex)[13]? = some (ad 13, .inl (g.2.1, 12, .inl (σ.2.1 13))) := rfl
theorem hc14 : (HH g ad σ ++ ex)[14]? = some (ad 14, .inr (2, [.ref (ad 1), .ref (ad 15), .ref (ad 16)])) := rfl
theorem hc15 : (HH g ad σ ++ ex)[15]? = some (ad 15, .inl (g.2.1, 12, .inl (σ.2.1 15))) := rfl
theorem hc16 : (HH g ad σ ++ ex)[16]? = some (ad 16, .inl (g.2.1, 4096, .inl (σ.2.1 16))) := rfl
theorem hc17 : (HH g ad σ ++ ex)[17]? = some (ad 17, .inr (0, [.ref (ad 1), .ref (ad 18), .ref (ad 19), .ref (ad 20), .ref (ad 21), .int (σ.1 8), .int (σ.1 9), .int (σ.1 10), .int (σ.1 11), .int (σ.1 12), .int (σ.1 13), .int (σ.1 14), .int (σ.1 15), .int (σ.1 16), .int (σ.1 17)])) := rfl
theorem hc18 : (HH g ad σ ++ ex)[18]? = some (ad 18, .inl (g.2.1, 2048, .inl (σ.2.1 18))) := rfl
theorem hc19 : (HH g ad σ ++ ex)[19]? = some (ad 19, .inl (g.2.1, 1604, .inl (σ.2.1 19))) := rfl
theorem hc20 : (HH g ad σ ++ ex)[20]? = some (ad 20, .inl (g.2.1, 1604, .inl (σ.2.1 20))) := rfl
theorem hc21 : (HH g ad σ ++ ex)[21]? = some (ad 21, .inl (g.2.1, 1604, .inl (σ.2.1 21))) := rfl
theorem hc22 : (HH g ad σ ++ ex)[22]? = some (ad 22, .inr (4, [.ref (ad 23), .int (σ.1 18), .int (σ.1 19), .int (σ.1 20)])) := rfl
theorem hc23 : (HH g ad σ ++ ex)[23]? = some (ad 23, .inl (g.2.1, 12, .inl (σ.2.1 23))) := rfl
theorem hc24 : (HH g ad σ ++ ex)[24]? = some (ad 24, .inr (7, [.int (σ.1 21), .int (σ.1 22), .ref (ad 25), .ref (ad 26), .ref (ad 27), .ref (ad 28), .ref (ad 29), .int (σ.1 23), .int (σ.1 24), .int (σ.1 25), .ref (ad 30), .ref (ad 31), .ref (ad 32), .ref (ad 33), .ref (ad 34), .ref (ad 35), .ref (ad 36), .ref (ad 37), .ref (ad 38), .ref (ad 39), .int (σ.1 26), .int (σ.1 27), .int (σ.1 28), .ref (ad 40), .ref (ad 41)])) := rfl
theorem hc25 : (HH g ad σ ++ ex)[25]? = some (ad 25, .inl (g.2.1, 18, .inl (σ.2.1 25))) := rfl
theorem hc26 : (HH g ad σ ++ ex)[26]? = some (ad 26, .inl (g.2.1, 18, .inl (σ.2.1 26))) := rfl
theorem hc27 : (HH g ad σ ++ ex)[27]? = some (ad 27, .inl (g.2.2, 18, .inl (σ.2.1 27))) := rfl
theorem hc28 : (HH g ad σ ++ ex)[28]? = some (ad 28, .inl (g.2.1, 12, .inl (σ.2.1 28))) := rfl
theorem hc29 : (HH g ad σ ++ ex)[29]? = some (ad 29, .inl (g.2.1, 12, .inl (σ.2.1 29))) := rfl
theorem hc30 : (HH g ad σ ++ ex)[30]? = some (ad 30, .inl (g.2.1, 201, .inl (σ.2.1 30))) := rfl
theorem hc31 : (HH g ad σ ++ ex)[31]? = some (ad 31, .inl (g.2.1, 201, .inl (σ.2.1 31))) := rfl
theorem hc32 : (HH g ad σ ++ ex)[32]? = some (ad 32, .inl (g.2.1, 201, .inl (σ.2.1 32))) := rfl
theorem hc33 : (HH g ad σ ++ ex)[33]? = some (ad 33, .inl (g.2.1, 2412, .inl (σ.2.1 33))) := rfl
theorem hc34 : (HH g ad σ ++ ex)[34]? = some (ad 34, .inl (g.2.1, 201, .inl (σ.2.1 34))) := rfl
theorem hc35 : (HH g ad σ ++ ex)[35]? = some (ad 35, .inl (g.2.1, 201, .inl (σ.2.1 35))) := rfl
theorem hc36 : (HH g ad σ ++ ex)[36]? = some (ad 36, .inl (g.2.1, 524288, .inl (σ.2.1 36))) := rfl
theorem hc37 : (HH g ad σ ++ ex)[37]? = some (ad 37, .inl (g.2.1, 262144, .inl (σ.2.1 37))) := rfl
theorem hc38 : (HH g ad σ ++ ex)[38]? = some (ad 38, .inl (g.2.1, 262144, .inl (σ.2.1 38))) := rfl
theorem hc39 : (HH g ad σ ++ ex)[39]? = some (ad 39, .inl (g.2.1, 262144, .inl (σ.2.1 39))) := rfl
theorem hc40 : (HH g ad σ ++ ex)[40]? = some (ad 40, .inl (g.2.1, 600, .inl (σ.2.1 40))) := rfl
theorem hc41 : (HH g ad σ ++ ex)[41]? = some (ad 41, .inl (g.2.1, 4096, .inl (σ.2.1 41))) := rfl
theorem hsw {y : Value} : (HH g ad σ ++ ex).set 0 (ad 0, .inr (6, ([.ref (ad 1), .ref (ad 6), .ref (ad 14), .ref (ad 17), .ref (ad 22), σ.2.2] : List Value).set 5 y)) = HH g ad (sw σ y) ++ ex := rfl
theorem hswe {y : Value} {τ : Sg} (h : τ = sw σ y) : (HH g ad σ ++ ex).set 0 (ad 0, .inr (6, ([.ref (ad 1), .ref (ad 6), .ref (ad 14), .ref (ad 17), .ref (ad 22), σ.2.2] : List Value).set 5 y)) = HH g ad τ ++ ex := h ▸ hsw
theorem hs0 {y : Int32} : (HH g ad σ ++ ex).set 1 (ad 1, .inr (1, ([.int (σ.1 0), .int (σ.1 1), .int (σ.1 2), .ref (ad 2), .ref (ad 3), .ref (ad 4), .ref (ad 5)] : List Value).set 0 (.int y))) = HH g ad (sv σ 0 y) ++ ex := rfl
theorem hs0e {y : Int32} {τ : Sg} (h : τ = sv σ 0 y) : (HH g ad σ ++ ex).set 1 (ad 1, .inr (1, ([.int (σ.1 0), .int (σ.1 1), .int (σ.1 2), .ref (ad 2), .ref (ad 3), .ref (ad 4), .ref (ad 5)] : List Value).set 0 (.int y))) = HH g ad τ ++ ex := h ▸ hs0
theorem hs1 {y : Int32} : (HH g ad σ ++ ex).set 1 (ad 1, .inr (1, ([.int (σ.1 0), .int (σ.1 1), .int (σ.1 2), .ref (ad 2), .ref (ad 3), .ref (ad 4), .ref (ad 5)] : List Value).set 1 (.int y))) = HH g ad (sv σ 1 y) ++ ex := rfl
theorem hs1e {y : Int32} {τ : Sg} (h : τ = sv σ 1 y) : (HH g ad σ ++ ex).set 1 (ad 1, .inr (1, ([.int (σ.1 0), .int (σ.1 1), .int (σ.1 2), .ref (ad 2), .ref (ad 3), .ref (ad 4), .ref (ad 5)] : List Value).set 1 (.int y))) = HH g ad τ ++ ex := h ▸ hs1
theorem hs2 {y : Int32} : (HH g ad σ ++ ex).set 1 (ad 1, .inr (1, ([.int (σ.1 0), .int (σ.1 1), .int (σ.1 2), .ref (ad 2), .ref (ad 3), .ref (ad 4), .ref (ad 5)] : List Value).set 2 (.int y))) = HH g ad (sv σ 2 y) ++ ex := rfl
theorem hs2e {y : Int32} {τ : Sg} (h : τ = sv σ 2 y) : (HH g ad σ ++ ex).set 1 (ad 1, .inr (1, ([.int (σ.1 0), .int (σ.1 1), .int (σ.1 2), .ref (ad 2), .ref (ad 3), .ref (ad 4), .ref (ad 5)] : List Value).set 2 (.int y))) = HH g ad τ ++ ex := h ▸ hs2
theorem ha2 {i : Nat} {y : Int32} : (HH g ad σ ++ ex).set 2 (ad 2, .inl (g.2.1, 18, .inl (upd (σ.2.1 2) i y))) = HH g ad (sa σ 2 i y) ++ ex := rfl
theorem ha2e {i : Nat} {y : Int32} {τ : Sg} (h : τ = sa σ 2 i y) : (HH g ad σ ++ ex).set 2 (ad 2, .inl (g.2.1, 18, .inl (upd (σ.2.1 2) i y))) = HH g ad τ ++ ex := h ▸ ha2
theorem ha3 {i : Nat} {y : Int32} : (HH g ad σ ++ ex).set 3 (ad 3, .inl (g.2.1, 18, .inl (upd (σ.2.1 3) i y))) = HH g ad (sa σ 3 i y) ++ ex := rfl
theorem ha3e {i : Nat} {y : Int32} {τ : Sg} (h : τ = sa σ 3 i y) : (HH g ad σ ++ ex).set 3 (ad 3, .inl (g.2.1, 18, .inl (upd (σ.2.1 3) i y))) = HH g ad τ ++ ex := h ▸ ha3
theorem ha4 {i : Nat} {y : Int32} : (HH g ad σ ++ ex).set 4 (ad 4, .inl (g.2.1, 12, .inl (upd (σ.2.1 4) i y))) = HH g ad (sa σ 4 i y) ++ ex := rfl
theorem ha4e {i : Nat} {y : Int32} {τ : Sg} (h : τ = sa σ 4 i y) : (HH g ad σ ++ ex).set 4 (ad 4, .inl (g.2.1, 12, .inl (upd (σ.2.1 4) i y))) = HH g ad τ ++ ex := h ▸ ha4
theorem ha5 {i : Nat} {y : Int32} : (HH g ad σ ++ ex).set 5 (ad 5, .inl (g.2.1, 12, .inl (upd (σ.2.1 5) i y))) = HH g ad (sa σ 5 i y) ++ ex := rfl
theorem ha5e {i : Nat} {y : Int32} {τ : Sg} (h : τ = sa σ 5 i y) : (HH g ad σ ++ ex).set 5 (ad 5, .inl (g.2.1, 12, .inl (upd (σ.2.1 5) i y))) = HH g ad τ ++ ex := h ▸ ha5
theorem hs3 {y : Int32} : (HH g ad σ ++ ex).set 6 (ad 6, .inr (3, ([.ref (ad 1), .ref (ad 12), .int (σ.1 3), .int (σ.1 4), .ref (ad 7), .ref (ad 8), .ref (ad 9), .ref (ad 10), .ref (ad 11)] : List Value).set 2 (.int y))) = HH g ad (sv σ 3 y) ++ ex := rfl
theorem hs3e {y : Int32} {τ : Sg} (h : τ = sv σ 3 y) : (HH g ad σ ++ ex).set 6 (ad 6, .inr (3, ([.ref (ad 1), .ref (ad 12), .int (σ.1 3), .int (σ.1 4), .ref (ad 7), .ref (ad 8), .ref (ad 9), .ref (ad 10), .ref (ad 11)] : List Value).set 2 (.int y))) = HH g ad τ ++ ex := h ▸ hs3
theorem hs4 {y : Int32} : (HH g ad σ ++ ex).set 6 (ad 6, .inr (3, ([.ref (ad 1), .ref (ad 12), .int (σ.1 3), .int (σ.1 4), .ref (ad 7), .ref (ad 8), .ref (ad 9), .ref (ad 10), .ref (ad 11)] : List Value).set 3 (.int y))) = HH g ad (sv σ 4 y) ++ ex := rfl
theorem hs4e {y : Int32} {τ : Sg} (h : τ = sv σ 4 y) : (HH g ad σ ++ ex).set 6 (ad 6, .inr (3, ([.ref (ad 1), .ref (ad 12), .int (σ.1 3), .int (σ.1 4), .ref (ad 7), .ref (ad 8), .ref (ad 9), .ref (ad 10), .ref (ad 11)] : List Value).set 3 (.int y))) = HH g ad τ ++ ex := h ▸ hs4
theorem ha7 {i : Nat} {y : Int32} : (HH g ad σ ++ ex).set 7 (ad 7, .inl (g.2.1, 200, .inl (upd (σ.2.1 7) i y))) = HH g ad (sa σ 7 i y) ++ ex := rfl
theorem ha7e {i : Nat} {y : Int32} {τ : Sg} (h : τ = sa σ 7 i y) : (HH g ad σ ++ ex).set 7 (ad 7, .inl (g.2.1, 200, .inl (upd (σ.2.1 7) i y))) = HH g ad τ ++ ex := h ▸ ha7
theorem ha8 {i : Nat} {y : Int32} : (HH g ad σ ++ ex).set 8 (ad 8, .inl (g.2.1, 200, .inl (upd (σ.2.1 8) i y))) = HH g ad (sa σ 8 i y) ++ ex := rfl
theorem ha8e {i : Nat} {y : Int32} {τ : Sg} (h : τ = sa σ 8 i y) : (HH g ad σ ++ ex).set 8 (ad 8, .inl (g.2.1, 200, .inl (upd (σ.2.1 8) i y))) = HH g ad τ ++ ex := h ▸ ha8
theorem ha9 {i : Nat} {y : Int32} : (HH g ad σ ++ ex).set 9 (ad 9, .inl (g.2.1, 200, .inl (upd (σ.2.1 9) i y))) = HH g ad (sa σ 9 i y) ++ ex := rfl
theorem ha9e {i : Nat} {y : Int32} {τ : Sg} (h : τ = sa σ 9 i y) : (HH g ad σ ++ ex).set 9 (ad 9, .inl (g.2.1, 200, .inl (upd (σ.2.1 9) i y))) = HH g ad τ ++ ex := h ▸ ha9
theorem ha10 {i : Nat} {y : Int32} : (HH g ad σ ++ ex).set 10 (ad 10, .inl (g.2.1, 200, .inl (upd (σ.2.1 10) i y))) = HH g ad (sa σ 10 i y) ++ ex := rfl
theorem ha10e {i : Nat} {y : Int32} {τ : Sg} (h : τ = sa σ 10 i y) : (HH g ad σ ++ ex).set 10 (ad 10, .inl (g.2.1, 200, .inl (upd (σ.2.1 10) i y))) = HH g ad τ ++ ex := h ▸ ha10
theorem ha11 {i : Nat} {y : Int32} : (HH g ad σ ++ ex).set 11 (ad 11, .inl (g.2.1, 200, .inl (upd (σ.2.1 11) i y))) = HH g ad (sa σ 11 i y) ++ ex := rfl
theorem ha11e {i : Nat} {y : Int32} {τ : Sg} (h : τ = sa σ 11 i y) : (HH g ad σ ++ ex).set 11 (ad 11, .inl (g.2.1, 200, .inl (upd (σ.2.1 11) i y))) = HH g ad τ ++ ex := h ▸ ha11
theorem hs5 {y : Int32} : (HH g ad σ ++ ex).set 12 (ad 12, .inr (4, ([.ref (ad 13), .int (σ.1 5), .int (σ.1 6), .int (σ.1 7)] : List Value).set 1 (.int y))) = HH g ad (sv σ 5 y) ++ ex := rfl
theorem hs5e {y : Int32} {τ : Sg} (h : τ = sv σ 5 y) : (HH g ad σ ++ ex).set 12 (ad 12, .inr (4, ([.ref (ad 13), .int (σ.1 5), .int (σ.1 6), .int (σ.1 7)] : List Value).set 1 (.int y))) = HH g ad τ ++ ex := h ▸ hs5
theorem hs6 {y : Int32} : (HH g ad σ ++ ex).set 12 (ad 12, .inr (4, ([.ref (ad 13), .int (σ.1 5), .int (σ.1 6), .int (σ.1 7)] : List Value).set 2 (.int y))) = HH g ad (sv σ 6 y) ++ ex := rfl
theorem hs6e {y : Int32} {τ : Sg} (h : τ = sv σ 6 y) : (HH g ad σ ++ ex).set 12 (ad 12, .inr (4, ([.ref (ad 13), .int (σ.1 5), .int (σ.1 6), .int (σ.1 7)] : List Value).set 2 (.int y))) = HH g ad τ ++ ex := h ▸ hs6
theorem hs7 {y : Int32} : (HH g ad σ ++ ex).set 12 (ad 12, .inr (4, ([.ref (ad 13), .int (σ.1 5), .int (σ.1 6), .int (σ.1 7)] : List Value).set 3 (.int y))) = HH g ad (sv σ 7 y) ++ ex := rfl
theorem hs7e {y : Int32} {τ : Sg} (h : τ = sv σ 7 y) : (HH g ad σ ++ ex).set 12 (ad 12, .inr (4, ([.ref (ad 13), .int (σ.1 5), .int (σ.1 6), .int (σ.1 7)] : List Value).set 3 (.int y))) = HH g ad τ ++ ex := h ▸ hs7
theorem ha13 {i : Nat} {y : Int32} : (HH g ad σ ++ ex).set 13 (ad 13, .inl (g.2.1, 12, .inl (upd (σ.2.1 13) i y))) = HH g ad (sa σ 13 i y) ++ ex := rfl
theorem ha13e {i : Nat} {y : Int32} {τ : Sg} (h : τ = sa σ 13 i y) : (HH g ad σ ++ ex).set 13 (ad 13, .inl (g.2.1, 12, .inl (upd (σ.2.1 13) i y))) = HH g ad τ ++ ex := h ▸ ha13
theorem ha15 {i : Nat} {y : Int32} : (HH g ad σ ++ ex).set 15 (ad 15, .inl (g.2.1, 12, .inl (upd (σ.2.1 15) i y))) = HH g ad (sa σ 15 i y) ++ ex := rfl
theorem ha15e {i : Nat} {y : Int32} {τ : Sg} (h : τ = sa σ 15 i y) : (HH g ad σ ++ ex).set 15 (ad 15, .inl (g.2.1, 12, .inl (upd (σ.2.1 15) i y))) = HH g ad τ ++ ex := h ▸ ha15
theorem ha16 {i : Nat} {y : Int32} : (HH g ad σ ++ ex).set 16 (ad 16, .inl (g.2.1, 4096, .inl (upd (σ.2.1 16) i y))) = HH g ad (sa σ 16 i y) ++ ex := rfl
theorem ha16e {i : Nat} {y : Int32} {τ : Sg} (h : τ = sa σ 16 i y) : (HH g ad σ ++ ex).set 16 (ad 16, .inl (g.2.1, 4096, .inl (upd (σ.2.1 16) i y))) = HH g ad τ ++ ex := h ▸ ha16
theorem hs8 {y : Int32} : (HH g ad σ ++ ex).set 17 (ad 17, .inr (0, ([.ref (ad 1), .ref (ad 18), .ref (ad 19), .ref (ad 20), .ref (ad 21), .int (σ.1 8), .int (σ.1 9), .int (σ.1 10), .int (σ.1 11), .int (σ.1 12), .int (σ.1 13), .int (σ.1 14), .int (σ.1 15), .int (σ.1 16), .int (σ.1 17)] : List Value).set 5 (.int y))) = HH g ad (sv σ 8 y) ++ ex := rfl
theorem hs8e {y : Int32} {τ : Sg} (h : τ = sv σ 8 y) : (HH g ad σ ++ ex).set 17 (ad 17, .inr (0, ([.ref (ad 1), .ref (ad 18), .ref (ad 19), .ref (ad 20), .ref (ad 21), .int (σ.1 8), .int (σ.1 9), .int (σ.1 10), .int (σ.1 11), .int (σ.1 12), .int (σ.1 13), .int (σ.1 14), .int (σ.1 15), .int (σ.1 16), .int (σ.1 17)] : List Value).set 5 (.int y))) = HH g ad τ ++ ex := h ▸ hs8
theorem hs9 {y : Int32} : (HH g ad σ ++ ex).set 17 (ad 17, .inr (0, ([.ref (ad 1), .ref (ad 18), .ref (ad 19), .ref (ad 20), .ref (ad 21), .int (σ.1 8), .int (σ.1 9), .int (σ.1 10), .int (σ.1 11), .int (σ.1 12), .int (σ.1 13), .int (σ.1 14), .int (σ.1 15), .int (σ.1 16), .int (σ.1 17)] : List Value).set 6 (.int y))) = HH g ad (sv σ 9 y) ++ ex := rfl
theorem hs9e {y : Int32} {τ : Sg} (h : τ = sv σ 9 y) : (HH g ad σ ++ ex).set 17 (ad 17, .inr (0, ([.ref (ad 1), .ref (ad 18), .ref (ad 19), .ref (ad 20), .ref (ad 21), .int (σ.1 8), .int (σ.1 9), .int (σ.1 10), .int (σ.1 11), .int (σ.1 12), .int (σ.1 13), .int (σ.1 14), .int (σ.1 15), .int (σ.1 16), .int (σ.1 17)] : List Value).set 6 (.int y))) = HH g ad τ ++ ex := h ▸ hs9
theorem hs10 {y : Int32} : (HH g ad σ ++ ex).set 17 (ad 17, .inr (0, ([.ref (ad 1), .ref (ad 18), .ref (ad 19), .ref (ad 20), .ref (ad 21), .int (σ.1 8), .int (σ.1 9), .int (σ.1 10), .int (σ.1 11), .int (σ.1 12), .int (σ.1 13), .int (σ.1 14), .int (σ.1 15), .int (σ.1 16), .int (σ.1 17)] : List Value).set 7 (.int y))) = HH g ad (sv σ 10 y) ++ ex := rfl
theorem hs10e {y : Int32} {τ : Sg} (h : τ = sv σ 10 y) : (HH g ad σ ++ ex).set 17 (ad 17, .inr (0, ([.ref (ad 1), .ref (ad 18), .ref (ad 19), .ref (ad 20), .ref (ad 21), .int (σ.1 8), .int (σ.1 9), .int (σ.1 10), .int (σ.1 11), .int (σ.1 12), .int (σ.1 13), .int (σ.1 14), .int (σ.1 15), .int (σ.1 16), .int (σ.1 17)] : List Value).set 7 (.int y))) = HH g ad τ ++ ex := h ▸ hs10
theorem hs11 {y : Int32} : (HH g ad σ ++ ex).set 17 (ad 17, .inr (0, ([.ref (ad 1), .ref (ad 18), .ref (ad 19), .ref (ad 20), .ref (ad 21), .int (σ.1 8), .int (σ.1 9), .int (σ.1 10), .int (σ.1 11), .int (σ.1 12), .int (σ.1 13), .int (σ.1 14), .int (σ.1 15), .int (σ.1 16), .int (σ.1 17)] : List Value).set 8 (.int y))) = HH g ad (sv σ 11 y) ++ ex := rfl
theorem hs11e {y : Int32} {τ : Sg} (h : τ = sv σ 11 y) : (HH g ad σ ++ ex).set 17 (ad 17, .inr (0, ([.ref (ad 1), .ref (ad 18), .ref (ad 19), .ref (ad 20), .ref (ad 21), .int (σ.1 8), .int (σ.1 9), .int (σ.1 10), .int (σ.1 11), .int (σ.1 12), .int (σ.1 13), .int (σ.1 14), .int (σ.1 15), .int (σ.1 16), .int (σ.1 17)] : List Value).set 8 (.int y))) = HH g ad τ ++ ex := h ▸ hs11
theorem hs12 {y : Int32} : (HH g ad σ ++ ex).set 17 (ad 17, .inr (0, ([.ref (ad 1), .ref (ad 18), .ref (ad 19), .ref (ad 20), .ref (ad 21), .int (σ.1 8), .int (σ.1 9), .int (σ.1 10), .int (σ.1 11), .int (σ.1 12), .int (σ.1 13), .int (σ.1 14), .int (σ.1 15), .int (σ.1 16), .int (σ.1 17)] : List Value).set 9 (.int y))) = HH g ad (sv σ 12 y) ++ ex := rfl
theorem hs12e {y : Int32} {τ : Sg} (h : τ = sv σ 12 y) : (HH g ad σ ++ ex).set 17 (ad 17, .inr (0, ([.ref (ad 1), .ref (ad 18), .ref (ad 19), .ref (ad 20), .ref (ad 21), .int (σ.1 8), .int (σ.1 9), .int (σ.1 10), .int (σ.1 11), .int (σ.1 12), .int (σ.1 13), .int (σ.1 14), .int (σ.1 15), .int (σ.1 16), .int (σ.1 17)] : List Value).set 9 (.int y))) = HH g ad τ ++ ex := h ▸ hs12
theorem hs13 {y : Int32} : (HH g ad σ ++ ex).set 17 (ad 17, .inr (0, ([.ref (ad 1), .ref (ad 18), .ref (ad 19), .ref (ad 20), .ref (ad 21), .int (σ.1 8), .int (σ.1 9), .int (σ.1 10), .int (σ.1 11), .int (σ.1 12), .int (σ.1 13), .int (σ.1 14), .int (σ.1 15), .int (σ.1 16), .int (σ.1 17)] : List Value).set 10 (.int y))) = HH g ad (sv σ 13 y) ++ ex := rfl
theorem hs13e {y : Int32} {τ : Sg} (h : τ = sv σ 13 y) : (HH g ad σ ++ ex).set 17 (ad 17, .inr (0, ([.ref (ad 1), .ref (ad 18), .ref (ad 19), .ref (ad 20), .ref (ad 21), .int (σ.1 8), .int (σ.1 9), .int (σ.1 10), .int (σ.1 11), .int (σ.1 12), .int (σ.1 13), .int (σ.1 14), .int (σ.1 15), .int (σ.1 16), .int (σ.1 17)] : List Value).set 10 (.int y))) = HH g ad τ ++ ex := h ▸ hs13
theorem hs14 {y : Int32} : (HH g ad σ ++ ex).set 17 (ad 17, .inr (0, ([.ref (ad 1), .ref (ad 18), .ref (ad 19), .ref (ad 20), .ref (ad 21), .int (σ.1 8), .int (σ.1 9), .int (σ.1 10), .int (σ.1 11), .int (σ.1 12), .int (σ.1 13), .int (σ.1 14), .int (σ.1 15), .int (σ.1 16), .int (σ.1 17)] : List Value).set 11 (.int y))) = HH g ad (sv σ 14 y) ++ ex := rfl
theorem hs14e {y : Int32} {τ : Sg} (h : τ = sv σ 14 y) : (HH g ad σ ++ ex).set 17 (ad 17, .inr (0, ([.ref (ad 1), .ref (ad 18), .ref (ad 19), .ref (ad 20), .ref (ad 21), .int (σ.1 8), .int (σ.1 9), .int (σ.1 10), .int (σ.1 11), .int (σ.1 12), .int (σ.1 13), .int (σ.1 14), .int (σ.1 15), .int (σ.1 16), .int (σ.1 17)] : List Value).set 11 (.int y))) = HH g ad τ ++ ex := h ▸ hs14
theorem hs15 {y : Int32} : (HH g ad σ ++ ex).set 17 (ad 17, .inr (0, ([.ref (ad 1), .ref (ad 18), .ref (ad 19), .ref (ad 20), .ref (ad 21), .int (σ.1 8), .int (σ.1 9), .int (σ.1 10), .int (σ.1 11), .int (σ.1 12), .int (σ.1 13), .int (σ.1 14), .int (σ.1 15), .int (σ.1 16), .int (σ.1 17)] : List Value).set 12 (.int y))) = HH g ad (sv σ 15 y) ++ ex := rfl
theorem hs15e {y : Int32} {τ : Sg} (h : τ = sv σ 15 y) : (HH g ad σ ++ ex).set 17 (ad 17, .inr (0, ([.ref (ad 1), .ref (ad 18), .ref (ad 19), .ref (ad 20), .ref (ad 21), .int (σ.1 8), .int (σ.1 9), .int (σ.1 10), .int (σ.1 11), .int (σ.1 12), .int (σ.1 13), .int (σ.1 14), .int (σ.1 15), .int (σ.1 16), .int (σ.1 17)] : List Value).set 12 (.int y))) = HH g ad τ ++ ex := h ▸ hs15
theorem hs16 {y : Int32} : (HH g ad σ ++ ex).set 17 (ad 17, .inr (0, ([.ref (ad 1), .ref (ad 18), .ref (ad 19), .ref (ad 20), .ref (ad 21), .int (σ.1 8), .int (σ.1 9), .int (σ.1 10), .int (σ.1 11), .int (σ.1 12), .int (σ.1 13), .int (σ.1 14), .int (σ.1 15), .int (σ.1 16), .int (σ.1 17)] : List Value).set 13 (.int y))) = HH g ad (sv σ 16 y) ++ ex := rfl
theorem hs16e {y : Int32} {τ : Sg} (h : τ = sv σ 16 y) : (HH g ad σ ++ ex).set 17 (ad 17, .inr (0, ([.ref (ad 1), .ref (ad 18), .ref (ad 19), .ref (ad 20), .ref (ad 21), .int (σ.1 8), .int (σ.1 9), .int (σ.1 10), .int (σ.1 11), .int (σ.1 12), .int (σ.1 13), .int (σ.1 14), .int (σ.1 15), .int (σ.1 16), .int (σ.1 17)] : List Value).set 13 (.int y))) = HH g ad τ ++ ex := h ▸ hs16
theorem hs17 {y : Int32} : (HH g ad σ ++ ex).set 17 (ad 17, .inr (0, ([.ref (ad 1), .ref (ad 18), .ref (ad 19), .ref (ad 20), .ref (ad 21), .int (σ.1 8), .int (σ.1 9), .int (σ.1 10), .int (σ.1 11), .int (σ.1 12), .int (σ.1 13), .int (σ.1 14), .int (σ.1 15), .int (σ.1 16), .int (σ.1 17)] : List Value).set 14 (.int y))) = HH g ad (sv σ 17 y) ++ ex := rfl
theorem hs17e {y : Int32} {τ : Sg} (h : τ = sv σ 17 y) : (HH g ad σ ++ ex).set 17 (ad 17, .inr (0, ([.ref (ad 1), .ref (ad 18), .ref (ad 19), .ref (ad 20), .ref (ad 21), .int (σ.1 8), .int (σ.1 9), .int (σ.1 10), .int (σ.1 11), .int (σ.1 12), .int (σ.1 13), .int (σ.1 14), .int (σ.1 15), .int (σ.1 16), .int (σ.1 17)] : List Value).set 14 (.int y))) = HH g ad τ ++ ex := h ▸ hs17
theorem ha18 {i : Nat} {y : Int32} : (HH g ad σ ++ ex).set 18 (ad 18, .inl (g.2.1, 2048, .inl (upd (σ.2.1 18) i y))) = HH g ad (sa σ 18 i y) ++ ex := rfl
theorem ha18e {i : Nat} {y : Int32} {τ : Sg} (h : τ = sa σ 18 i y) : (HH g ad σ ++ ex).set 18 (ad 18, .inl (g.2.1, 2048, .inl (upd (σ.2.1 18) i y))) = HH g ad τ ++ ex := h ▸ ha18
theorem ha19 {i : Nat} {y : Int32} : (HH g ad σ ++ ex).set 19 (ad 19, .inl (g.2.1, 1604, .inl (upd (σ.2.1 19) i y))) = HH g ad (sa σ 19 i y) ++ ex := rfl
theorem ha19e {i : Nat} {y : Int32} {τ : Sg} (h : τ = sa σ 19 i y) : (HH g ad σ ++ ex).set 19 (ad 19, .inl (g.2.1, 1604, .inl (upd (σ.2.1 19) i y))) = HH g ad τ ++ ex := h ▸ ha19
theorem ha20 {i : Nat} {y : Int32} : (HH g ad σ ++ ex).set 20 (ad 20, .inl (g.2.1, 1604, .inl (upd (σ.2.1 20) i y))) = HH g ad (sa σ 20 i y) ++ ex := rfl
theorem ha20e {i : Nat} {y : Int32} {τ : Sg} (h : τ = sa σ 20 i y) : (HH g ad σ ++ ex).set 20 (ad 20, .inl (g.2.1, 1604, .inl (upd (σ.2.1 20) i y))) = HH g ad τ ++ ex := h ▸ ha20
theorem ha21 {i : Nat} {y : Int32} : (HH g ad σ ++ ex).set 21 (ad 21, .inl (g.2.1, 1604, .inl (upd (σ.2.1 21) i y))) = HH g ad (sa σ 21 i y) ++ ex := rfl
theorem ha21e {i : Nat} {y : Int32} {τ : Sg} (h : τ = sa σ 21 i y) : (HH g ad σ ++ ex).set 21 (ad 21, .inl (g.2.1, 1604, .inl (upd (σ.2.1 21) i y))) = HH g ad τ ++ ex := h ▸ ha21
theorem hs18 {y : Int32} : (HH g ad σ ++ ex).set 22 (ad 22, .inr (4, ([.ref (ad 23), .int (σ.1 18), .int (σ.1 19), .int (σ.1 20)] : List Value).set 1 (.int y))) = HH g ad (sv σ 18 y) ++ ex := rfl
theorem hs18e {y : Int32} {τ : Sg} (h : τ = sv σ 18 y) : (HH g ad σ ++ ex).set 22 (ad 22, .inr (4, ([.ref (ad 23), .int (σ.1 18), .int (σ.1 19), .int (σ.1 20)] : List Value).set 1 (.int y))) = HH g ad τ ++ ex := h ▸ hs18
theorem hs19 {y : Int32} : (HH g ad σ ++ ex).set 22 (ad 22, .inr (4, ([.ref (ad 23), .int (σ.1 18), .int (σ.1 19), .int (σ.1 20)] : List Value).set 2 (.int y))) = HH g ad (sv σ 19 y) ++ ex := rfl
theorem hs19e {y : Int32} {τ : Sg} (h : τ = sv σ 19 y) : (HH g ad σ ++ ex).set 22 (ad 22, .inr (4, ([.ref (ad 23), .int (σ.1 18), .int (σ.1 19), .int (σ.1 20)] : List Value).set 2 (.int y))) = HH g ad τ ++ ex := h ▸ hs19
theorem hs20 {y : Int32} : (HH g ad σ ++ ex).set 22 (ad 22, .inr (4, ([.ref (ad 23), .int (σ.1 18), .int (σ.1 19), .int (σ.1 20)] : List Value).set 3 (.int y))) = HH g ad (sv σ 20 y) ++ ex := rfl
theorem hs20e {y : Int32} {τ : Sg} (h : τ = sv σ 20 y) : (HH g ad σ ++ ex).set 22 (ad 22, .inr (4, ([.ref (ad 23), .int (σ.1 18), .int (σ.1 19), .int (σ.1 20)] : List Value).set 3 (.int y))) = HH g ad τ ++ ex := h ▸ hs20
theorem ha23 {i : Nat} {y : Int32} : (HH g ad σ ++ ex).set 23 (ad 23, .inl (g.2.1, 12, .inl (upd (σ.2.1 23) i y))) = HH g ad (sa σ 23 i y) ++ ex := rfl
theorem ha23e {i : Nat} {y : Int32} {τ : Sg} (h : τ = sa σ 23 i y) : (HH g ad σ ++ ex).set 23 (ad 23, .inl (g.2.1, 12, .inl (upd (σ.2.1 23) i y))) = HH g ad τ ++ ex := h ▸ ha23
theorem hs21 {y : Int32} : (HH g ad σ ++ ex).set 24 (ad 24, .inr (7, ([.int (σ.1 21), .int (σ.1 22), .ref (ad 25), .ref (ad 26), .ref (ad 27), .ref (ad 28), .ref (ad 29), .int (σ.1 23), .int (σ.1 24), .int (σ.1 25), .ref (ad 30), .ref (ad 31), .ref (ad 32), .ref (ad 33), .ref (ad 34), .ref (ad 35), .ref (ad 36), .ref (ad 37), .ref (ad 38), .ref (ad 39), .int (σ.1 26), .int (σ.1 27), .int (σ.1 28), .ref (ad 40), .ref (ad 41)] : List Value).set 0 (.int y))) = HH g ad (sv σ 21 y) ++ ex := rfl
theorem hs21e {y : Int32} {τ : Sg} (h : τ = sv σ 21 y) : (HH g ad σ ++ ex).set 24 (ad 24, .inr (7, ([.int (σ.1 21), .int (σ.1 22), .ref (ad 25), .ref (ad 26), .ref (ad 27), .ref (ad 28), .ref (ad 29), .int (σ.1 23), .int (σ.1 24), .int (σ.1 25), .ref (ad 30), .ref (ad 31), .ref (ad 32), .ref (ad 33), .ref (ad 34), .ref (ad 35), .ref (ad 36), .ref (ad 37), .ref (ad 38), .ref (ad 39), .int (σ.1 26), .int (σ.1 27), .int (σ.1 28), .ref (ad 40), .ref (ad 41)] : List Value).set 0 (.int y))) = HH g ad τ ++ ex := h ▸ hs21
theorem hs22 {y : Int32} : (HH g ad σ ++ ex).set 24 (ad 24, .inr (7, ([.int (σ.1 21), .int (σ.1 22), .ref (ad 25), .ref (ad 26), .ref (ad 27), .ref (ad 28), .ref (ad 29), .int (σ.1 23), .int (σ.1 24), .int (σ.1 25), .ref (ad 30), .ref (ad 31), .ref (ad 32), .ref (ad 33), .ref (ad 34), .ref (ad 35), .ref (ad 36), .ref (ad 37), .ref (ad 38), .ref (ad 39), .int (σ.1 26), .int (σ.1 27), .int (σ.1 28), .ref (ad 40), .ref (ad 41)] : List Value).set 1 (.int y))) = HH g ad (sv σ 22 y) ++ ex := rfl
theorem hs22e {y : Int32} {τ : Sg} (h : τ = sv σ 22 y) : (HH g ad σ ++ ex).set 24 (ad 24, .inr (7, ([.int (σ.1 21), .int (σ.1 22), .ref (ad 25), .ref (ad 26), .ref (ad 27), .ref (ad 28), .ref (ad 29), .int (σ.1 23), .int (σ.1 24), .int (σ.1 25), .ref (ad 30), .ref (ad 31), .ref (ad 32), .ref (ad 33), .ref (ad 34), .ref (ad 35), .ref (ad 36), .ref (ad 37), .ref (ad 38), .ref (ad 39), .int (σ.1 26), .int (σ.1 27), .int (σ.1 28), .ref (ad 40), .ref (ad 41)] : List Value).set 1 (.int y))) = HH g ad τ ++ ex := h ▸ hs22
theorem hs23 {y : Int32} : (HH g ad σ ++ ex).set 24 (ad 24, .inr (7, ([.int (σ.1 21), .int (σ.1 22), .ref (ad 25), .ref (ad 26), .ref (ad 27), .ref (ad 28), .ref (ad 29), .int (σ.1 23), .int (σ.1 24), .int (σ.1 25), .ref (ad 30), .ref (ad 31), .ref (ad 32), .ref (ad 33), .ref (ad 34), .ref (ad 35), .ref (ad 36), .ref (ad 37), .ref (ad 38), .ref (ad 39), .int (σ.1 26), .int (σ.1 27), .int (σ.1 28), .ref (ad 40), .ref (ad 41)] : List Value).set 7 (.int y))) = HH g ad (sv σ 23 y) ++ ex := rfl
theorem hs23e {y : Int32} {τ : Sg} (h : τ = sv σ 23 y) : (HH g ad σ ++ ex).set 24 (ad 24, .inr (7, ([.int (σ.1 21), .int (σ.1 22), .ref (ad 25), .ref (ad 26), .ref (ad 27), .ref (ad 28), .ref (ad 29), .int (σ.1 23), .int (σ.1 24), .int (σ.1 25), .ref (ad 30), .ref (ad 31), .ref (ad 32), .ref (ad 33), .ref (ad 34), .ref (ad 35), .ref (ad 36), .ref (ad 37), .ref (ad 38), .ref (ad 39), .int (σ.1 26), .int (σ.1 27), .int (σ.1 28), .ref (ad 40), .ref (ad 41)] : List Value).set 7 (.int y))) = HH g ad τ ++ ex := h ▸ hs23
theorem hs24 {y : Int32} : (HH g ad σ ++ ex).set 24 (ad 24, .inr (7, ([.int (σ.1 21), .int (σ.1 22), .ref (ad 25), .ref (ad 26), .ref (ad 27), .ref (ad 28), .ref (ad 29), .int (σ.1 23), .int (σ.1 24), .int (σ.1 25), .ref (ad 30), .ref (ad 31), .ref (ad 32), .ref (ad 33), .ref (ad 34), .ref (ad 35), .ref (ad 36), .ref (ad 37), .ref (ad 38), .ref (ad 39), .int (σ.1 26), .int (σ.1 27), .int (σ.1 28), .ref (ad 40), .ref (ad 41)] : List Value).set 8 (.int y))) = HH g ad (sv σ 24 y) ++ ex := rfl
theorem hs24e {y : Int32} {τ : Sg} (h : τ = sv σ 24 y) : (HH g ad σ ++ ex).set 24 (ad 24, .inr (7, ([.int (σ.1 21), .int (σ.1 22), .ref (ad 25), .ref (ad 26), .ref (ad 27), .ref (ad 28), .ref (ad 29), .int (σ.1 23), .int (σ.1 24), .int (σ.1 25), .ref (ad 30), .ref (ad 31), .ref (ad 32), .ref (ad 33), .ref (ad 34), .ref (ad 35), .ref (ad 36), .ref (ad 37), .ref (ad 38), .ref (ad 39), .int (σ.1 26), .int (σ.1 27), .int (σ.1 28), .ref (ad 40), .ref (ad 41)] : List Value).set 8 (.int y))) = HH g ad τ ++ ex := h ▸ hs24
theorem hs25 {y : Int32} : (HH g ad σ ++ ex).set 24 (ad 24, .inr (7, ([.int (σ.1 21), .int (σ.1 22), .ref (ad 25), .ref (ad 26), .ref (ad 27), .ref (ad 28), .ref (ad 29), .int (σ.1 23), .int (σ.1 24), .int (σ.1 25), .ref (ad 30), .ref (ad 31), .ref (ad 32), .ref (ad 33), .ref (ad 34), .ref (ad 35), .ref (ad 36), .ref (ad 37), .ref (ad 38), .ref (ad 39), .int (σ.1 26), .int (σ.1 27), .int (σ.1 28), .ref (ad 40), .ref (ad 41)] : List Value).set 9 (.int y))) = HH g ad (sv σ 25 y) ++ ex := rfl
theorem hs25e {y : Int32} {τ : Sg} (h : τ = sv σ 25 y) : (HH g ad σ ++ ex).set 24 (ad 24, .inr (7, ([.int (σ.1 21), .int (σ.1 22), .ref (ad 25), .ref (ad 26), .ref (ad 27), .ref (ad 28), .ref (ad 29), .int (σ.1 23), .int (σ.1 24), .int (σ.1 25), .ref (ad 30), .ref (ad 31), .ref (ad 32), .ref (ad 33), .ref (ad 34), .ref (ad 35), .ref (ad 36), .ref (ad 37), .ref (ad 38), .ref (ad 39), .int (σ.1 26), .int (σ.1 27), .int (σ.1 28), .ref (ad 40), .ref (ad 41)] : List Value).set 9 (.int y))) = HH g ad τ ++ ex := h ▸ hs25
theorem hs26 {y : Int32} : (HH g ad σ ++ ex).set 24 (ad 24, .inr (7, ([.int (σ.1 21), .int (σ.1 22), .ref (ad 25), .ref (ad 26), .ref (ad 27), .ref (ad 28), .ref (ad 29), .int (σ.1 23), .int (σ.1 24), .int (σ.1 25), .ref (ad 30), .ref (ad 31), .ref (ad 32), .ref (ad 33), .ref (ad 34), .ref (ad 35), .ref (ad 36), .ref (ad 37), .ref (ad 38), .ref (ad 39), .int (σ.1 26), .int (σ.1 27), .int (σ.1 28), .ref (ad 40), .ref (ad 41)] : List Value).set 20 (.int y))) = HH g ad (sv σ 26 y) ++ ex := rfl
theorem hs26e {y : Int32} {τ : Sg} (h : τ = sv σ 26 y) : (HH g ad σ ++ ex).set 24 (ad 24, .inr (7, ([.int (σ.1 21), .int (σ.1 22), .ref (ad 25), .ref (ad 26), .ref (ad 27), .ref (ad 28), .ref (ad 29), .int (σ.1 23), .int (σ.1 24), .int (σ.1 25), .ref (ad 30), .ref (ad 31), .ref (ad 32), .ref (ad 33), .ref (ad 34), .ref (ad 35), .ref (ad 36), .ref (ad 37), .ref (ad 38), .ref (ad 39), .int (σ.1 26), .int (σ.1 27), .int (σ.1 28), .ref (ad 40), .ref (ad 41)] : List Value).set 20 (.int y))) = HH g ad τ ++ ex := h ▸ hs26
theorem hs27 {y : Int32} : (HH g ad σ ++ ex).set 24 (ad 24, .inr (7, ([.int (σ.1 21), .int (σ.1 22), .ref (ad 25), .ref (ad 26), .ref (ad 27), .ref (ad 28), .ref (ad 29), .int (σ.1 23), .int (σ.1 24), .int (σ.1 25), .ref (ad 30), .ref (ad 31), .ref (ad 32), .ref (ad 33), .ref (ad 34), .ref (ad 35), .ref (ad 36), .ref (ad 37), .ref (ad 38), .ref (ad 39), .int (σ.1 26), .int (σ.1 27), .int (σ.1 28), .ref (ad 40), .ref (ad 41)] : List Value).set 21 (.int y))) = HH g ad (sv σ 27 y) ++ ex := rfl
theorem hs27e {y : Int32} {τ : Sg} (h : τ = sv σ 27 y) : (HH g ad σ ++ ex).set 24 (ad 24, .inr (7, ([.int (σ.1 21), .int (σ.1 22), .ref (ad 25), .ref (ad 26), .ref (ad 27), .ref (ad 28), .ref (ad 29), .int (σ.1 23), .int (σ.1 24), .int (σ.1 25), .ref (ad 30), .ref (ad 31), .ref (ad 32), .ref (ad 33), .ref (ad 34), .ref (ad 35), .ref (ad 36), .ref (ad 37), .ref (ad 38), .ref (ad 39), .int (σ.1 26), .int (σ.1 27), .int (σ.1 28), .ref (ad 40), .ref (ad 41)] : List Value).set 21 (.int y))) = HH g ad τ ++ ex := h ▸ hs27
theorem hs28 {y : Int32} : (HH g ad σ ++ ex).set 24 (ad 24, .inr (7, ([.int (σ.1 21), .int (σ.1 22), .ref (ad 25), .ref (ad 26), .ref (ad 27), .ref (ad 28), .ref (ad 29), .int (σ.1 23), .int (σ.1 24), .int (σ.1 25), .ref (ad 30), .ref (ad 31), .ref (ad 32), .ref (ad 33), .ref (ad 34), .ref (ad 35), .ref (ad 36), .ref (ad 37), .ref (ad 38), .ref (ad 39), .int (σ.1 26), .int (σ.1 27), .int (σ.1 28), .ref (ad 40), .ref (ad 41)] : List Value).set 22 (.int y))) = HH g ad (sv σ 28 y) ++ ex := rfl
theorem hs28e {y : Int32} {τ : Sg} (h : τ = sv σ 28 y) : (HH g ad σ ++ ex).set 24 (ad 24, .inr (7, ([.int (σ.1 21), .int (σ.1 22), .ref (ad 25), .ref (ad 26), .ref (ad 27), .ref (ad 28), .ref (ad 29), .int (σ.1 23), .int (σ.1 24), .int (σ.1 25), .ref (ad 30), .ref (ad 31), .ref (ad 32), .ref (ad 33), .ref (ad 34), .ref (ad 35), .ref (ad 36), .ref (ad 37), .ref (ad 38), .ref (ad 39), .int (σ.1 26), .int (σ.1 27), .int (σ.1 28), .ref (ad 40), .ref (ad 41)] : List Value).set 22 (.int y))) = HH g ad τ ++ ex := h ▸ hs28
theorem ha25 {i : Nat} {y : Int32} : (HH g ad σ ++ ex).set 25 (ad 25, .inl (g.2.1, 18, .inl (upd (σ.2.1 25) i y))) = HH g ad (sa σ 25 i y) ++ ex := rfl
theorem ha25e {i : Nat} {y : Int32} {τ : Sg} (h : τ = sa σ 25 i y) : (HH g ad σ ++ ex).set 25 (ad 25, .inl (g.2.1, 18, .inl (upd (σ.2.1 25) i y))) = HH g ad τ ++ ex := h ▸ ha25
theorem ha26 {i : Nat} {y : Int32} : (HH g ad σ ++ ex).set 26 (ad 26, .inl (g.2.1, 18, .inl (upd (σ.2.1 26) i y))) = HH g ad (sa σ 26 i y) ++ ex := rfl
theorem ha26e {i : Nat} {y : Int32} {τ : Sg} (h : τ = sa σ 26 i y) : (HH g ad σ ++ ex).set 26 (ad 26, .inl (g.2.1, 18, .inl (upd (σ.2.1 26) i y))) = HH g ad τ ++ ex := h ▸ ha26
theorem ha27 {i : Nat} {y : Int32} : (HH g ad σ ++ ex).set 27 (ad 27, .inl (g.2.2, 18, .inl (upd (σ.2.1 27) i y))) = HH g ad (sa σ 27 i y) ++ ex := rfl
theorem ha27e {i : Nat} {y : Int32} {τ : Sg} (h : τ = sa σ 27 i y) : (HH g ad σ ++ ex).set 27 (ad 27, .inl (g.2.2, 18, .inl (upd (σ.2.1 27) i y))) = HH g ad τ ++ ex := h ▸ ha27
theorem ha28 {i : Nat} {y : Int32} : (HH g ad σ ++ ex).set 28 (ad 28, .inl (g.2.1, 12, .inl (upd (σ.2.1 28) i y))) = HH g ad (sa σ 28 i y) ++ ex := rfl
theorem ha28e {i : Nat} {y : Int32} {τ : Sg} (h : τ = sa σ 28 i y) : (HH g ad σ ++ ex).set 28 (ad 28, .inl (g.2.1, 12, .inl (upd (σ.2.1 28) i y))) = HH g ad τ ++ ex := h ▸ ha28
theorem ha29 {i : Nat} {y : Int32} : (HH g ad σ ++ ex).set 29 (ad 29, .inl (g.2.1, 12, .inl (upd (σ.2.1 29) i y))) = HH g ad (sa σ 29 i y) ++ ex := rfl
theorem ha29e {i : Nat} {y : Int32} {τ : Sg} (h : τ = sa σ 29 i y) : (HH g ad σ ++ ex).set 29 (ad 29, .inl (g.2.1, 12, .inl (upd (σ.2.1 29) i y))) = HH g ad τ ++ ex := h ▸ ha29
theorem ha30 {i : Nat} {y : Int32} : (HH g ad σ ++ ex).set 30 (ad 30, .inl (g.2.1, 201, .inl (upd (σ.2.1 30) i y))) = HH g ad (sa σ 30 i y) ++ ex := rfl
theorem ha30e {i : Nat} {y : Int32} {τ : Sg} (h : τ = sa σ 30 i y) : (HH g ad σ ++ ex).set 30 (ad 30, .inl (g.2.1, 201, .inl (upd (σ.2.1 30) i y))) = HH g ad τ ++ ex := h ▸ ha30
theorem ha31 {i : Nat} {y : Int32} : (HH g ad σ ++ ex).set 31 (ad 31, .inl (g.2.1, 201, .inl (upd (σ.2.1 31) i y))) = HH g ad (sa σ 31 i y) ++ ex := rfl
theorem ha31e {i : Nat} {y : Int32} {τ : Sg} (h : τ = sa σ 31 i y) : (HH g ad σ ++ ex).set 31 (ad 31, .inl (g.2.1, 201, .inl (upd (σ.2.1 31) i y))) = HH g ad τ ++ ex := h ▸ ha31
theorem ha32 {i : Nat} {y : Int32} : (HH g ad σ ++ ex).set 32 (ad 32, .inl (g.2.1, 201, .inl (upd (σ.2.1 32) i y))) = HH g ad (sa σ 32 i y) ++ ex := rfl
theorem ha32e {i : Nat} {y : Int32} {τ : Sg} (h : τ = sa σ 32 i y) : (HH g ad σ ++ ex).set 32 (ad 32, .inl (g.2.1, 201, .inl (upd (σ.2.1 32) i y))) = HH g ad τ ++ ex := h ▸ ha32
theorem ha33 {i : Nat} {y : Int32} : (HH g ad σ ++ ex).set 33 (ad 33, .inl (g.2.1, 2412, .inl (upd (σ.2.1 33) i y))) = HH g ad (sa σ 33 i y) ++ ex := rfl
theorem ha33e {i : Nat} {y : Int32} {τ : Sg} (h : τ = sa σ 33 i y) : (HH g ad σ ++ ex).set 33 (ad 33, .inl (g.2.1, 2412, .inl (upd (σ.2.1 33) i y))) = HH g ad τ ++ ex := h ▸ ha33
theorem ha34 {i : Nat} {y : Int32} : (HH g ad σ ++ ex).set 34 (ad 34, .inl (g.2.1, 201, .inl (upd (σ.2.1 34) i y))) = HH g ad (sa σ 34 i y) ++ ex := rfl
theorem ha34e {i : Nat} {y : Int32} {τ : Sg} (h : τ = sa σ 34 i y) : (HH g ad σ ++ ex).set 34 (ad 34, .inl (g.2.1, 201, .inl (upd (σ.2.1 34) i y))) = HH g ad τ ++ ex := h ▸ ha34
theorem ha35 {i : Nat} {y : Int32} : (HH g ad σ ++ ex).set 35 (ad 35, .inl (g.2.1, 201, .inl (upd (σ.2.1 35) i y))) = HH g ad (sa σ 35 i y) ++ ex := rfl
theorem ha35e {i : Nat} {y : Int32} {τ : Sg} (h : τ = sa σ 35 i y) : (HH g ad σ ++ ex).set 35 (ad 35, .inl (g.2.1, 201, .inl (upd (σ.2.1 35) i y))) = HH g ad τ ++ ex := h ▸ ha35
theorem ha36 {i : Nat} {y : Int32} : (HH g ad σ ++ ex).set 36 (ad 36, .inl (g.2.1, 524288, .inl (upd (σ.2.1 36) i y))) = HH g ad (sa σ 36 i y) ++ ex := rfl
theorem ha36e {i : Nat} {y : Int32} {τ : Sg} (h : τ = sa σ 36 i y) : (HH g ad σ ++ ex).set 36 (ad 36, .inl (g.2.1, 524288, .inl (upd (σ.2.1 36) i y))) = HH g ad τ ++ ex := h ▸ ha36
theorem ha37 {i : Nat} {y : Int32} : (HH g ad σ ++ ex).set 37 (ad 37, .inl (g.2.1, 262144, .inl (upd (σ.2.1 37) i y))) = HH g ad (sa σ 37 i y) ++ ex := rfl
theorem ha37e {i : Nat} {y : Int32} {τ : Sg} (h : τ = sa σ 37 i y) : (HH g ad σ ++ ex).set 37 (ad 37, .inl (g.2.1, 262144, .inl (upd (σ.2.1 37) i y))) = HH g ad τ ++ ex := h ▸ ha37
theorem ha38 {i : Nat} {y : Int32} : (HH g ad σ ++ ex).set 38 (ad 38, .inl (g.2.1, 262144, .inl (upd (σ.2.1 38) i y))) = HH g ad (sa σ 38 i y) ++ ex := rfl
theorem ha38e {i : Nat} {y : Int32} {τ : Sg} (h : τ = sa σ 38 i y) : (HH g ad σ ++ ex).set 38 (ad 38, .inl (g.2.1, 262144, .inl (upd (σ.2.1 38) i y))) = HH g ad τ ++ ex := h ▸ ha38
theorem ha39 {i : Nat} {y : Int32} : (HH g ad σ ++ ex).set 39 (ad 39, .inl (g.2.1, 262144, .inl (upd (σ.2.1 39) i y))) = HH g ad (sa σ 39 i y) ++ ex := rfl
theorem ha39e {i : Nat} {y : Int32} {τ : Sg} (h : τ = sa σ 39 i y) : (HH g ad σ ++ ex).set 39 (ad 39, .inl (g.2.1, 262144, .inl (upd (σ.2.1 39) i y))) = HH g ad τ ++ ex := h ▸ ha39
theorem ha40 {i : Nat} {y : Int32} : (HH g ad σ ++ ex).set 40 (ad 40, .inl (g.2.1, 600, .inl (upd (σ.2.1 40) i y))) = HH g ad (sa σ 40 i y) ++ ex := rfl
theorem ha40e {i : Nat} {y : Int32} {τ : Sg} (h : τ = sa σ 40 i y) : (HH g ad σ ++ ex).set 40 (ad 40, .inl (g.2.1, 600, .inl (upd (σ.2.1 40) i y))) = HH g ad τ ++ ex := h ▸ ha40
theorem ha41 {i : Nat} {y : Int32} : (HH g ad σ ++ ex).set 41 (ad 41, .inl (g.2.1, 4096, .inl (upd (σ.2.1 41) i y))) = HH g ad (sa σ 41 i y) ++ ex := rfl
theorem ha41e {i : Nat} {y : Int32} {τ : Sg} (h : τ = sa σ 41 i y) : (HH g ad σ ++ ex).set 41 (ad 41, .inl (g.2.1, 4096, .inl (upd (σ.2.1 41) i y))) = HH g ad τ ++ ex := h ▸ ha41
end HHs
/-- answers: an int, and the cells; nothing, and the cells -/
def Pi_ (r : Int32) (M : va_W) : Option Value → va_W → Prop := fun rv M' => rv = some (.int r) ∧ M' = M
def Pv_ (M : va_W) : Option Value → va_W → Prop := fun rv M' => rv = none ∧ M' = M
abbrev Rs : Type := Option (Int32 × Sg)
/-- a name for a state, for a number -/
def ls_ (a : Sg) (k : Sg → Rs) : Rs := k a
def li_ (a : Int32) (k : Int32 → Rs) : Rs := k a
theorem of_ls {a : Sg} {k : Sg → Rs} {b : Int32 × Sg} (h : ls_ a k = some b) : ∃ τ : Sg, τ = a ∧ k τ = some b := ⟨a, rfl, h⟩
theorem of_li {a : Int32} {k : Int32 → Rs} {b : Int32 × Sg} (h : li_ a k = some b) : ∃ v : Int32, v = a ∧ k v = some b := ⟨a, rfl, h⟩
theorem of_chk {c : Prop} [Decidable c] {a : Rs} {b : Int32 × Sg} (h : (if c then a else none) = some b) : c ∧ a = some b := by
  by_cases hc : c
  · exact ⟨hc, (if_pos hc).symm.trans h⟩
  · exact absurd ((if_neg hc).symm.trans h) (fun z => by cases z)
theorem of_bnd {a : Rs} {k : Int32 × Sg → Rs} {b : Int32 × Sg} (h : a.bind k = some b) : ∃ (r : Int32) (τ : Sg), a = some (r, τ) ∧ k (r, τ) = some b := by
  cases a with
  | none => cases h
  | some q => exact ⟨q.1, q.2, rfl, h⟩
