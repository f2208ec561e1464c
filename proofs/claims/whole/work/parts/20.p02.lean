/-! ===== what an object is: the data that calls tell ===== -/
def Dat : Type := (Int) × (Int → Int) × (Int) × (Int) × (Int) × (Int) × (Int) × (Int → Int) × (Int → Int → Int) × (Int → Int) × (Int → Int) × (Int → Int → Int) × (Int → Int → Int) × (Int → Int → Int) × (Int → Int) × (Int → Int) × (Int → Int → Int) × (Int → Int → Int) × (Int → Int)
def Dat.many (x0 : Dat) : Int := (Prod.fst x0)
def Dat.tx (x0 : Dat) : Int → Int := (Prod.fst (Prod.snd x0))
def Dat.cnt (x0 : Dat) : Int := (Prod.fst (Prod.snd (Prod.snd x0)))
def Dat.fac (x0 : Dat) : Int := (Prod.fst (Prod.snd (Prod.snd (Prod.snd x0))))
def Dat.tur (x0 : Dat) : Int := (Prod.fst (Prod.snd (Prod.snd (Prod.snd (Prod.snd x0)))))
def Dat.bits (x0 : Dat) : Int := (Prod.fst (Prod.snd (Prod.snd (Prod.snd (Prod.snd (Prod.snd x0))))))
def Dat.inc (x0 : Dat) : Int := (Prod.fst (Prod.snd (Prod.snd (Prod.snd (Prod.snd (Prod.snd (Prod.snd x0)))))))
def Dat.inp (x0 : Dat) : Int → Int := (Prod.fst (Prod.snd (Prod.snd (Prod.snd (Prod.snd (Prod.snd (Prod.snd (Prod.snd x0))))))))
def Dat.told (x0 : Dat) : Int → Int → Int := (Prod.fst (Prod.snd (Prod.snd (Prod.snd (Prod.snd (Prod.snd (Prod.snd (Prod.snd (Prod.snd x0)))))))))
def Dat.un (x0 : Dat) : Int → Int := (Prod.fst (Prod.snd (Prod.snd (Prod.snd (Prod.snd (Prod.snd (Prod.snd (Prod.snd (Prod.snd (Prod.snd x0))))))))))
def Dat.cy (x0 : Dat) : Int → Int := (Prod.fst (Prod.snd (Prod.snd (Prod.snd (Prod.snd (Prod.snd (Prod.snd (Prod.snd (Prod.snd (Prod.snd (Prod.snd x0)))))))))))
def Dat.F (x0 : Dat) : Int → Int → Int := (Prod.fst (Prod.snd (Prod.snd (Prod.snd (Prod.snd (Prod.snd (Prod.snd (Prod.snd (Prod.snd (Prod.snd (Prod.snd (Prod.snd x0))))))))))))
def Dat.N (x0 : Dat) : Int → Int → Int := (Prod.fst (Prod.snd (Prod.snd (Prod.snd (Prod.snd (Prod.snd (Prod.snd (Prod.snd (Prod.snd (Prod.snd (Prod.snd (Prod.snd (Prod.snd x0)))))))))))))
def Dat.T (x0 : Dat) : Int → Int → Int := (Prod.fst (Prod.snd (Prod.snd (Prod.snd (Prod.snd (Prod.snd (Prod.snd (Prod.snd (Prod.snd (Prod.snd (Prod.snd (Prod.snd (Prod.snd (Prod.snd x0))))))))))))))
def Dat.O (x0 : Dat) : Int → Int := (Prod.fst (Prod.snd (Prod.snd (Prod.snd (Prod.snd (Prod.snd (Prod.snd (Prod.snd (Prod.snd (Prod.snd (Prod.snd (Prod.snd (Prod.snd (Prod.snd (Prod.snd x0)))))))))))))))
def Dat.ac (x0 : Dat) : Int → Int := (Prod.fst (Prod.snd (Prod.snd (Prod.snd (Prod.snd (Prod.snd (Prod.snd (Prod.snd (Prod.snd (Prod.snd (Prod.snd (Prod.snd (Prod.snd (Prod.snd (Prod.snd (Prod.snd x0))))))))))))))))
def Dat.ach (x0 : Dat) : Int → Int → Int := (Prod.fst (Prod.snd (Prod.snd (Prod.snd (Prod.snd (Prod.snd (Prod.snd (Prod.snd (Prod.snd (Prod.snd (Prod.snd (Prod.snd (Prod.snd (Prod.snd (Prod.snd (Prod.snd (Prod.snd x0)))))))))))))))))
def Dat.apt (x0 : Dat) : Int → Int → Int := (Prod.fst (Prod.snd (Prod.snd (Prod.snd (Prod.snd (Prod.snd (Prod.snd (Prod.snd (Prod.snd (Prod.snd (Prod.snd (Prod.snd (Prod.snd (Prod.snd (Prod.snd (Prod.snd (Prod.snd (Prod.snd x0))))))))))))))))))
def Dat.dep (x0 : Dat) : Int → Int := (Prod.snd (Prod.snd (Prod.snd (Prod.snd (Prod.snd (Prod.snd (Prod.snd (Prod.snd (Prod.snd (Prod.snd (Prod.snd (Prod.snd (Prod.snd (Prod.snd (Prod.snd (Prod.snd (Prod.snd (Prod.snd x0))))))))))))))))))
def Dat.mk (x0 : Int) (x1 : Int → Int) (x2 : Int) (x3 : Int) (x4 : Int) (x5 : Int) (x6 : Int) (x7 : Int → Int) (x8 : Int → Int → Int) (x9 : Int → Int) (x10 : Int → Int) (x11 : Int → Int → Int) (x12 : Int → Int → Int) (x13 : Int → Int → Int) (x14 : Int → Int) (x15 : Int → Int) (x16 : Int → Int → Int) (x17 : Int → Int → Int) (x18 : Int → Int) : Dat := (x0, x1, x2, x3, x4, x5, x6, x7, x8, x9, x10, x11, x12, x13, x14, x15, x16, x17, x18)
theorem Dat.k_many {x0 : Int} {x1 : Int → Int} {x2 : Int} {x3 : Int} {x4 : Int} {x5 : Int} {x6 : Int} {x7 : Int → Int} {x8 : Int → Int → Int} {x9 : Int → Int} {x10 : Int → Int} {x11 : Int → Int → Int} {x12 : Int → Int → Int} {x13 : Int → Int → Int} {x14 : Int → Int} {x15 : Int → Int} {x16 : Int → Int → Int} {x17 : Int → Int → Int} {x18 : Int → Int} : (Dat.mk x0 x1 x2 x3 x4 x5 x6 x7 x8 x9 x10 x11 x12 x13 x14 x15 x16 x17 x18).many = x0 := rfl
theorem Dat.k_tx {x0 : Int} {x1 : Int → Int} {x2 : Int} {x3 : Int} {x4 : Int} {x5 : Int} {x6 : Int} {x7 : Int → Int} {x8 : Int → Int → Int} {x9 : Int → Int} {x10 : Int → Int} {x11 : Int → Int → Int} {x12 : Int → Int → Int} {x13 : Int → Int → Int} {x14 : Int → Int} {x15 : Int → Int} {x16 : Int → Int → Int} {x17 : Int → Int → Int} {x18 : Int → Int} : (Dat.mk x0 x1 x2 x3 x4 x5 x6 x7 x8 x9 x10 x11 x12 x13 x14 x15 x16 x17 x18).tx = x1 := rfl
theorem Dat.k_cnt {x0 : Int} {x1 : Int → Int} {x2 : Int} {x3 : Int} {x4 : Int} {x5 : Int} {x6 : Int} {x7 : Int → Int} {x8 : Int → Int → Int} {x9 : Int → Int} {x10 : Int → Int} {x11 : Int → Int → Int} {x12 : Int → Int → Int} {x13 : Int → Int → Int} {x14 : Int → Int} {x15 : Int → Int} {x16 : Int → Int → Int} {x17 : Int → Int → Int} {x18 : Int → Int} : (Dat.mk x0 x1 x2 x3 x4 x5 x6 x7 x8 x9 x10 x11 x12 x13 x14 x15 x16 x17 x18).cnt = x2 := rfl
theorem Dat.k_fac {x0 : Int} {x1 : Int → Int} {x2 : Int} {x3 : Int} {x4 : Int} {x5 : Int} {x6 : Int} {x7 : Int → Int} {x8 : Int → Int → Int} {x9 : Int → Int} {x10 : Int → Int} {x11 : Int → Int → Int} {x12 : Int → Int → Int} {x13 : Int → Int → Int} {x14 : Int → Int} {x15 : Int → Int} {x16 : Int → Int → Int} {x17 : Int → Int → Int} {x18 : Int → Int} : (Dat.mk x0 x1 x2 x3 x4 x5 x6 x7 x8 x9 x10 x11 x12 x13 x14 x15 x16 x17 x18).fac = x3 := rfl
theorem Dat.k_tur {x0 : Int} {x1 : Int → Int} {x2 : Int} {x3 : Int} {x4 : Int} {x5 : Int} {x6 : Int} {x7 : Int → Int} {x8 : Int → Int → Int} {x9 : Int → Int} {x10 : Int → Int} {x11 : Int → Int → Int} {x12 : Int → Int → Int} {x13 : Int → Int → Int} {x14 : Int → Int} {x15 : Int → Int} {x16 : Int → Int → Int} {x17 : Int → Int → Int} {x18 : Int → Int} : (Dat.mk x0 x1 x2 x3 x4 x5 x6 x7 x8 x9 x10 x11 x12 x13 x14 x15 x16 x17 x18).tur = x4 := rfl
theorem Dat.k_bits {x0 : Int} {x1 : Int → Int} {x2 : Int} {x3 : Int} {x4 : Int} {x5 : Int} {x6 : Int} {x7 : Int → Int} {x8 : Int → Int → Int} {x9 : Int → Int} {x10 : Int → Int} {x11 : Int → Int → Int} {x12 : Int → Int → Int} {x13 : Int → Int → Int} {x14 : Int → Int} {x15 : Int → Int} {x16 : Int → Int → Int} {x17 : Int → Int → Int} {x18 : Int → Int} : (Dat.mk x0 x1 x2 x3 x4 x5 x6 x7 x8 x9 x10 x11 x12 x13 x14 x15 x16 x17 x18).bits = x5 := rfl
theorem Dat.k_inc {x0 : Int} {x1 : Int → Int} {x2 : Int} {x3 : Int} {x4 : Int} {x5 : Int} {x6 : Int} {x7 : Int → Int} {x8 : Int → Int → Int} {x9 : Int → Int} {x10 : Int → Int} {x11 : Int → Int → Int} {x12 : Int → Int → Int} {x13 : Int → Int → Int} {x14 : Int → Int} {x15 : Int → Int} {x16 : Int → Int → Int} {x17 : Int → Int → Int} {x18 : Int → Int} : (Dat.mk x0 x1 x2 x3 x4 x5 x6 x7 x8 x9 x10 x11 x12 x13 x14 x15 x16 x17 x18).inc = x6 := rfl
theorem Dat.k_inp {x0 : Int} {x1 : Int → Int} {x2 : Int} {x3 : Int} {x4 : Int} {x5 : Int} {x6 : Int} {x7 : Int → Int} {x8 : Int → Int → Int} {x9 : Int → Int} {x10 : Int → Int} {x11 : Int → Int → Int} {x12 : Int → Int → Int} {x13 : Int → Int → Int} {x14 : Int → Int} {x15 : Int → Int} {x16 : Int → Int → Int} {x17 : Int → Int → Int} {x18 : Int → Int} : (Dat.mk x0 x1 x2 x3 x4 x5 x6 x7 x8 x9 x10 x11 x12 x13 x14 x15 x16 x17 x18).inp = x7 := rfl
theorem Dat.k_told {x0 : Int} {x1 : Int → Int} {x2 : Int} {x3 : Int} {x4 : Int} {x5 : Int} {x6 : Int} {x7 : Int → Int} {x8 : Int → Int → Int} {x9 : Int → Int} {x10 : Int → Int} {x11 : Int → Int → Int} {x12 : Int → Int → Int} {x13 : Int → Int → Int} {x14 : Int → Int} {x15 : Int → Int} {x16 : Int → Int → Int} {x17 : Int → Int → Int} {x18 : Int → Int} : (Dat.mk x0 x1 x2 x3 x4 x5 x6 x7 x8 x9 x10 x11 x12 x13 x14 x15 x16 x17 x18).told = x8 := rfl
theorem Dat.k_un {x0 : Int} {x1 : Int → Int} {x2 : Int} {x3 : Int} {x4 : Int} {x5 : Int} {x6 : Int} {x7 : Int → Int} {x8 : Int → Int → Int} {x9 : Int → Int} {x10 : Int → Int} {x11 : Int → Int → Int} {x12 : Int → Int → Int} {x13 : Int → Int → Int} {x14 : Int → Int} {x15 : Int → Int} {x16 : Int → Int → Int} {x17 : Int → Int → Int} {x18 : Int → Int} : (Dat.mk x0 x1 x2 x3 x4 x5 x6 x7 x8 x9 x10 x11 x12 x13 x14 x15 x16 x17 x18).un = x9 := rfl
theorem Dat.k_cy {x0 : Int} {x1 : Int → Int} {x2 : Int} {x3 : Int} {x4 : Int} {x5 : Int} {x6 : Int} {x7 : Int → Int} {x8 : Int → Int → Int} {x9 : Int → Int} {x10 : Int → Int} {x11 : Int → Int → Int} {x12 : Int → Int → Int} {x13 : Int → Int → Int} {x14 : Int → Int} {x15 : Int → Int} {x16 : Int → Int → Int} {x17 : Int → Int → Int} {x18 : Int → Int} : (Dat.mk x0 x1 x2 x3 x4 x5 x6 x7 x8 x9 x10 x11 x12 x13 x14 x15 x16 x17 x18).cy = x10 := rfl
theorem Dat.k_F {x0 : Int} {x1 : Int → Int} {x2 : Int} {x3 : Int} {x4 : Int} {x5 : Int} {x6 : Int} {x7 : Int → Int} {x8 : Int → Int → Int} {x9 : Int → Int} {x10 : Int → Int} {x11 : Int → Int → Int} {x12 : Int → Int → Int} {x13 : Int → Int → Int} {x14 : Int → Int} {x15 : Int → Int} {x16 : Int → Int → Int} {x17 : Int → Int → Int} {x18 : Int → Int} : (Dat.mk x0 x1 x2 x3 x4 x5 x6 x7 x8 x9 x10 x11 x12 x13 x14 x15 x16 x17 x18).F = x11 := rfl
theorem Dat.k_N {x0 : Int} {x1 : Int → Int} {x2 : Int} {x3 : Int} {x4 : Int} {x5 : Int} {x6 : Int} {x7 : Int → Int} {x8 : Int → Int → Int} {x9 : Int → Int} {x10 : Int → Int} {x11 : Int → Int → Int} {x12 : Int → Int → Int} {x13 : Int → Int → Int} {x14 : Int → Int} {x15 : Int → Int} {x16 : Int → Int → Int} {x17 : Int → Int → Int} {x18 : Int → Int} : (Dat.mk x0 x1 x2 x3 x4 x5 x6 x7 x8 x9 x10 x11 x12 x13 x14 x15 x16 x17 x18).N = x12 := rfl
theorem Dat.k_T {x0 : Int} {x1 : Int → Int} {x2 : Int} {x3 : Int} {x4 : Int} {x5 : Int} {x6 : Int} {x7 : Int → Int} {x8 : Int → Int → Int} {x9 : Int → Int} {x10 : Int → Int} {x11 : Int → Int → Int} {x12 : Int → Int → Int} {x13 : Int → Int → Int} {x14 : Int → Int} {x15 : Int → Int} {x16 : Int → Int → Int} {x17 : Int → Int → Int} {x18 : Int → Int} : (Dat.mk x0 x1 x2 x3 x4 x5 x6 x7 x8 x9 x10 x11 x12 x13 x14 x15 x16 x17 x18).T = x13 := rfl
theorem Dat.k_O {x0 : Int} {x1 : Int → Int} {x2 : Int} {x3 : Int} {x4 : Int} {x5 : Int} {x6 : Int} {x7 : Int → Int} {x8 : Int → Int → Int} {x9 : Int → Int} {x10 : Int → Int} {x11 : Int → Int → Int} {x12 : Int → Int → Int} {x13 : Int → Int → Int} {x14 : Int → Int} {x15 : Int → Int} {x16 : Int → Int → Int} {x17 : Int → Int → Int} {x18 : Int → Int} : (Dat.mk x0 x1 x2 x3 x4 x5 x6 x7 x8 x9 x10 x11 x12 x13 x14 x15 x16 x17 x18).O = x14 := rfl
theorem Dat.k_ac {x0 : Int} {x1 : Int → Int} {x2 : Int} {x3 : Int} {x4 : Int} {x5 : Int} {x6 : Int} {x7 : Int → Int} {x8 : Int → Int → Int} {x9 : Int → Int} {x10 : Int → Int} {x11 : Int → Int → Int} {x12 : Int → Int → Int} {x13 : Int → Int → Int} {x14 : Int → Int} {x15 : Int → Int} {x16 : Int → Int → Int} {x17 : Int → Int → Int} {x18 : Int → Int} : (Dat.mk x0 x1 x2 x3 x4 x5 x6 x7 x8 x9 x10 x11 x12 x13 x14 x15 x16 x17 x18).ac = x15 := rfl
theorem Dat.k_ach {x0 : Int} {x1 : Int → Int} {x2 : Int} {x3 : Int} {x4 : Int} {x5 : Int} {x6 : Int} {x7 : Int → Int} {x8 : Int → Int → Int} {x9 : Int → Int} {x10 : Int → Int} {x11 : Int → Int → Int} {x12 : Int → Int → Int} {x13 : Int → Int → Int} {x14 : Int → Int} {x15 : Int → Int} {x16 : Int → Int → Int} {x17 : Int → Int → Int} {x18 : Int → Int} : (Dat.mk x0 x1 x2 x3 x4 x5 x6 x7 x8 x9 x10 x11 x12 x13 x14 x15 x16 x17 x18).ach = x16 := rfl
theorem Dat.k_apt {x0 : Int} {x1 : Int → Int} {x2 : Int} {x3 : Int} {x4 : Int} {x5 : Int} {x6 : Int} {x7 : Int → Int} {x8 : Int → Int → Int} {x9 : Int → Int} {x10 : Int → Int} {x11 : Int → Int → Int} {x12 : Int → Int → Int} {x13 : Int → Int → Int} {x14 : Int → Int} {x15 : Int → Int} {x16 : Int → Int → Int} {x17 : Int → Int → Int} {x18 : Int → Int} : (Dat.mk x0 x1 x2 x3 x4 x5 x6 x7 x8 x9 x10 x11 x12 x13 x14 x15 x16 x17 x18).apt = x17 := rfl
theorem Dat.k_dep {x0 : Int} {x1 : Int → Int} {x2 : Int} {x3 : Int} {x4 : Int} {x5 : Int} {x6 : Int} {x7 : Int → Int} {x8 : Int → Int → Int} {x9 : Int → Int} {x10 : Int → Int} {x11 : Int → Int → Int} {x12 : Int → Int → Int} {x13 : Int → Int → Int} {x14 : Int → Int} {x15 : Int → Int} {x16 : Int → Int → Int} {x17 : Int → Int → Int} {x18 : Int → Int} : (Dat.mk x0 x1 x2 x3 x4 x5 x6 x7 x8 x9 x10 x11 x12 x13 x14 x15 x16 x17 x18).dep = x18 := rfl
/-- a statement's row: forms, numbers, whether by the turn, operation (32: none) -/
def SOk (F N T : Int → Int) (O : Int) : Prop := (F 0 = 0 ∨ F 0 = 3 ∨ F 0 = 4 ∨ F 0 = 6) ∧ (0 ≤ F 1 ∧ F 1 ≤ 5) ∧ (O = 32 ∧ F 2 = -1 ∨ (O = 43 ∨ O = 45 ∨ O = 42 ∨ O = 38 ∨ O = 124 ∨ O = 94 ∨ O = 108) ∧ 0 ≤ F 2 ∧ F 2 ≤ 5) ∧ (∀ p, 0 ≤ p → p < 3 → F p = 0 → 0 ≤ N p ∧ N p ≤ 7) ∧ (∀ p, 0 ≤ p → p < 3 → F p = 1 → 0 ≤ N p ∧ N p ≤ 99) ∧ (∀ p, 0 ≤ p → p < 3 → F p = 3 ∨ F p = 4 → (T p = 0 ∧ 0 ≤ N p ∧ N p ≤ 99) ∨ (T p = 1 ∧ -9 ≤ N p ∧ N p ≤ 9)) ∧ (∀ p, 0 ≤ p → p < 3 → F p = 3 ∨ F p = 4 ∨ T p = 0)
theorem SOk.f0 {F N T : Int → Int} {O : Int} (h0 : SOk F N T O) : F 0 = 0 ∨ F 0 = 3 ∨ F 0 = 4 ∨ F 0 = 6 := h0.1
theorem SOk.f1 {F N T : Int → Int} {O : Int} (h0 : SOk F N T O) : 0 ≤ F 1 ∧ F 1 ≤ 5 := h0.2.1
theorem SOk.f2 {F N T : Int → Int} {O : Int} (h0 : SOk F N T O) : O = 32 ∧ F 2 = -1 ∨ (O = 43 ∨ O = 45 ∨ O = 42 ∨ O = 38 ∨ O = 124 ∨ O = 94 ∨ O = 108) ∧ 0 ≤ F 2 ∧ F 2 ≤ 5 := h0.2.2.1
theorem SOk.n0 {F N T : Int → Int} {O : Int} (h0 : SOk F N T O) : ∀ p, 0 ≤ p → p < 3 → F p = 0 → 0 ≤ N p ∧ N p ≤ 7 := h0.2.2.2.1
theorem SOk.n1 {F N T : Int → Int} {O : Int} (h0 : SOk F N T O) : ∀ p, 0 ≤ p → p < 3 → F p = 1 → 0 ≤ N p ∧ N p ≤ 99 := h0.2.2.2.2.1
theorem SOk.n3 {F N T : Int → Int} {O : Int} (h0 : SOk F N T O) : ∀ p, 0 ≤ p → p < 3 → F p = 3 ∨ F p = 4 → (T p = 0 ∧ 0 ≤ N p ∧ N p ≤ 99) ∨ (T p = 1 ∧ -9 ≤ N p ∧ N p ≤ 9) := h0.2.2.2.2.2.1
theorem SOk.t0 {F N T : Int → Int} {O : Int} (h0 : SOk F N T O) : ∀ p, 0 ≤ p → p < 3 → F p = 3 ∨ F p = 4 ∨ T p = 0 := h0.2.2.2.2.2.2
theorem SOk.mk {F N T : Int → Int} {O : Int} (h0 : F 0 = 0 ∨ F 0 = 3 ∨ F 0 = 4 ∨ F 0 = 6) (h1 : 0 ≤ F 1 ∧ F 1 ≤ 5) (h2 : O = 32 ∧ F 2 = -1 ∨ (O = 43 ∨ O = 45 ∨ O = 42 ∨ O = 38 ∨ O = 124 ∨ O = 94 ∨ O = 108) ∧ 0 ≤ F 2 ∧ F 2 ≤ 5) (h3 : ∀ p, 0 ≤ p → p < 3 → F p = 0 → 0 ≤ N p ∧ N p ≤ 7) (h4 : ∀ p, 0 ≤ p → p < 3 → F p = 1 → 0 ≤ N p ∧ N p ≤ 99) (h5 : ∀ p, 0 ≤ p → p < 3 → F p = 3 ∨ F p = 4 → (T p = 0 ∧ 0 ≤ N p ∧ N p ≤ 99) ∨ (T p = 1 ∧ -9 ≤ N p ∧ N p ≤ 9)) (h6 : ∀ p, 0 ≤ p → p < 3 → F p = 3 ∨ F p = 4 ∨ T p = 0) : SOk F N T O := ⟨h0, h1, h2, h3, h4, h5, h6⟩
def DOk (D : Dat) : Prop := (0 ≤ D.many ∧ D.many ≤ 24) ∧ (∀ k, 0 ≤ k → k < D.many → 0 ≤ D.tx k ∧ D.tx k < 65536) ∧ (0 ≤ D.cnt ∧ D.cnt ≤ 12) ∧ (1 ≤ D.fac ∧ D.fac ≤ 4) ∧ (D.cnt * D.fac ≤ 24) ∧ (1 ≤ D.tur ∧ D.tur ≤ 16) ∧ (D.tur.tmod D.fac = 0) ∧ (1 ≤ D.bits ∧ D.bits ≤ 16) ∧ (0 ≤ D.inc ∧ D.inc ≤ 32) ∧ (∀ k, 0 ≤ k → k < D.inc → 0 ≤ D.inp k ∧ D.inp k ≤ 65535) ∧ (∀ m p, 0 ≤ m → m < 2 → 0 ≤ p → p < 16 → 0 ≤ D.told m p ∧ D.told m p ≤ 65535) ∧ (∀ k, 0 ≤ k → k < 7 → 1 ≤ D.un k ∧ D.un k ≤ 4) ∧ (∀ k, 5 ≤ k → k < 7 → D.un k = 1) ∧ (∀ k, 0 ≤ k → k < 7 → 1 ≤ D.cy k ∧ D.cy k ≤ 5) ∧ (∀ k, 0 ≤ k → k < D.cnt → SOk (D.F k) (D.N k) (D.T k) (D.O k)) ∧ (∀ p, 0 ≤ p → p < 4 → 0 ≤ D.ac p ∧ D.ac p ≤ 16) ∧ (∀ p k, 0 ≤ p → p < 4 → 0 ≤ k → k < D.ac p → 0 ≤ D.ach p k ∧ D.ach p k < 4) ∧ (∀ p k, 0 ≤ p → p < 4 → 0 ≤ k → k < D.ac p → D.apt p k = 0 ∨ D.apt p k = 1) ∧ (∀ c, 0 ≤ c → c < 4 → 1 ≤ D.dep c ∧ D.dep c ≤ 16)
theorem DOk.many {D : Dat} (h0 : DOk D) : 0 ≤ D.many ∧ D.many ≤ 24 := h0.1
theorem DOk.tx {D : Dat} (h0 : DOk D) : ∀ k, 0 ≤ k → k < D.many → 0 ≤ D.tx k ∧ D.tx k < 65536 := h0.2.1
theorem DOk.cnt {D : Dat} (h0 : DOk D) : 0 ≤ D.cnt ∧ D.cnt ≤ 12 := h0.2.2.1
theorem DOk.fac {D : Dat} (h0 : DOk D) : 1 ≤ D.fac ∧ D.fac ≤ 4 := h0.2.2.2.1
theorem DOk.body {D : Dat} (h0 : DOk D) : D.cnt * D.fac ≤ 24 := h0.2.2.2.2.1
theorem DOk.tur {D : Dat} (h0 : DOk D) : 1 ≤ D.tur ∧ D.tur ≤ 16 := h0.2.2.2.2.2.1
theorem DOk.div {D : Dat} (h0 : DOk D) : D.tur.tmod D.fac = 0 := h0.2.2.2.2.2.2.1
theorem DOk.bits {D : Dat} (h0 : DOk D) : 1 ≤ D.bits ∧ D.bits ≤ 16 := h0.2.2.2.2.2.2.2.1
theorem DOk.inc {D : Dat} (h0 : DOk D) : 0 ≤ D.inc ∧ D.inc ≤ 32 := h0.2.2.2.2.2.2.2.2.1
theorem DOk.inp {D : Dat} (h0 : DOk D) : ∀ k, 0 ≤ k → k < D.inc → 0 ≤ D.inp k ∧ D.inp k ≤ 65535 := h0.2.2.2.2.2.2.2.2.2.1
theorem DOk.told {D : Dat} (h0 : DOk D) : ∀ m p, 0 ≤ m → m < 2 → 0 ≤ p → p < 16 → 0 ≤ D.told m p ∧ D.told m p ≤ 65535 := h0.2.2.2.2.2.2.2.2.2.2.1
theorem DOk.un {D : Dat} (h0 : DOk D) : ∀ k, 0 ≤ k → k < 7 → 1 ≤ D.un k ∧ D.un k ≤ 4 := h0.2.2.2.2.2.2.2.2.2.2.2.1
theorem DOk.un1 {D : Dat} (h0 : DOk D) : ∀ k, 5 ≤ k → k < 7 → D.un k = 1 := h0.2.2.2.2.2.2.2.2.2.2.2.2.1
theorem DOk.cy {D : Dat} (h0 : DOk D) : ∀ k, 0 ≤ k → k < 7 → 1 ≤ D.cy k ∧ D.cy k ≤ 5 := h0.2.2.2.2.2.2.2.2.2.2.2.2.2.1
theorem DOk.st {D : Dat} (h0 : DOk D) : ∀ k, 0 ≤ k → k < D.cnt → SOk (D.F k) (D.N k) (D.T k) (D.O k) := h0.2.2.2.2.2.2.2.2.2.2.2.2.2.2.1
theorem DOk.ac {D : Dat} (h0 : DOk D) : ∀ p, 0 ≤ p → p < 4 → 0 ≤ D.ac p ∧ D.ac p ≤ 16 := h0.2.2.2.2.2.2.2.2.2.2.2.2.2.2.2.1
theorem DOk.ach {D : Dat} (h0 : DOk D) : ∀ p k, 0 ≤ p → p < 4 → 0 ≤ k → k < D.ac p → 0 ≤ D.ach p k ∧ D.ach p k < 4 := h0.2.2.2.2.2.2.2.2.2.2.2.2.2.2.2.2.1
theorem DOk.apt {D : Dat} (h0 : DOk D) : ∀ p k, 0 ≤ p → p < 4 → 0 ≤ k → k < D.ac p → D.apt p k = 0 ∨ D.apt p k = 1 := h0.2.2.2.2.2.2.2.2.2.2.2.2.2.2.2.2.2.1
theorem DOk.dep {D : Dat} (h0 : DOk D) : ∀ c, 0 ≤ c → c < 4 → 1 ≤ D.dep c ∧ D.dep c ≤ 16 := h0.2.2.2.2.2.2.2.2.2.2.2.2.2.2.2.2.2.2
theorem DOk.mk {D : Dat} (h0 : 0 ≤ D.many ∧ D.many ≤ 24) (h1 : ∀ k, 0 ≤ k → k < D.many → 0 ≤ D.tx k ∧ D.tx k < 65536) (h2 : 0 ≤ D.cnt ∧ D.cnt ≤ 12) (h3 : 1 ≤ D.fac ∧ D.fac ≤ 4) (h4 : D.cnt * D.fac ≤ 24) (h5 : 1 ≤ D.tur ∧ D.tur ≤ 16) (h6 : D.tur.tmod D.fac = 0) (h7 : 1 ≤ D.bits ∧ D.bits ≤ 16) (h8 : 0 ≤ D.inc ∧ D.inc ≤ 32) (h9 : ∀ k, 0 ≤ k → k < D.inc → 0 ≤ D.inp k ∧ D.inp k ≤ 65535) (h10 : ∀ m p, 0 ≤ m → m < 2 → 0 ≤ p → p < 16 → 0 ≤ D.told m p ∧ D.told m p ≤ 65535) (h11 : ∀ k, 0 ≤ k → k < 7 → 1 ≤ D.un k ∧ D.un k ≤ 4) (h12 : ∀ k, 5 ≤ k → k < 7 → D.un k = 1) (h13 : ∀ k, 0 ≤ k → k < 7 → 1 ≤ D.cy k ∧ D.cy k ≤ 5) (h14 : ∀ k, 0 ≤ k → k < D.cnt → SOk (D.F k) (D.N k) (D.T k) (D.O k)) (h15 : ∀ p, 0 ≤ p → p < 4 → 0 ≤ D.ac p ∧ D.ac p ≤ 16) (h16 : ∀ p k, 0 ≤ p → p < 4 → 0 ≤ k → k < D.ac p → 0 ≤ D.ach p k ∧ D.ach p k < 4) (h17 : ∀ p k, 0 ≤ p → p < 4 → 0 ≤ k → k < D.ac p → D.apt p k = 0 ∨ D.apt p k = 1) (h18 : ∀ c, 0 ≤ c → c < 4 → 1 ≤ D.dep c ∧ D.dep c ≤ 16) : DOk D := ⟨h0, h1, h2, h3, h4, h5, h6, h7, h8, h9, h10, h11, h12, h13, h14, h15, h16, h17, h18⟩
/-- a statement of the class at an object -/
def StmAt (i : MI) (o : Int) (F N T : Int → Int) (O : Int) : Prop := (∀ p, 0 ≤ p → p < 3 → i (o + 1) p = F p) ∧ (∀ p, 0 ≤ p → p < 3 → i (o + 2) p = N p) ∧ (∀ p, 0 ≤ p → p < 3 → i (o + 3) p = T p) ∧ (i o 3 = O)
theorem StmAt.f {i : MI} {o : Int} {F N T : Int → Int} {O : Int} (h0 : StmAt i o F N T O) : ∀ p, 0 ≤ p → p < 3 → i (o + 1) p = F p := h0.1
theorem StmAt.n {i : MI} {o : Int} {F N T : Int → Int} {O : Int} (h0 : StmAt i o F N T O) : ∀ p, 0 ≤ p → p < 3 → i (o + 2) p = N p := h0.2.1
theorem StmAt.t {i : MI} {o : Int} {F N T : Int → Int} {O : Int} (h0 : StmAt i o F N T O) : ∀ p, 0 ≤ p → p < 3 → i (o + 3) p = T p := h0.2.2.1
theorem StmAt.o {i : MI} {o : Int} {F N T : Int → Int} {O : Int} (h0 : StmAt i o F N T O) : i o 3 = O := h0.2.2.2
theorem StmAt.mk {i : MI} {o : Int} {F N T : Int → Int} {O : Int} (h0 : ∀ p, 0 ≤ p → p < 3 → i (o + 1) p = F p) (h1 : ∀ p, 0 ≤ p → p < 3 → i (o + 2) p = N p) (h2 : ∀ p, 0 ≤ p → p < 3 → i (o + 3) p = T p) (h3 : i o 3 = O) : StmAt i o F N T O := ⟨h0, h1, h2, h3⟩
/-- the references that rows of statements keep -/
def RefP (r : MI) : Prop := (∀ k, 0 ≤ k → k < 12 → stm (r 4 k)) ∧ (stm (r 3 3)) ∧ (∀ k j, 0 ≤ k → k < 12 → 0 ≤ j → j < 12 → r 4 k = r 4 j → k = j) ∧ (∀ k, 0 ≤ k → k < 12 → r 4 k ≠ r 3 3)
theorem RefP.s {r : MI} (h0 : RefP r) : ∀ k, 0 ≤ k → k < 12 → stm (r 4 k) := h0.1
theorem RefP.p {r : MI} (h0 : RefP r) : stm (r 3 3) := h0.2.1
theorem RefP.d {r : MI} (h0 : RefP r) : ∀ k j, 0 ≤ k → k < 12 → 0 ≤ j → j < 12 → r 4 k = r 4 j → k = j := h0.2.2.1
theorem RefP.dp {r : MI} (h0 : RefP r) : ∀ k, 0 ≤ k → k < 12 → r 4 k ≠ r 3 3 := h0.2.2.2
theorem RefP.mk {r : MI} (h0 : ∀ k, 0 ≤ k → k < 12 → stm (r 4 k)) (h1 : stm (r 3 3)) (h2 : ∀ k j, 0 ≤ k → k < 12 → 0 ≤ j → j < 12 → r 4 k = r 4 j → k = j) (h3 : ∀ k, 0 ≤ k → k < 12 → r 4 k ≠ r 3 3) : RefP r := ⟨h0, h1, h2, h3⟩
def ClassP (D : Dat) (i r : MI) : Prop := (i 1 1 = D.many) ∧ (∀ k, 0 ≤ k → k < D.many → i 2 k = D.tx k) ∧ (i 3 4 = D.cnt) ∧ (i 3 5 = D.inc) ∧ (i 3 6 = D.tur) ∧ (i 3 7 = D.bits) ∧ (i 3 8 = D.fac) ∧ (∀ k, 0 ≤ k → k < D.inc → i 5 k = D.inp k) ∧ (∀ m p, 0 ≤ m → m < 2 → 0 ≤ p → p < 16 → i (7 + m) p = D.told m p) ∧ (∀ k, 0 ≤ k → k < 7 → i 69 k = D.un k) ∧ (∀ k, 0 ≤ k → k < 7 → i 70 k = D.cy k) ∧ (∀ k, 0 ≤ k → k < D.cnt → StmAt i (r 4 k) (D.F k) (D.N k) (D.T k) (D.O k)) ∧ (∀ p, 0 ≤ p → p < 4 → i 499 p = D.ac p) ∧ (∀ p k, 0 ≤ p → p < 4 → 0 ≤ k → k < D.ac p → i (490 + p) k = D.ach p k) ∧ (∀ p k, 0 ≤ p → p < 4 → 0 ≤ k → k < D.ac p → i (495 + p) k = 2 * D.apt p k - 1) ∧ (∀ c, 0 ≤ c → c < 4 → i 500 c = D.dep c) ∧ (RefP r) ∧ (0 ≤ D.cnt ∧ D.cnt ≤ 12)
theorem ClassP.many {D : Dat} {i r : MI} (h0 : ClassP D i r) : i 1 1 = D.many := h0.1
theorem ClassP.tx {D : Dat} {i r : MI} (h0 : ClassP D i r) : ∀ k, 0 ≤ k → k < D.many → i 2 k = D.tx k := h0.2.1
theorem ClassP.cnt {D : Dat} {i r : MI} (h0 : ClassP D i r) : i 3 4 = D.cnt := h0.2.2.1
theorem ClassP.inc {D : Dat} {i r : MI} (h0 : ClassP D i r) : i 3 5 = D.inc := h0.2.2.2.1
theorem ClassP.tur {D : Dat} {i r : MI} (h0 : ClassP D i r) : i 3 6 = D.tur := h0.2.2.2.2.1
theorem ClassP.bits {D : Dat} {i r : MI} (h0 : ClassP D i r) : i 3 7 = D.bits := h0.2.2.2.2.2.1
theorem ClassP.fac {D : Dat} {i r : MI} (h0 : ClassP D i r) : i 3 8 = D.fac := h0.2.2.2.2.2.2.1
theorem ClassP.inp {D : Dat} {i r : MI} (h0 : ClassP D i r) : ∀ k, 0 ≤ k → k < D.inc → i 5 k = D.inp k := h0.2.2.2.2.2.2.2.1
theorem ClassP.told {D : Dat} {i r : MI} (h0 : ClassP D i r) : ∀ m p, 0 ≤ m → m < 2 → 0 ≤ p → p < 16 → i (7 + m) p = D.told m p := h0.2.2.2.2.2.2.2.2.1
theorem ClassP.un {D : Dat} {i r : MI} (h0 : ClassP D i r) : ∀ k, 0 ≤ k → k < 7 → i 69 k = D.un k := h0.2.2.2.2.2.2.2.2.2.1
theorem ClassP.cy {D : Dat} {i r : MI} (h0 : ClassP D i r) : ∀ k, 0 ≤ k → k < 7 → i 70 k = D.cy k := h0.2.2.2.2.2.2.2.2.2.2.1
theorem ClassP.st {D : Dat} {i r : MI} (h0 : ClassP D i r) : ∀ k, 0 ≤ k → k < D.cnt → StmAt i (r 4 k) (D.F k) (D.N k) (D.T k) (D.O k) := h0.2.2.2.2.2.2.2.2.2.2.2.1
theorem ClassP.ac {D : Dat} {i r : MI} (h0 : ClassP D i r) : ∀ p, 0 ≤ p → p < 4 → i 499 p = D.ac p := h0.2.2.2.2.2.2.2.2.2.2.2.2.1
theorem ClassP.ach {D : Dat} {i r : MI} (h0 : ClassP D i r) : ∀ p k, 0 ≤ p → p < 4 → 0 ≤ k → k < D.ac p → i (490 + p) k = D.ach p k := h0.2.2.2.2.2.2.2.2.2.2.2.2.2.1
theorem ClassP.apt {D : Dat} {i r : MI} (h0 : ClassP D i r) : ∀ p k, 0 ≤ p → p < 4 → 0 ≤ k → k < D.ac p → i (495 + p) k = 2 * D.apt p k - 1 := h0.2.2.2.2.2.2.2.2.2.2.2.2.2.2.1
theorem ClassP.dep {D : Dat} {i r : MI} (h0 : ClassP D i r) : ∀ c, 0 ≤ c → c < 4 → i 500 c = D.dep c := h0.2.2.2.2.2.2.2.2.2.2.2.2.2.2.2.1
theorem ClassP.rf {D : Dat} {i r : MI} (h0 : ClassP D i r) : RefP r := h0.2.2.2.2.2.2.2.2.2.2.2.2.2.2.2.2.1
theorem ClassP.c12 {D : Dat} {i r : MI} (h0 : ClassP D i r) : 0 ≤ D.cnt ∧ D.cnt ≤ 12 := h0.2.2.2.2.2.2.2.2.2.2.2.2.2.2.2.2.2
theorem ClassP.mk {D : Dat} {i r : MI} (h0 : i 1 1 = D.many) (h1 : ∀ k, 0 ≤ k → k < D.many → i 2 k = D.tx k) (h2 : i 3 4 = D.cnt) (h3 : i 3 5 = D.inc) (h4 : i 3 6 = D.tur) (h5 : i 3 7 = D.bits) (h6 : i 3 8 = D.fac) (h7 : ∀ k, 0 ≤ k → k < D.inc → i 5 k = D.inp k) (h8 : ∀ m p, 0 ≤ m → m < 2 → 0 ≤ p → p < 16 → i (7 + m) p = D.told m p) (h9 : ∀ k, 0 ≤ k → k < 7 → i 69 k = D.un k) (h10 : ∀ k, 0 ≤ k → k < 7 → i 70 k = D.cy k) (h11 : ∀ k, 0 ≤ k → k < D.cnt → StmAt i (r 4 k) (D.F k) (D.N k) (D.T k) (D.O k)) (h12 : ∀ p, 0 ≤ p → p < 4 → i 499 p = D.ac p) (h13 : ∀ p k, 0 ≤ p → p < 4 → 0 ≤ k → k < D.ac p → i (490 + p) k = D.ach p k) (h14 : ∀ p k, 0 ≤ p → p < 4 → 0 ≤ k → k < D.ac p → i (495 + p) k = 2 * D.apt p k - 1) (h15 : ∀ c, 0 ≤ c → c < 4 → i 500 c = D.dep c) (h16 : RefP r) (h17 : 0 ≤ D.cnt ∧ D.cnt ≤ 12) : ClassP D i r := ⟨h0, h1, h2, h3, h4, h5, h6, h7, h8, h9, h10, h11, h12, h13, h14, h15, h16, h17⟩
/-- a statement of the reference: 13 numbers from b on in an object -/
def MPart (i : MI) (o b F N T : Int) : Prop := (i o b = if F ≤ 5 then F else 5) ∧ (F = 0 ∨ F = 1 → i o (b + 1) = N) ∧ (F = 3 ∨ F = 4 → i o (b + 2) = T ∧ i o (b + 3) = N)
theorem MPart.k {i : MI} {o b F N T : Int} (h0 : MPart i o b F N T) : i o b = if F ≤ 5 then F else 5 := h0.1
theorem MPart.n {i : MI} {o b F N T : Int} (h0 : MPart i o b F N T) : F = 0 ∨ F = 1 → i o (b + 1) = N := h0.2.1
theorem MPart.t {i : MI} {o b F N T : Int} (h0 : MPart i o b F N T) : F = 3 ∨ F = 4 → i o (b + 2) = T ∧ i o (b + 3) = N := h0.2.2
theorem MPart.mk {i : MI} {o b F N T : Int} (h0 : i o b = if F ≤ 5 then F else 5) (h1 : F = 0 ∨ F = 1 → i o (b + 1) = N) (h2 : F = 3 ∨ F = 4 → i o (b + 2) = T ∧ i o (b + 3) = N) : MPart i o b F N T := ⟨h0, h1, h2⟩
def MStm (i : MI) (ob b : Int) (F N T : Int → Int) (O : Int) : Prop := (MPart i ob b (F 0) (N 0) (T 0)) ∧ (MPart i ob (b + 4) (F 1) (N 1) (T 1)) ∧ (O ≠ 32 → MPart i ob (b + 8) (F 2) (N 2) (T 2)) ∧ (i ob (b + 12) = if O = 32 then 0 else O)
theorem MStm.p0 {i : MI} {ob b : Int} {F N T : Int → Int} {O : Int} (h0 : MStm i ob b F N T O) : MPart i ob b (F 0) (N 0) (T 0) := h0.1
theorem MStm.p1 {i : MI} {ob b : Int} {F N T : Int → Int} {O : Int} (h0 : MStm i ob b F N T O) : MPart i ob (b + 4) (F 1) (N 1) (T 1) := h0.2.1
theorem MStm.p2 {i : MI} {ob b : Int} {F N T : Int → Int} {O : Int} (h0 : MStm i ob b F N T O) : O ≠ 32 → MPart i ob (b + 8) (F 2) (N 2) (T 2) := h0.2.2.1
theorem MStm.o {i : MI} {ob b : Int} {F N T : Int → Int} {O : Int} (h0 : MStm i ob b F N T O) : i ob (b + 12) = if O = 32 then 0 else O := h0.2.2.2
theorem MStm.mk {i : MI} {ob b : Int} {F N T : Int → Int} {O : Int} (h0 : MPart i ob b (F 0) (N 0) (T 0)) (h1 : MPart i ob (b + 4) (F 1) (N 1) (T 1)) (h2 : O ≠ 32 → MPart i ob (b + 8) (F 2) (N 2) (T 2)) (h3 : i ob (b + 12) = if O = 32 then 0 else O) : MStm i ob b F N T O := ⟨h0, h1, h2, h3⟩
def ModelP (D : Dat) (i : MI) : Prop := (i 504 1 = D.many) ∧ (∀ k, 0 ≤ k → k < D.many → i 505 k = D.tx k) ∧ (i 504 6 = D.cnt) ∧ (i 504 8 = D.tur) ∧ (i 504 9 = D.bits) ∧ (i 504 10 = D.fac) ∧ (i 504 11 = D.inc) ∧ (∀ k, 0 ≤ k → k < D.inc → i 508 k = D.inp k) ∧ (∀ m p, 0 ≤ m → m < 2 → 0 ≤ p → p < 16 → i 509 (16 * m + p) = D.told m p) ∧ (∀ k, 0 ≤ k → k < 7 → i 510 k = D.un k) ∧ (∀ k, 0 ≤ k → k < 7 → i 511 k = D.cy k) ∧ (∀ k, 0 ≤ k → k < D.cnt → MStm i 507 (13 * k) (D.F k) (D.N k) (D.T k) (D.O k)) ∧ (∀ p, 0 ≤ p → p < 4 → i 535 p = D.ac p) ∧ (∀ p k, 0 ≤ p → p < 4 → 0 ≤ k → k < D.ac p → i 536 (16 * p + k) = 2 * D.ach p k + D.apt p k) ∧ (∀ c, 0 ≤ c → c < 4 → i 537 c = D.dep c)
theorem ModelP.many {D : Dat} {i : MI} (h0 : ModelP D i) : i 504 1 = D.many := h0.1
theorem ModelP.tx {D : Dat} {i : MI} (h0 : ModelP D i) : ∀ k, 0 ≤ k → k < D.many → i 505 k = D.tx k := h0.2.1
theorem ModelP.cnt {D : Dat} {i : MI} (h0 : ModelP D i) : i 504 6 = D.cnt := h0.2.2.1
theorem ModelP.tur {D : Dat} {i : MI} (h0 : ModelP D i) : i 504 8 = D.tur := h0.2.2.2.1
theorem ModelP.bits {D : Dat} {i : MI} (h0 : ModelP D i) : i 504 9 = D.bits := h0.2.2.2.2.1
theorem ModelP.fac {D : Dat} {i : MI} (h0 : ModelP D i) : i 504 10 = D.fac := h0.2.2.2.2.2.1
theorem ModelP.inc {D : Dat} {i : MI} (h0 : ModelP D i) : i 504 11 = D.inc := h0.2.2.2.2.2.2.1
theorem ModelP.inp {D : Dat} {i : MI} (h0 : ModelP D i) : ∀ k, 0 ≤ k → k < D.inc → i 508 k = D.inp k := h0.2.2.2.2.2.2.2.1
theorem ModelP.told {D : Dat} {i : MI} (h0 : ModelP D i) : ∀ m p, 0 ≤ m → m < 2 → 0 ≤ p → p < 16 → i 509 (16 * m + p) = D.told m p := h0.2.2.2.2.2.2.2.2.1
theorem ModelP.un {D : Dat} {i : MI} (h0 : ModelP D i) : ∀ k, 0 ≤ k → k < 7 → i 510 k = D.un k := h0.2.2.2.2.2.2.2.2.2.1
theorem ModelP.cy {D : Dat} {i : MI} (h0 : ModelP D i) : ∀ k, 0 ≤ k → k < 7 → i 511 k = D.cy k := h0.2.2.2.2.2.2.2.2.2.2.1
theorem ModelP.st {D : Dat} {i : MI} (h0 : ModelP D i) : ∀ k, 0 ≤ k → k < D.cnt → MStm i 507 (13 * k) (D.F k) (D.N k) (D.T k) (D.O k) := h0.2.2.2.2.2.2.2.2.2.2.2.1
theorem ModelP.ac {D : Dat} {i : MI} (h0 : ModelP D i) : ∀ p, 0 ≤ p → p < 4 → i 535 p = D.ac p := h0.2.2.2.2.2.2.2.2.2.2.2.2.1
theorem ModelP.act {D : Dat} {i : MI} (h0 : ModelP D i) : ∀ p k, 0 ≤ p → p < 4 → 0 ≤ k → k < D.ac p → i 536 (16 * p + k) = 2 * D.ach p k + D.apt p k := h0.2.2.2.2.2.2.2.2.2.2.2.2.2.1
theorem ModelP.dep {D : Dat} {i : MI} (h0 : ModelP D i) : ∀ c, 0 ≤ c → c < 4 → i 537 c = D.dep c := h0.2.2.2.2.2.2.2.2.2.2.2.2.2.2
theorem ModelP.mk {D : Dat} {i : MI} (h0 : i 504 1 = D.many) (h1 : ∀ k, 0 ≤ k → k < D.many → i 505 k = D.tx k) (h2 : i 504 6 = D.cnt) (h3 : i 504 8 = D.tur) (h4 : i 504 9 = D.bits) (h5 : i 504 10 = D.fac) (h6 : i 504 11 = D.inc) (h7 : ∀ k, 0 ≤ k → k < D.inc → i 508 k = D.inp k) (h8 : ∀ m p, 0 ≤ m → m < 2 → 0 ≤ p → p < 16 → i 509 (16 * m + p) = D.told m p) (h9 : ∀ k, 0 ≤ k → k < 7 → i 510 k = D.un k) (h10 : ∀ k, 0 ≤ k → k < 7 → i 511 k = D.cy k) (h11 : ∀ k, 0 ≤ k → k < D.cnt → MStm i 507 (13 * k) (D.F k) (D.N k) (D.T k) (D.O k)) (h12 : ∀ p, 0 ≤ p → p < 4 → i 535 p = D.ac p) (h13 : ∀ p k, 0 ≤ p → p < 4 → 0 ≤ k → k < D.ac p → i 536 (16 * p + k) = 2 * D.ach p k + D.apt p k) (h14 : ∀ c, 0 ≤ c → c < 4 → i 537 c = D.dep c) : ModelP D i := ⟨h0, h1, h2, h3, h4, h5, h6, h7, h8, h9, h10, h11, h12, h13, h14⟩
/-- what a method of the class leaves alone: the reference -/
def Fc (i i' : MI) : Prop := ∀ a, 504 ≤ a → i' a = i a
/-- what a method of the reference leaves alone -/
def Fm (i i' : MI) : Prop := ∀ a, a < 504 ∨ 540 ≤ a → i' a = i a
theorem stm_rng {o : Int} (h : stm o) : 9 ≤ o ∧ o ≤ 57 ∧ (o - 9) % 4 = 0 := h
theorem StmAt.congr {i i' : MI} {o : Int} {F N T : Int → Int} {O : Int} (h : StmAt i o F N T O) (h1 : i' (o + 1) = i (o + 1)) (h2 : i' (o + 2) = i (o + 2)) (h3 : i' (o + 3) = i (o + 3)) (h0 : i' o = i o) : StmAt i' o F N T O := by
  apply StmAt.mk
  · rw [h1]; exact h.f
  · rw [h2]; exact h.n
  · rw [h3]; exact h.t
  · rw [h0]; exact h.o
/-- the rows that the class's data stand in -/
theorem ClassP.congr {D : Dat} {i i' r r' : MI} (h : ClassP D i r) (h1 : i' 1 1 = i 1 1) (h2 : i' 2 = i 2) (h3 : ∀ c, 4 ≤ c → i' 3 c = i 3 c) (h5 : i' 5 = i 5) (h7 : ∀ a, 7 ≤ a → a ≤ 8 → i' a = i a) (h9 : ∀ a, 9 ≤ a → a ≤ 60 → (a < r 3 3 ∨ r 3 3 + 3 < a) → i' a = i a) (h69 : i' 69 = i 69) (h70 : i' 70 = i 70) (h490 : ∀ a, 490 ≤ a → a ≤ 493 → i' a = i a) (h495 : ∀ a, 495 ≤ a → a ≤ 500 → i' a = i a) (hr4 : r' 4 = r 4) (hr3 : r' 3 = r 3) : ClassP D i' r' := by
  obtain ⟨hs, hp, hd, hdp⟩ := h.rf
  apply ClassP.mk
  · rw [h1]; exact h.many
  · rw [h2]; exact h.tx
  · rw [h3 _ (by decide)]; exact h.cnt
  · rw [h3 _ (by decide)]; exact h.inc
  · rw [h3 _ (by decide)]; exact h.tur
  · rw [h3 _ (by decide)]; exact h.bits
  · rw [h3 _ (by decide)]; exact h.fac
  · rw [h5]; exact h.inp
  · intro m p a b; rw [h7 (7 + m) (by omega) (by omega)]; exact h.told m p a b
  · rw [h69]; exact h.un
  · rw [h70]; exact h.cy
  · intro k k0 k1
    rw [hr4]
    have a1 := stm_rng (hs k k0 (by have := h.c12; omega))
    have a2 := stm_rng hp
    have a3 := hdp k k0 (by have := h.c12; omega)
    have g : ∀ a, r 4 k ≤ a → a ≤ r 4 k + 3 → i' a = i a := fun a b1 b2 => h9 a (by omega) (by omega) (by omega)
    exact (h.st k k0 k1).congr (g _ (by omega) (by omega)) (g _ (by omega) (by omega)) (g _ (by omega) (by omega)) (g _ (by omega) (by omega))
  · rw [h495 _ (by decide) (by decide)]; exact h.ac
  · intro p k a b; rw [h490 (490 + p) (by omega) (by omega)]; exact h.ach p k a b
  · intro p k a b; rw [h495 (495 + p) (by omega) (by omega)]; exact h.apt p k a b
  · rw [h495 _ (by decide) (by decide)]; exact h.dep
  · apply RefP.mk
    · rw [hr4]; exact hs
    · rw [hr3]; exact hp
    · rw [hr4]; exact hd
    · rw [hr4, hr3]; exact hdp
  · exact h.c12
theorem ModelP.congr {D : Dat} {i i' : MI} (h : ModelP D i) (h4 : ∀ c, c = 1 ∨ c = 6 ∨ (8 ≤ c ∧ c ≤ 11) → i' 504 c = i 504 c) (h5 : i' 505 = i 505) (h7 : ∀ a, 507 ≤ a → a ≤ 511 → i' a = i a) (h35 : ∀ a, 535 ≤ a → a ≤ 537 → i' a = i a) : ModelP D i' := by
  apply ModelP.mk
  · rw [h4 _ (by decide)]; exact h.many
  · rw [h5]; exact h.tx
  · rw [h4 _ (by decide)]; exact h.cnt
  · rw [h4 _ (by decide)]; exact h.tur
  · rw [h4 _ (by decide)]; exact h.bits
  · rw [h4 _ (by decide)]; exact h.fac
  · rw [h4 _ (by decide)]; exact h.inc
  · rw [h7 _ (by decide) (by decide)]; exact h.inp
  · rw [h7 _ (by decide) (by decide)]; exact h.told
  · rw [h7 _ (by decide) (by decide)]; exact h.un
  · rw [h7 _ (by decide) (by decide)]; exact h.cy
  · intro k a b
    have h0 := h7 507 (by decide) (by decide)
    obtain ⟨⟨a1, a2, a3⟩, ⟨b1, b2, b3⟩, c, d⟩ := h.st k a b
    refine ⟨⟨?_, ?_, ?_⟩, ⟨?_, ?_, ?_⟩, ?_, ?_⟩ <;> try (rw [h0]; assumption)
    intro ho
    obtain ⟨c1, c2, c3⟩ := c ho
    refine ⟨?_, ?_, ?_⟩ <;> (rw [h0]; assumption)
  · rw [h35 _ (by decide) (by decide)]; exact h.ac
  · rw [h35 _ (by decide) (by decide)]; exact h.act
  · rw [h35 _ (by decide) (by decide)]; exact h.dep
