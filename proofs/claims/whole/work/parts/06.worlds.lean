def wX (cI : ClassId) (q : Nat → Nat) (σ : St) : va_W := [((q 0), .inr (5, [.ref (q 1), .ref (q 2), .ref (q 3), .ref (q 4), .int (σ.1 0), .int (σ.1 1), .int (σ.1 2), .int (σ.1 3)])), ((q 1), .inr (0, [.ref (q 7), .ref (q 8), .ref (q 9), .ref (q 10), .int (σ.1 4)])), ((q 2), .inr (1, [.ref (q 11), .int (σ.1 5)])), ((q 3), .inr (3, [.ref (q 12), .ref (q 13), .ref (q 14), .ref (q 15), .ref (q 16), .ref (q 17), .ref (q 18), .ref (q 5), .ref (q 6), .int (σ.1 6), .int (σ.1 7)])), ((q 4), .inr (4, [.ref (q 19), .ref (q 20), .ref (q 21), .int (σ.1 8), .int (σ.1 9), .int (σ.1 10)])), ((q 5), .inr (2, [.ref (q 22)])), ((q 6), .inr (2, [.ref (q 23)])), ((q 7), .inl (cI, 120, .inl (σ.2 0))), ((q 8), .inl (cI, 120, .inl (σ.2 1))), ((q 9), .inl (cI, 120, .inl (σ.2 2))), ((q 10), .inl (cI, 120, .inl (σ.2 3))), ((q 11), .inl (cI, 100, .inl (σ.2 4))), ((q 12), .inl (cI, 60, .inl (σ.2 5))), ((q 13), .inl (cI, 60, .inl (σ.2 6))), ((q 14), .inl (cI, 60, .inl (σ.2 7))), ((q 15), .inl (cI, 60, .inl (σ.2 8))), ((q 16), .inl (cI, 60, .inl (σ.2 9))), ((q 17), .inl (cI, 8, .inl (σ.2 10))), ((q 18), .inl (cI, 8, .inl (σ.2 11))), ((q 19), .inl (cI, 8, .inl (σ.2 12))), ((q 20), .inl (cI, 120, .inl (σ.2 13))), ((q 21), .inl (cI, 120, .inl (σ.2 14))), ((q 22), .inl (cI, 64, .inl (σ.2 15))), ((q 23), .inl (cI, 64, .inl (σ.2 16)))]
def wM (cI : ClassId) (q : Nat → Nat) (σ : St) : va_W := [((q 0), .inr (6, [.int (σ.1 0), .int (σ.1 1), .int (σ.1 2), .int (σ.1 3), .int (σ.1 4), .int (σ.1 5), .int (σ.1 6), .int (σ.1 7), .int (σ.1 8), .ref (q 1), .ref (q 2), .ref (q 3), .ref (q 4), .ref (q 5), .ref (q 6), .ref (q 7), .ref (q 8), .ref (q 9), .ref (q 10), .ref (q 11), .ref (q 12), .ref (q 13), .ref (q 14), .ref (q 15), .ref (q 16), .int (σ.1 9), .int (σ.1 10), .ref (q 17), .ref (q 18)])), ((q 1), .inl (cI, 100, .inl (σ.2 0))), ((q 2), .inl (cI, 120, .inl (σ.2 1))), ((q 3), .inl (cI, 120, .inl (σ.2 2))), ((q 4), .inl (cI, 120, .inl (σ.2 3))), ((q 5), .inl (cI, 120, .inl (σ.2 4))), ((q 6), .inl (cI, 61, .inl (σ.2 5))), ((q 7), .inl (cI, 61, .inl (σ.2 6))), ((q 8), .inl (cI, 61, .inl (σ.2 7))), ((q 9), .inl (cI, 61, .inl (σ.2 8))), ((q 10), .inl (cI, 61, .inl (σ.2 9))), ((q 11), .inl (cI, 64, .inl (σ.2 10))), ((q 12), .inl (cI, 64, .inl (σ.2 11))), ((q 13), .inl (cI, 64, .inl (σ.2 12))), ((q 14), .inl (cI, 64, .inl (σ.2 13))), ((q 15), .inl (cI, 64, .inl (σ.2 14))), ((q 16), .inl (cI, 64, .inl (σ.2 15))), ((q 17), .inl (cI, 8, .inl (σ.2 16))), ((q 18), .inl (cI, 120, .inl (σ.2 17)))]
def wA (cI : ClassId) (n a : Nat) (f : Nat → Int32) : va_W := [(a, .inl (cI, n, .inl f))]
def wO (cI : ClassId) (o a : Nat) (f : Nat → Int32) : va_W := [(o, .inr (2, [.ref a])), (a, .inl (cI, 64, .inl f))]
def wOO (cI : ClassId) (o a o2 a2 : Nat) (f : (Nat → Int32) × (Nat → Int32)) : va_W := [(o, .inr (2, [.ref a])), (o2, .inr (2, [.ref a2])), (a, .inl (cI, 64, .inl f.1)), (a2, .inl (cI, 64, .inl f.2))]
theorem wX_i0 (cI : ClassId) (q : Nat → Nat) (σ : St) (x : Int32) : (wX cI q σ).set 0 ((q 0), .inr (5, ([.ref (q 1), .ref (q 2), .ref (q 3), .ref (q 4), .int (σ.1 0), .int (σ.1 1), .int (σ.1 2), .int (σ.1 3)] : List Value).set 4 (.int x))) = wX cI q (va_up σ.1 0 x, σ.2) := rfl
theorem wX_i1 (cI : ClassId) (q : Nat → Nat) (σ : St) (x : Int32) : (wX cI q σ).set 0 ((q 0), .inr (5, ([.ref (q 1), .ref (q 2), .ref (q 3), .ref (q 4), .int (σ.1 0), .int (σ.1 1), .int (σ.1 2), .int (σ.1 3)] : List Value).set 5 (.int x))) = wX cI q (va_up σ.1 1 x, σ.2) := rfl
theorem wX_i2 (cI : ClassId) (q : Nat → Nat) (σ : St) (x : Int32) : (wX cI q σ).set 0 ((q 0), .inr (5, ([.ref (q 1), .ref (q 2), .ref (q 3), .ref (q 4), .int (σ.1 0), .int (σ.1 1), .int (σ.1 2), .int (σ.1 3)] : List Value).set 6 (.int x))) = wX cI q (va_up σ.1 2 x, σ.2) := rfl
theorem wX_i3 (cI : ClassId) (q : Nat → Nat) (σ : St) (x : Int32) : (wX cI q σ).set 0 ((q 0), .inr (5, ([.ref (q 1), .ref (q 2), .ref (q 3), .ref (q 4), .int (σ.1 0), .int (σ.1 1), .int (σ.1 2), .int (σ.1 3)] : List Value).set 7 (.int x))) = wX cI q (va_up σ.1 3 x, σ.2) := rfl
theorem wX_i4 (cI : ClassId) (q : Nat → Nat) (σ : St) (x : Int32) : (wX cI q σ).set 1 ((q 1), .inr (0, ([.ref (q 7), .ref (q 8), .ref (q 9), .ref (q 10), .int (σ.1 4)] : List Value).set 4 (.int x))) = wX cI q (va_up σ.1 4 x, σ.2) := rfl
theorem wX_i5 (cI : ClassId) (q : Nat → Nat) (σ : St) (x : Int32) : (wX cI q σ).set 2 ((q 2), .inr (1, ([.ref (q 11), .int (σ.1 5)] : List Value).set 1 (.int x))) = wX cI q (va_up σ.1 5 x, σ.2) := rfl
theorem wX_i6 (cI : ClassId) (q : Nat → Nat) (σ : St) (x : Int32) : (wX cI q σ).set 3 ((q 3), .inr (3, ([.ref (q 12), .ref (q 13), .ref (q 14), .ref (q 15), .ref (q 16), .ref (q 17), .ref (q 18), .ref (q 5), .ref (q 6), .int (σ.1 6), .int (σ.1 7)] : List Value).set 9 (.int x))) = wX cI q (va_up σ.1 6 x, σ.2) := rfl
theorem wX_i7 (cI : ClassId) (q : Nat → Nat) (σ : St) (x : Int32) : (wX cI q σ).set 3 ((q 3), .inr (3, ([.ref (q 12), .ref (q 13), .ref (q 14), .ref (q 15), .ref (q 16), .ref (q 17), .ref (q 18), .ref (q 5), .ref (q 6), .int (σ.1 6), .int (σ.1 7)] : List Value).set 10 (.int x))) = wX cI q (va_up σ.1 7 x, σ.2) := rfl
theorem wX_i8 (cI : ClassId) (q : Nat → Nat) (σ : St) (x : Int32) : (wX cI q σ).set 4 ((q 4), .inr (4, ([.ref (q 19), .ref (q 20), .ref (q 21), .int (σ.1 8), .int (σ.1 9), .int (σ.1 10)] : List Value).set 3 (.int x))) = wX cI q (va_up σ.1 8 x, σ.2) := rfl
theorem wX_i9 (cI : ClassId) (q : Nat → Nat) (σ : St) (x : Int32) : (wX cI q σ).set 4 ((q 4), .inr (4, ([.ref (q 19), .ref (q 20), .ref (q 21), .int (σ.1 8), .int (σ.1 9), .int (σ.1 10)] : List Value).set 4 (.int x))) = wX cI q (va_up σ.1 9 x, σ.2) := rfl
theorem wX_i10 (cI : ClassId) (q : Nat → Nat) (σ : St) (x : Int32) : (wX cI q σ).set 4 ((q 4), .inr (4, ([.ref (q 19), .ref (q 20), .ref (q 21), .int (σ.1 8), .int (σ.1 9), .int (σ.1 10)] : List Value).set 5 (.int x))) = wX cI q (va_up σ.1 10 x, σ.2) := rfl
theorem wX_a0 (cI : ClassId) (q : Nat → Nat) (σ : St) (g : Nat → Int32) : (wX cI q σ).set 7 ((q 7), .inl (cI, 120, .inl g)) = wX cI q (σ.1, va_up σ.2 0 g) := rfl
theorem wX_a1 (cI : ClassId) (q : Nat → Nat) (σ : St) (g : Nat → Int32) : (wX cI q σ).set 8 ((q 8), .inl (cI, 120, .inl g)) = wX cI q (σ.1, va_up σ.2 1 g) := rfl
theorem wX_a2 (cI : ClassId) (q : Nat → Nat) (σ : St) (g : Nat → Int32) : (wX cI q σ).set 9 ((q 9), .inl (cI, 120, .inl g)) = wX cI q (σ.1, va_up σ.2 2 g) := rfl
theorem wX_a3 (cI : ClassId) (q : Nat → Nat) (σ : St) (g : Nat → Int32) : (wX cI q σ).set 10 ((q 10), .inl (cI, 120, .inl g)) = wX cI q (σ.1, va_up σ.2 3 g) := rfl
theorem wX_a4 (cI : ClassId) (q : Nat → Nat) (σ : St) (g : Nat → Int32) : (wX cI q σ).set 11 ((q 11), .inl (cI, 100, .inl g)) = wX cI q (σ.1, va_up σ.2 4 g) := rfl
theorem wX_a5 (cI : ClassId) (q : Nat → Nat) (σ : St) (g : Nat → Int32) : (wX cI q σ).set 12 ((q 12), .inl (cI, 60, .inl g)) = wX cI q (σ.1, va_up σ.2 5 g) := rfl
theorem wX_a6 (cI : ClassId) (q : Nat → Nat) (σ : St) (g : Nat → Int32) : (wX cI q σ).set 13 ((q 13), .inl (cI, 60, .inl g)) = wX cI q (σ.1, va_up σ.2 6 g) := rfl
theorem wX_a7 (cI : ClassId) (q : Nat → Nat) (σ : St) (g : Nat → Int32) : (wX cI q σ).set 14 ((q 14), .inl (cI, 60, .inl g)) = wX cI q (σ.1, va_up σ.2 7 g) := rfl
theorem wX_a8 (cI : ClassId) (q : Nat → Nat) (σ : St) (g : Nat → Int32) : (wX cI q σ).set 15 ((q 15), .inl (cI, 60, .inl g)) = wX cI q (σ.1, va_up σ.2 8 g) := rfl
theorem wX_a9 (cI : ClassId) (q : Nat → Nat) (σ : St) (g : Nat → Int32) : (wX cI q σ).set 16 ((q 16), .inl (cI, 60, .inl g)) = wX cI q (σ.1, va_up σ.2 9 g) := rfl
theorem wX_a10 (cI : ClassId) (q : Nat → Nat) (σ : St) (g : Nat → Int32) : (wX cI q σ).set 17 ((q 17), .inl (cI, 8, .inl g)) = wX cI q (σ.1, va_up σ.2 10 g) := rfl
theorem wX_a11 (cI : ClassId) (q : Nat → Nat) (σ : St) (g : Nat → Int32) : (wX cI q σ).set 18 ((q 18), .inl (cI, 8, .inl g)) = wX cI q (σ.1, va_up σ.2 11 g) := rfl
theorem wX_a12 (cI : ClassId) (q : Nat → Nat) (σ : St) (g : Nat → Int32) : (wX cI q σ).set 19 ((q 19), .inl (cI, 8, .inl g)) = wX cI q (σ.1, va_up σ.2 12 g) := rfl
theorem wX_a13 (cI : ClassId) (q : Nat → Nat) (σ : St) (g : Nat → Int32) : (wX cI q σ).set 20 ((q 20), .inl (cI, 120, .inl g)) = wX cI q (σ.1, va_up σ.2 13 g) := rfl
theorem wX_a14 (cI : ClassId) (q : Nat → Nat) (σ : St) (g : Nat → Int32) : (wX cI q σ).set 21 ((q 21), .inl (cI, 120, .inl g)) = wX cI q (σ.1, va_up σ.2 14 g) := rfl
theorem wX_a15 (cI : ClassId) (q : Nat → Nat) (σ : St) (g : Nat → Int32) : (wX cI q σ).set 22 ((q 22), .inl (cI, 64, .inl g)) = wX cI q (σ.1, va_up σ.2 15 g) := rfl
theorem wX_a16 (cI : ClassId) (q : Nat → Nat) (σ : St) (g : Nat → Int32) : (wX cI q σ).set 23 ((q 23), .inl (cI, 64, .inl g)) = wX cI q (σ.1, va_up σ.2 16 g) := rfl
theorem wM_i0 (cI : ClassId) (q : Nat → Nat) (σ : St) (x : Int32) : (wM cI q σ).set 0 ((q 0), .inr (6, ([.int (σ.1 0), .int (σ.1 1), .int (σ.1 2), .int (σ.1 3), .int (σ.1 4), .int (σ.1 5), .int (σ.1 6), .int (σ.1 7), .int (σ.1 8), .ref (q 1), .ref (q 2), .ref (q 3), .ref (q 4), .ref (q 5), .ref (q 6), .ref (q 7), .ref (q 8), .ref (q 9), .ref (q 10), .ref (q 11), .ref (q 12), .ref (q 13), .ref (q 14), .ref (q 15), .ref (q 16), .int (σ.1 9), .int (σ.1 10), .ref (q 17), .ref (q 18)] : List Value).set 0 (.int x))) = wM cI q (va_up σ.1 0 x, σ.2) := rfl
theorem wM_i1 (cI : ClassId) (q : Nat → Nat) (σ : St) (x : Int32) : (wM cI q σ).set 0 ((q 0), .inr (6, ([.int (σ.1 0), .int (σ.1 1), .int (σ.1 2), .int (σ.1 3), .int (σ.1 4), .int (σ.1 5), .int (σ.1 6), .int (σ.1 7), .int (σ.1 8), .ref (q 1), .ref (q 2), .ref (q 3), .ref (q 4), .ref (q 5), .ref (q 6), .ref (q 7), .ref (q 8), .ref (q 9), .ref (q 10), .ref (q 11), .ref (q 12), .ref (q 13), .ref (q 14), .ref (q 15), .ref (q 16), .int (σ.1 9), .int (σ.1 10), .ref (q 17), .ref (q 18)] : List Value).set 1 (.int x))) = wM cI q (va_up σ.1 1 x, σ.2) := rfl
theorem wM_i2 (cI : ClassId) (q : Nat → Nat) (σ : St) (x : Int32) : (wM cI q σ).set 0 ((q 0), .inr (6, ([.int (σ.1 0), .int (σ.1 1), .int (σ.1 2), .int (σ.1 3), .int (σ.1 4), .int (σ.1 5), .int (σ.1 6), .int (σ.1 7), .int (σ.1 8), .ref (q 1), .ref (q 2), .ref (q 3), .ref (q 4), .ref (q 5), .ref (q 6), .ref (q 7), .ref (q 8), .ref (q 9), .ref (q 10), .ref (q 11), .ref (q 12), .ref (q 13), .ref (q 14), .ref (q 15), .ref (q 16), .int (σ.1 9), .int (σ.1 10), .ref (q 17), .ref (q 18)] : List Value).set 2 (.int x))) = wM cI q (va_up σ.1 2 x, σ.2) := rfl
theorem wM_i3 (cI : ClassId) (q : Nat → Nat) (σ : St) (x : Int32) : (wM cI q σ).set 0 ((q 0), .inr (6, ([.int (σ.1 0), .int (σ.1 1), .int (σ.1 2), .int (σ.1 3), .int (σ.1 4), .int (σ.1 5), .int (σ.1 6), .int (σ.1 7), .int (σ.1 8), .ref (q 1), .ref (q 2), .ref (q 3), .ref (q 4), .ref (q 5), .ref (q 6), .ref (q 7), .ref (q 8), .ref (q 9), .ref (q 10), .ref (q 11), .ref (q 12), .ref (q 13), .ref (q 14), .ref (q 15), .ref (q 16), .int (σ.1 9), .int (σ.1 10), .ref (q 17), .ref (q 18)] : List Value).set 3 (.int x))) = wM cI q (va_up σ.1 3 x, σ.2) := rfl
theorem wM_i4 (cI : ClassId) (q : Nat → Nat) (σ : St) (x : Int32) : (wM cI q σ).set 0 ((q 0), .inr (6, ([.int (σ.1 0), .int (σ.1 1), .int (σ.1 2), .int (σ.1 3), .int (σ.1 4), .int (σ.1 5), .int (σ.1 6), .int (σ.1 7), .int (σ.1 8), .ref (q 1), .ref (q 2), .ref (q 3), .ref (q 4), .ref (q 5), .ref (q 6), .ref (q 7), .ref (q 8), .ref (q 9), .ref (q 10), .ref (q 11), .ref (q 12), .ref (q 13), .ref (q 14), .ref (q 15), .ref (q 16), .int (σ.1 9), .int (σ.1 10), .ref (q 17), .ref (q 18)] : List Value).set 4 (.int x))) = wM cI q (va_up σ.1 4 x, σ.2) := rfl
theorem wM_i5 (cI : ClassId) (q : Nat → Nat) (σ : St) (x : Int32) : (wM cI q σ).set 0 ((q 0), .inr (6, ([.int (σ.1 0), .int (σ.1 1), .int (σ.1 2), .int (σ.1 3), .int (σ.1 4), .int (σ.1 5), .int (σ.1 6), .int (σ.1 7), .int (σ.1 8), .ref (q 1), .ref (q 2), .ref (q 3), .ref (q 4), .ref (q 5), .ref (q 6), .ref (q 7), .ref (q 8), .ref (q 9), .ref (q 10), .ref (q 11), .ref (q 12), .ref (q 13), .ref (q 14), .ref (q 15), .ref (q 16), .int (σ.1 9), .int (σ.1 10), .ref (q 17), .ref (q 18)] : List Value).set 5 (.int x))) = wM cI q (va_up σ.1 5 x, σ.2) := rfl
theorem wM_i6 (cI : ClassId) (q : Nat → Nat) (σ : St) (x : Int32) : (wM cI q σ).set 0 ((q 0), .inr (6, ([.int (σ.1 0), .int (σ.1 1), .int (σ.1 2), .int (σ.1 3), .int (σ.1 4), .int (σ.1 5), .int (σ.1 6), .int (σ.1 7), .int (σ.1 8), .ref (q 1), .ref (q 2), .ref (q 3), .ref (q 4), .ref (q 5), .ref (q 6), .ref (q 7), .ref (q 8), .ref (q 9), .ref (q 10), .ref (q 11), .ref (q 12), .ref (q 13), .ref (q 14), .ref (q 15), .ref (q 16), .int (σ.1 9), .int (σ.1 10), .ref (q 17), .ref (q 18)] : List Value).set 6 (.int x))) = wM cI q (va_up σ.1 6 x, σ.2) := rfl
theorem wM_i7 (cI : ClassId) (q : Nat → Nat) (σ : St) (x : Int32) : (wM cI q σ).set 0 ((q 0), .inr (6, ([.int (σ.1 0), .int (σ.1 1), .int (σ.1 2), .int (σ.1 3), .int (σ.1 4), .int (σ.1 5), .int (σ.1 6), .int (σ.1 7), .int (σ.1 8), .ref (q 1), .ref (q 2), .ref (q 3), .ref (q 4), .ref (q 5), .ref (q 6), .ref (q 7), .ref (q 8), .ref (q 9), .ref (q 10), .ref (q 11), .ref (q 12), .ref (q 13), .ref (q 14), .ref (q 15), .ref (q 16), .int (σ.1 9), .int (σ.1 10), .ref (q 17), .ref (q 18)] : List Value).set 7 (.int x))) = wM cI q (va_up σ.1 7 x, σ.2) := rfl
theorem wM_i8 (cI : ClassId) (q : Nat → Nat) (σ : St) (x : Int32) : (wM cI q σ).set 0 ((q 0), .inr (6, ([.int (σ.1 0), .int (σ.1 1), .int (σ.1 2), .int (σ.1 3), .int (σ.1 4), .int (σ.1 5), .int (σ.1 6), .int (σ.1 7), .int (σ.1 8), .ref (q 1), .ref (q 2), .ref (q 3), .ref (q 4), .ref (q 5), .ref (q 6), .ref (q 7), .ref (q 8), .ref (q 9), .ref (q 10), .ref (q 11), .ref (q 12), .ref (q 13), .ref (q 14), .ref (q 15), .ref (q 16), .int (σ.1 9), .int (σ.1 10), .ref (q 17), .ref (q 18)] : List Value).set 8 (.int x))) = wM cI q (va_up σ.1 8 x, σ.2) := rfl
theorem wM_i9 (cI : ClassId) (q : Nat → Nat) (σ : St) (x : Int32) : (wM cI q σ).set 0 ((q 0), .inr (6, ([.int (σ.1 0), .int (σ.1 1), .int (σ.1 2), .int (σ.1 3), .int (σ.1 4), .int (σ.1 5), .int (σ.1 6), .int (σ.1 7), .int (σ.1 8), .ref (q 1), .ref (q 2), .ref (q 3), .ref (q 4), .ref (q 5), .ref (q 6), .ref (q 7), .ref (q 8), .ref (q 9), .ref (q 10), .ref (q 11), .ref (q 12), .ref (q 13), .ref (q 14), .ref (q 15), .ref (q 16), .int (σ.1 9), .int (σ.1 10), .ref (q 17), .ref (q 18)] : List Value).set 25 (.int x))) = wM cI q (va_up σ.1 9 x, σ.2) := rfl
theorem wM_i10 (cI : ClassId) (q : Nat → Nat) (σ : St) (x : Int32) : (wM cI q σ).set 0 ((q 0), .inr (6, ([.int (σ.1 0), .int (σ.1 1), .int (σ.1 2), .int (σ.1 3), .int (σ.1 4), .int (σ.1 5), .int (σ.1 6), .int (σ.1 7), .int (σ.1 8), .ref (q 1), .ref (q 2), .ref (q 3), .ref (q 4), .ref (q 5), .ref (q 6), .ref (q 7), .ref (q 8), .ref (q 9), .ref (q 10), .ref (q 11), .ref (q 12), .ref (q 13), .ref (q 14), .ref (q 15), .ref (q 16), .int (σ.1 9), .int (σ.1 10), .ref (q 17), .ref (q 18)] : List Value).set 26 (.int x))) = wM cI q (va_up σ.1 10 x, σ.2) := rfl
theorem wM_a0 (cI : ClassId) (q : Nat → Nat) (σ : St) (g : Nat → Int32) : (wM cI q σ).set 1 ((q 1), .inl (cI, 100, .inl g)) = wM cI q (σ.1, va_up σ.2 0 g) := rfl
theorem wM_a1 (cI : ClassId) (q : Nat → Nat) (σ : St) (g : Nat → Int32) : (wM cI q σ).set 2 ((q 2), .inl (cI, 120, .inl g)) = wM cI q (σ.1, va_up σ.2 1 g) := rfl
theorem wM_a2 (cI : ClassId) (q : Nat → Nat) (σ : St) (g : Nat → Int32) : (wM cI q σ).set 3 ((q 3), .inl (cI, 120, .inl g)) = wM cI q (σ.1, va_up σ.2 2 g) := rfl
theorem wM_a3 (cI : ClassId) (q : Nat → Nat) (σ : St) (g : Nat → Int32) : (wM cI q σ).set 4 ((q 4), .inl (cI, 120, .inl g)) = wM cI q (σ.1, va_up σ.2 3 g) := rfl
theorem wM_a4 (cI : ClassId) (q : Nat → Nat) (σ : St) (g : Nat → Int32) : (wM cI q σ).set 5 ((q 5), .inl (cI, 120, .inl g)) = wM cI q (σ.1, va_up σ.2 4 g) := rfl
theorem wM_a5 (cI : ClassId) (q : Nat → Nat) (σ : St) (g : Nat → Int32) : (wM cI q σ).set 6 ((q 6), .inl (cI, 61, .inl g)) = wM cI q (σ.1, va_up σ.2 5 g) := rfl
theorem wM_a6 (cI : ClassId) (q : Nat → Nat) (σ : St) (g : Nat → Int32) : (wM cI q σ).set 7 ((q 7), .inl (cI, 61, .inl g)) = wM cI q (σ.1, va_up σ.2 6 g) := rfl
theorem wM_a7 (cI : ClassId) (q : Nat → Nat) (σ : St) (g : Nat → Int32) : (wM cI q σ).set 8 ((q 8), .inl (cI, 61, .inl g)) = wM cI q (σ.1, va_up σ.2 7 g) := rfl
theorem wM_a8 (cI : ClassId) (q : Nat → Nat) (σ : St) (g : Nat → Int32) : (wM cI q σ).set 9 ((q 9), .inl (cI, 61, .inl g)) = wM cI q (σ.1, va_up σ.2 8 g) := rfl
theorem wM_a9 (cI : ClassId) (q : Nat → Nat) (σ : St) (g : Nat → Int32) : (wM cI q σ).set 10 ((q 10), .inl (cI, 61, .inl g)) = wM cI q (σ.1, va_up σ.2 9 g) := rfl
theorem wM_a10 (cI : ClassId) (q : Nat → Nat) (σ : St) (g : Nat → Int32) : (wM cI q σ).set 11 ((q 11), .inl (cI, 64, .inl g)) = wM cI q (σ.1, va_up σ.2 10 g) := rfl
theorem wM_a11 (cI : ClassId) (q : Nat → Nat) (σ : St) (g : Nat → Int32) : (wM cI q σ).set 12 ((q 12), .inl (cI, 64, .inl g)) = wM cI q (σ.1, va_up σ.2 11 g) := rfl
theorem wM_a12 (cI : ClassId) (q : Nat → Nat) (σ : St) (g : Nat → Int32) : (wM cI q σ).set 13 ((q 13), .inl (cI, 64, .inl g)) = wM cI q (σ.1, va_up σ.2 12 g) := rfl
theorem wM_a13 (cI : ClassId) (q : Nat → Nat) (σ : St) (g : Nat → Int32) : (wM cI q σ).set 14 ((q 14), .inl (cI, 64, .inl g)) = wM cI q (σ.1, va_up σ.2 13 g) := rfl
theorem wM_a14 (cI : ClassId) (q : Nat → Nat) (σ : St) (g : Nat → Int32) : (wM cI q σ).set 15 ((q 15), .inl (cI, 64, .inl g)) = wM cI q (σ.1, va_up σ.2 14 g) := rfl
theorem wM_a15 (cI : ClassId) (q : Nat → Nat) (σ : St) (g : Nat → Int32) : (wM cI q σ).set 16 ((q 16), .inl (cI, 64, .inl g)) = wM cI q (σ.1, va_up σ.2 15 g) := rfl
theorem wM_a16 (cI : ClassId) (q : Nat → Nat) (σ : St) (g : Nat → Int32) : (wM cI q σ).set 17 ((q 17), .inl (cI, 8, .inl g)) = wM cI q (σ.1, va_up σ.2 16 g) := rfl
theorem wM_a17 (cI : ClassId) (q : Nat → Nat) (σ : St) (g : Nat → Int32) : (wM cI q σ).set 18 ((q 18), .inl (cI, 120, .inl g)) = wM cI q (σ.1, va_up σ.2 17 g) := rfl
theorem sw_3 (x : Int32) : (x.toInt < 0 ∨ 2 < x.toInt) ∨ x = 0 ∨ x = 1 ∨ x = 2 := by
  by_cases h : x.toInt < 0 ∨ 2 < x.toInt
  · exact Or.inl h
  · refine Or.inr ?_
    have h3 : x.toInt = 0 ∨ x.toInt = 1 ∨ x.toInt = 2 := by omega
    rcases h3 with h | h | h
    · exact Or.inl (Int32.toInt_inj.mp h)
    · exact Or.inr (Or.inl (Int32.toInt_inj.mp h))
    · exact Or.inr (Or.inr (Int32.toInt_inj.mp h))
theorem sw_5 (x : Int32) : (x.toInt < 0 ∨ 4 < x.toInt) ∨ x = 0 ∨ x = 1 ∨ x = 2 ∨ x = 3 ∨ x = 4 := by
  by_cases h : x.toInt < 0 ∨ 4 < x.toInt
  · exact Or.inl h
  · refine Or.inr ?_
    have h3 : x.toInt = 0 ∨ x.toInt = 1 ∨ x.toInt = 2 ∨ x.toInt = 3 ∨ x.toInt = 4 := by omega
    rcases h3 with h | h | h | h | h
    · exact Or.inl (Int32.toInt_inj.mp h)
    · exact Or.inr (Or.inl (Int32.toInt_inj.mp h))
    · exact Or.inr (Or.inr (Or.inl (Int32.toInt_inj.mp h)))
    · exact Or.inr (Or.inr (Or.inr (Or.inl (Int32.toInt_inj.mp h))))
    · exact Or.inr (Or.inr (Or.inr (Or.inr (Int32.toInt_inj.mp h))))
theorem sw_l (x : Int32) : x = 0 ∨ x = 1 ∨ (¬ x = 0 ∧ ¬ x = 1) := by
  by_cases h : x = 0
  · exact Or.inl h
  · by_cases h1 : x = 1
    · exact Or.inr (Or.inl h1)
    · exact Or.inr (Or.inr ⟨h, h1⟩)
theorem sw_lo {x : Int32} (h : ¬ x = 0 ∧ ¬ x = 1) : Op.lookupswitch.offset [(0, 26), (1, 111)] 165 x.toInt = 165 := by
  have h0 : ¬ x.toInt = 0 := fun e => h.1 (Int32.toInt_inj.mp e)
  have h1 : ¬ x.toInt = 1 := fun e => h.2 (Int32.toInt_inj.mp e)
  simp [Op.lookupswitch.offset, h0, h1, eq_comm]
/-! PictureHeap.refuse(I)I (X5_refuse) -/
def w_X5_refuse (σ : St) (x1 : Int32) (post : Int32 → St → Prop) : Prop := post (-1) ((va_up σ.1 2 x1), σ.2)

/-! PictureHeap.camera()I (X5_camera) -/
def w_X5_camera (σ : St) (post : Int32 → St → Prop) : Prop := (((σ.1 0) < 8 → post (((σ.1 0) + 1) - 1) ((va_up (va_up σ.1 2 0) 0 ((σ.1 0) + 1)), σ.2)) ∧ (¬ (σ.1 0) < 8 → w_X5_refuse σ 3 (fun r_2 u_3 => post r_2 u_3)))

/-! PictureHeap.place()I (X5_place) -/
def w_X5_place (σ : St) (post : Int32 → St → Prop) : Prop := (((σ.1 5) < 10 → post (((σ.1 5) + 1) - 1) ((va_up (va_up σ.1 2 0) 5 ((σ.1 5) + 1)), σ.2)) ∧ (¬ (σ.1 5) < 10 → w_X5_refuse σ 3 (fun r_2 u_3 => post r_2 u_3)))

/-! PictureHeap$Atlas.has(I)Z (X1_has) -/
def w_X1_has (σ : St) (x1 : Int32) (post : Int32 → St → Prop) : Prop := ((x1 < 0 → post 0 σ) ∧ (¬ x1 < 0 → (((σ.1 5) ≤ x1 → post 0 σ) ∧ (¬ (σ.1 5) ≤ x1 → post 1 σ))))

/-! PictureHeap.within(III)Z (X5_within) -/
def w_X5_within (x0 : Int32) (x1 : Int32) (x2 : Int32) (post : Int32 → Unit → Prop) : Prop := ((x0 < x1 → post 0 ()) ∧ (¬ x0 < x1 → ((x2 < x0 → post 0 ()) ∧ (¬ x2 < x0 → post 1 ()))))

/-! PictureHeap$Atlas.tell(III)V (X1_tell) -/
def w_X1_tell (σ : St) (x1 : Int32) (x2 : Int32) (x3 : Int32) (post : St → Prop) : Prop := (vp_in ((x1 * 10) + x2) 100 ∧ (vp_in ((x2 * 10) + x1) 100 ∧ post (σ.1, (va_up (va_up σ.2 4 (upd (σ.2 4) (Int32.toNatClampNeg ((x1 * 10) + x2)) x3)) 4 (upd ((upd (σ.2 4) (Int32.toNatClampNeg ((x1 * 10) + x2)) x3)) (Int32.toNatClampNeg ((x2 * 10) + x1)) x3)))))

/-! PictureHeap.way(III)Z (X5_way) -/
def w_X5_way_J69 (post : Int32 → St → Prop) (s_5 : St) : Prop := ((¬ (s_5.1 2) = 0 → post 0 s_5) ∧ ((s_5.1 2) = 0 → post 1 s_5))
def w_X5_way_J27 (post : Int32 → St → Prop) (s_4 : St) : Prop := w_X5_way_J69 post ((va_up s_4.1 2 1), s_4.2)
def w_X5_way (σ : St) (x1 : Int32) (x2 : Int32) (x3 : Int32) (post : Int32 → St → Prop) : Prop := w_X1_has σ x1 (fun r_1 u_2 => ((r_1 = 0 → w_X5_way_J27 post u_2) ∧ (¬ r_1 = 0 → w_X1_has u_2 x2 (fun r_7 u_8 => ((r_7 = 0 → w_X5_way_J27 post u_8) ∧ (¬ r_7 = 0 → ((¬ x1 = x2 → w_X5_within x3 0 10000 (fun r_11 _ => ((¬ r_11 = 0 → w_X1_tell ((va_up u_8.1 2 0), u_8.2) x1 x2 x3 (fun u_15 => w_X5_way_J69 post u_15)) ∧ (r_11 = 0 → w_X5_way_J69 post ((va_up u_8.1 2 2), u_8.2))))) ∧ (x1 = x2 → w_X5_way_J27 post u_8))))))))

/-! PictureHeap.hasCamera(I)Z (X5_hasCamera) -/
def w_X5_hasCamera (σ : St) (x1 : Int32) (post : Int32 → St → Prop) : Prop := ((x1 < 0 → post 0 σ) ∧ (¬ x1 < 0 → (((σ.1 0) ≤ x1 → post 0 σ) ∧ (¬ (σ.1 0) ≤ x1 → post 1 σ))))

/-! PictureHeap$Album.take(IIII)I (X0_take) -/
def w_X0_take (σ : St) (x1 : Int32) (x2 : Int32) (x3 : Int32) (x4 : Int32) (post : Int32 → St → Prop) : Prop := (vp_in (σ.1 4) 120 ∧ (vp_in (σ.1 4) 120 ∧ (vp_in (σ.1 4) 120 ∧ (vp_in (σ.1 4) 120 ∧ post (σ.1 4) ((va_up σ.1 4 ((σ.1 4) + 1)), (va_up (va_up (va_up (va_up σ.2 0 (upd (σ.2 0) (Int32.toNatClampNeg (σ.1 4)) x1)) 1 (upd (σ.2 1) (Int32.toNatClampNeg (σ.1 4)) x2)) 2 (upd (σ.2 2) (Int32.toNatClampNeg (σ.1 4)) x3)) 3 (upd (σ.2 3) (Int32.toNatClampNeg (σ.1 4)) x4)))))))

/-! PictureHeap.picture(IIII)I (X5_picture) -/
def w_X5_picture_J32 (post : Int32 → St → Prop) (x1_7 : Int32) (x2_8 : Int32) (x3_9 : Int32) (x4_10 : Int32) (s_11 : St) : Prop := w_X5_within x2_8 0 100000 (fun r_12 _ => ((r_12 = 0 → w_X5_refuse s_11 2 (fun r_15 u_16 => post r_15 u_16)) ∧ (¬ r_12 = 0 → w_X5_within x3_9 0 65535 (fun r_17 _ => ((¬ r_17 = 0 → (((s_11.1 4) < 120 → w_X0_take ((va_up s_11.1 2 0), s_11.2) x1_7 x2_8 x3_9 x4_10 (fun r_21 u_22 => post r_21 u_22)) ∧ (¬ (s_11.1 4) < 120 → w_X5_refuse s_11 3 (fun r_23 u_24 => post r_23 u_24)))) ∧ (r_17 = 0 → w_X5_refuse s_11 2 (fun r_25 u_26 => post r_25 u_26)))))))
def w_X5_picture (σ : St) (x1 : Int32) (x2 : Int32) (x3 : Int32) (x4 : Int32) (post : Int32 → St → Prop) : Prop := w_X5_hasCamera σ x1 (fun r_1 u_2 => ((r_1 = 0 → w_X5_refuse u_2 1 (fun r_4 u_5 => post r_4 u_5)) ∧ (¬ r_1 = 0 → ((x4 = (-1) → w_X5_picture_J32 post x1 x2 x3 x4 u_2) ∧ (¬ x4 = (-1) → w_X1_has u_2 x4 (fun r_27 u_28 => ((¬ r_27 = 0 → w_X5_picture_J32 post x1 x2 x3 x4 u_28) ∧ (r_27 = 0 → w_X5_refuse u_28 1 (fun r_30 u_31 => post r_30 u_31)))))))))

/-! PictureHeap.gap(I)Z (X5_gap) -/
def w_X5_gap (σ : St) (x1 : Int32) (post : Int32 → St → Prop) : Prop := w_X5_within x1 1 10000 (fun r_1 _ => ((¬ r_1 = 0 → post 1 ((va_up (va_up σ.1 2 0) 1 x1), σ.2)) ∧ (r_1 = 0 → post 0 ((va_up σ.1 2 2), σ.2))))

/-! PictureHeap$Album.has(I)Z (X0_has) -/
def w_X0_has (σ : St) (x1 : Int32) (post : Int32 → St → Prop) : Prop := ((x1 < 0 → post 0 σ) ∧ (¬ x1 < 0 → (((σ.1 4) ≤ x1 → post 0 σ) ∧ (¬ (σ.1 4) ≤ x1 → post 1 σ))))

/-! PictureHeap$Offsets.least(II)I (X2_least) -/
def w_X2_least (f : (Nat → Int32)) (x1 : Int32) (x2 : Int32) (post : Int32 → (Nat → Int32) → Prop) : Prop := (vp_in ((x2 * 8) + x1) 64 ∧ post (-(f (Int32.toNatClampNeg ((x2 * 8) + x1)))) f)

/-! PictureHeap$Offsets.most(II)I (X2_most) -/
def w_X2_most (f : (Nat → Int32)) (x1 : Int32) (x2 : Int32) (post : Int32 → (Nat → Int32) → Prop) : Prop := (vp_in ((x1 * 8) + x2) 64 ∧ post (f (Int32.toNatClampNeg ((x1 * 8) + x2))) f)

/-! PictureHeap$Offsets.admits(IIII)Z (X2_admits) -/
def w_X2_admits (f : (Nat → Int32)) (x1 : Int32) (x2 : Int32) (x3 : Int32) (x4 : Int32) (post : Int32 → (Nat → Int32) → Prop) : Prop := w_X2_least f x1 x2 (fun r_1 u_2 => ((x4 < r_1 → post 0 u_2) ∧ (¬ x4 < r_1 → w_X2_most u_2 x1 x2 (fun r_4 u_5 => ((r_4 < x3 → post 0 u_5) ∧ (¬ r_4 < x3 → post 1 u_5))))))

/-! PictureHeap$Offsets.lower(III)V (X2_lower) -/
def w_X2_lower_L29 (x1_7 : Int32) (x2_8 : Int32) (x3_9 : Int32) (x4_10 : Int32) (x5_11 : Int32) (post : (Nat → Int32) → Prop) (K : Int32 → (Nat → Int32) → Prop) : Nat → Int32 → (Nat → Int32) → Prop
  | 0, _, _ => False
  | n + 1, x6_12, s_13 => ((8 ≤ x6_12 → K x6_12 s_13) ∧ (¬ 8 ≤ x6_12 → (vp_in ((x2_8 * 8) + x6_12) 64 ∧ (vp_in ((x4_10 * 8) + x6_12) 64 ∧ (((s_13 (Int32.toNatClampNeg ((x4_10 * 8) + x6_12))) ≤ (x5_11 + (s_13 (Int32.toNatClampNeg ((x2_8 * 8) + x6_12)))) → w_X2_lower_L29 x1_7 x2_8 x3_9 x4_10 x5_11 post K n (x6_12 + 1) s_13) ∧ (¬ (s_13 (Int32.toNatClampNeg ((x4_10 * 8) + x6_12))) ≤ (x5_11 + (s_13 (Int32.toNatClampNeg ((x2_8 * 8) + x6_12)))) → (vp_in ((x4_10 * 8) + x6_12) 64 ∧ w_X2_lower_L29 x1_7 x2_8 x3_9 x4_10 x5_11 post K n (x6_12 + 1) (upd (s_13) (Int32.toNatClampNeg ((x4_10 * 8) + x6_12)) (x5_11 + (s_13 (Int32.toNatClampNeg ((x2_8 * 8) + x6_12))))))))))))
def w_X2_lower_L3 (x1_1 : Int32) (x2_2 : Int32) (x3_3 : Int32) (post : (Nat → Int32) → Prop) (K : Int32 → (Nat → Int32) → Prop) : Nat → Int32 → (Nat → Int32) → Prop
  | 0, _, _ => False
  | n + 1, x4_4, s_5 => ((8 ≤ x4_4 → K x4_4 s_5) ∧ (¬ 8 ≤ x4_4 → (vp_in ((x4_4 * 8) + x1_1) 64 ∧ (∃ n_18, w_X2_lower_L29 x1_1 x2_2 x3_3 x4_4 ((s_5 (Int32.toNatClampNeg ((x4_4 * 8) + x1_1))) + x3_3) post (fun x6_16 s_17 => w_X2_lower_L3 x1_1 x2_2 x3_3 post K n (x4_4 + 1) s_17) n_18 0 s_5))))
def w_X2_lower (f : (Nat → Int32)) (x1 : Int32) (x2 : Int32) (x3 : Int32) (post : (Nat → Int32) → Prop) : Prop := (∃ n_21, w_X2_lower_L3 x1 x2 x3 post (fun x4_19 s_20 => post s_20) n_21 0 f)

/-! PictureHeap$Offsets.tighten(IIII)V (X2_tighten) -/
def w_X2_tighten (f : (Nat → Int32)) (x1 : Int32) (x2 : Int32) (x3 : Int32) (x4 : Int32) (post : (Nat → Int32) → Prop) : Prop := w_X2_lower f x1 x2 x4 (fun u_2 => w_X2_lower u_2 x2 x1 (-x3) (fun u_4 => post u_4))

/-! PictureHeap$Ties.take(IIII)I (X3_take) -/
def w_X3_take (σ : St) (x1 : Int32) (x2 : Int32) (x3 : Int32) (x4 : Int32) (post : Int32 → St → Prop) : Prop := (vp_in (σ.1 6) 60 ∧ (vp_in (σ.1 6) 60 ∧ (vp_in (σ.1 6) 60 ∧ (vp_in (σ.1 6) 60 ∧ (vp_in (σ.1 6) 60 ∧ w_X2_tighten (σ.2 16) x1 x2 x3 x4 (fun u_2 => post (((σ.1 7) + 1) - 1) ((va_up (va_up σ.1 6 ((σ.1 6) + 1)) 7 ((σ.1 7) + 1)), (va_up (va_up (va_up (va_up (va_up (va_up σ.2 5 (upd (σ.2 5) (Int32.toNatClampNeg (σ.1 6)) (σ.1 7))) 6 (upd (σ.2 6) (Int32.toNatClampNeg (σ.1 6)) x1)) 7 (upd (σ.2 7) (Int32.toNatClampNeg (σ.1 6)) x2)) 8 (upd (σ.2 8) (Int32.toNatClampNeg (σ.1 6)) x3)) 9 (upd (σ.2 9) (Int32.toNatClampNeg (σ.1 6)) x4)) 16 u_2))))))))

/-! java/util/Arrays.fill([II)V (J7_fill_53178) -/
def w_J7_fill_53178_L5 (x1_1 : Int32) (x3_2 : Int32) (post : (Nat → Int32) → Prop) (K : Int32 → (Nat → Int32) → Prop) : Nat → Int32 → (Nat → Int32) → Prop
  | 0, _, _ => False
  | n + 1, x2_3, s_4 => ((x3_2 ≤ x2_3 → K x2_3 s_4) ∧ (¬ x3_2 ≤ x2_3 → (vp_in x2_3 8 ∧ w_J7_fill_53178_L5 x1_1 x3_2 post K n (x2_3 + 1) (upd (s_4) (Int32.toNatClampNeg x2_3) x1_1))))
def w_J7_fill_53178 (f : (Nat → Int32)) (x1 : Int32) (post : (Nat → Int32) → Prop) : Prop := (∃ n_8, w_J7_fill_53178_L5 x1 8 post (fun x2_6 s_7 => post s_7) n_8 0 f)

/-! PictureHeap$Ties.reachByBounds([I)V (X3_reachByBounds) -/
def w_X3_reachByBounds_L2 (post : (Nat → Int32) → Prop) (K : Int32 → (Nat → Int32) → Prop) : Nat → Int32 → (Nat → Int32) → Prop
  | 0, _, _ => False
  | n + 1, x1_1, s_2 => ((8 ≤ x1_1 → K x1_1 s_2) ∧ (¬ 8 ≤ x1_1 → (vp_in 0 8 ∧ (vp_in x1_1 8 ∧ (vp_in 0 8 ∧ w_X3_reachByBounds_L2 post K n (x1_1 + 1) (upd (s_2) (Int32.toNatClampNeg 0) (if ((s_2 (Int32.toNatClampNeg x1_1)) + 200000) < (s_2 (Int32.toNatClampNeg 0)) then ((s_2 (Int32.toNatClampNeg x1_1)) + 200000) else (s_2 (Int32.toNatClampNeg 0)))))))))
def w_X3_reachByBounds_L31 (post : (Nat → Int32) → Prop) (K : Int32 → (Nat → Int32) → Prop) : Nat → Int32 → (Nat → Int32) → Prop
  | 0, _, _ => False
  | n + 1, x1_6, s_7 => ((8 ≤ x1_6 → K x1_6 s_7) ∧ (¬ 8 ≤ x1_6 → (vp_in x1_6 8 ∧ (vp_in 0 8 ∧ (vp_in x1_6 8 ∧ w_X3_reachByBounds_L31 post K n (x1_6 + 1) (upd (s_7) (Int32.toNatClampNeg x1_6) (if ((s_7 (Int32.toNatClampNeg 0)) + 200000) < (s_7 (Int32.toNatClampNeg x1_6)) then ((s_7 (Int32.toNatClampNeg 0)) + 200000) else (s_7 (Int32.toNatClampNeg x1_6)))))))))
def w_X3_reachByBounds (f : (Nat → Int32)) (post : (Nat → Int32) → Prop) : Prop := (∃ n_12, w_X3_reachByBounds_L2 post (fun x1_4 s_5 => (∃ n_11, w_X3_reachByBounds_L31 post (fun x1_9 s_10 => post s_10) n_11 1 s_5)) n_12 1 f)

/-! PictureHeap$Ties.reachByOneTieMore()V (X3_reachByOneTieMore) -/
def w_X3_reachByOneTieMore_L17 (post : St → Prop) (K : Int32 → St → Prop) : Nat → Int32 → St → Prop
  | 0, _, _ => False
  | n + 1, x1_1, s_2 => (((s_2.1 6) ≤ x1_1 → K x1_1 s_2) ∧ (¬ (s_2.1 6) ≤ x1_1 → (vp_in x1_1 60 ∧ (vp_in x1_1 60 ∧ (vp_in (s_2.2 7 (Int32.toNatClampNeg x1_1)) 8 ∧ (vp_in (s_2.2 6 (Int32.toNatClampNeg x1_1)) 8 ∧ (vp_in x1_1 60 ∧ (vp_in (s_2.2 7 (Int32.toNatClampNeg x1_1)) 8 ∧ (vp_in (s_2.2 6 (Int32.toNatClampNeg x1_1)) 8 ∧ (vp_in (s_2.2 7 (Int32.toNatClampNeg x1_1)) 8 ∧ (vp_in x1_1 60 ∧ (vp_in (s_2.2 6 (Int32.toNatClampNeg x1_1)) 8 ∧ w_X3_reachByOneTieMore_L17 post K n (x1_1 + 1) (s_2.1, (va_up (va_up s_2.2 11 (upd (s_2.2 11) (Int32.toNatClampNeg (s_2.2 7 (Int32.toNatClampNeg x1_1))) (if ((s_2.2 10 (Int32.toNatClampNeg (s_2.2 6 (Int32.toNatClampNeg x1_1)))) + (s_2.2 9 (Int32.toNatClampNeg x1_1))) < (s_2.2 11 (Int32.toNatClampNeg (s_2.2 7 (Int32.toNatClampNeg x1_1)))) then ((s_2.2 10 (Int32.toNatClampNeg (s_2.2 6 (Int32.toNatClampNeg x1_1)))) + (s_2.2 9 (Int32.toNatClampNeg x1_1))) else (s_2.2 11 (Int32.toNatClampNeg (s_2.2 7 (Int32.toNatClampNeg x1_1))))))) 11 (upd ((upd (s_2.2 11) (Int32.toNatClampNeg (s_2.2 7 (Int32.toNatClampNeg x1_1))) (if ((s_2.2 10 (Int32.toNatClampNeg (s_2.2 6 (Int32.toNatClampNeg x1_1)))) + (s_2.2 9 (Int32.toNatClampNeg x1_1))) < (s_2.2 11 (Int32.toNatClampNeg (s_2.2 7 (Int32.toNatClampNeg x1_1)))) then ((s_2.2 10 (Int32.toNatClampNeg (s_2.2 6 (Int32.toNatClampNeg x1_1)))) + (s_2.2 9 (Int32.toNatClampNeg x1_1))) else (s_2.2 11 (Int32.toNatClampNeg (s_2.2 7 (Int32.toNatClampNeg x1_1))))))) (Int32.toNatClampNeg (s_2.2 6 (Int32.toNatClampNeg x1_1))) (if ((s_2.2 10 (Int32.toNatClampNeg (s_2.2 7 (Int32.toNatClampNeg x1_1)))) - (s_2.2 8 (Int32.toNatClampNeg x1_1))) < ((upd (s_2.2 11) (Int32.toNatClampNeg (s_2.2 7 (Int32.toNatClampNeg x1_1))) (if ((s_2.2 10 (Int32.toNatClampNeg (s_2.2 6 (Int32.toNatClampNeg x1_1)))) + (s_2.2 9 (Int32.toNatClampNeg x1_1))) < (s_2.2 11 (Int32.toNatClampNeg (s_2.2 7 (Int32.toNatClampNeg x1_1)))) then ((s_2.2 10 (Int32.toNatClampNeg (s_2.2 6 (Int32.toNatClampNeg x1_1)))) + (s_2.2 9 (Int32.toNatClampNeg x1_1))) else (s_2.2 11 (Int32.toNatClampNeg (s_2.2 7 (Int32.toNatClampNeg x1_1)))))) (Int32.toNatClampNeg (s_2.2 6 (Int32.toNatClampNeg x1_1)))) then ((s_2.2 10 (Int32.toNatClampNeg (s_2.2 7 (Int32.toNatClampNeg x1_1)))) - (s_2.2 8 (Int32.toNatClampNeg x1_1))) else ((upd (s_2.2 11) (Int32.toNatClampNeg (s_2.2 7 (Int32.toNatClampNeg x1_1))) (if ((s_2.2 10 (Int32.toNatClampNeg (s_2.2 6 (Int32.toNatClampNeg x1_1)))) + (s_2.2 9 (Int32.toNatClampNeg x1_1))) < (s_2.2 11 (Int32.toNatClampNeg (s_2.2 7 (Int32.toNatClampNeg x1_1)))) then ((s_2.2 10 (Int32.toNatClampNeg (s_2.2 6 (Int32.toNatClampNeg x1_1)))) + (s_2.2 9 (Int32.toNatClampNeg x1_1))) else (s_2.2 11 (Int32.toNatClampNeg (s_2.2 7 (Int32.toNatClampNeg x1_1)))))) (Int32.toNatClampNeg (s_2.2 6 (Int32.toNatClampNeg x1_1))))))))))))))))))))
def w_X3_reachByOneTieMore (σ : St) (post : St → Prop) : Prop := (∃ n_8, w_X3_reachByOneTieMore_L17 post (fun x1_4 s_5 => w_X3_reachByBounds (s_5.2 11) (fun u_7 => post (s_5.1, (va_up (va_up s_5.2 11 u_7) 10 (va_cpy (u_7) (s_5.2 10) (Int32.toNatClampNeg 0) (Int32.toNatClampNeg 0) (Int32.toNatClampNeg 8)))))) n_8 0 (σ.1, (va_up σ.2 11 (va_cpy (σ.2 10) (σ.2 11) (Int32.toNatClampNeg 0) (Int32.toNatClampNeg 0) (Int32.toNatClampNeg 8)))))

/-! PictureHeap$Ties.fewestAgainstLimit(III)I (X3_fewestAgainstLimit) -/
def w_X3_fewestAgainstLimit_L26 (x1_5 : Int32) (x3_6 : Int32) (post : Int32 → St → Prop) (K : Int32 → St → Prop) : Nat → Int32 → St → Prop
  | 0, _, _ => False
  | n + 1, x4_7, s_8 => ((8 ≤ x4_7 → K x4_7 s_8) ∧ (¬ 8 ≤ x4_7 → (vp_in x1_5 8 ∧ ((0 ≤ ((s_8.2 10 (Int32.toNatClampNeg x1_5)) + x3_6) → w_X3_reachByOneTieMore s_8 (fun u_12 => w_X3_fewestAgainstLimit_L26 x1_5 x3_6 post K n (x4_7 + 1) u_12)) ∧ (¬ 0 ≤ ((s_8.2 10 (Int32.toNatClampNeg x1_5)) + x3_6) → post x4_7 s_8)))))
def w_X3_fewestAgainstLimit (σ : St) (x1 : Int32) (x2 : Int32) (x3 : Int32) (post : Int32 → St → Prop) : Prop := w_J7_fill_53178 (σ.2 10) 1000000 (fun u_2 => (vp_in x2 8 ∧ w_X3_reachByBounds ((upd (u_2) (Int32.toNatClampNeg x2) 0)) (fun u_4 => (∃ n_15, w_X3_fewestAgainstLimit_L26 x1 x3 post (fun x4_13 s_14 => post 8 s_14) n_15 0 (σ.1, (va_up (va_up (va_up σ.2 10 u_2) 10 (upd (u_2) (Int32.toNatClampNeg x2) 0)) 10 u_4))))))

/-! PictureHeap$Ties.fewestAgainst(IIII)I (X3_fewestAgainst) -/
def w_X3_fewestAgainst (σ : St) (x1 : Int32) (x2 : Int32) (x3 : Int32) (x4 : Int32) (post : Int32 → St → Prop) : Prop := w_X3_fewestAgainstLimit σ x1 x2 x4 (fun r_1 u_2 => w_X3_fewestAgainstLimit u_2 x2 x1 (-x3) (fun r_3 u_4 => post (if r_3 < r_1 then r_3 else r_1) u_4))

/-! PictureHeap.tie(IIII)I (X5_tie) -/
def w_X5_tie (σ : St) (x1 : Int32) (x2 : Int32) (x3 : Int32) (x4 : Int32) (post : Int32 → St → Prop) : Prop := (((σ.1 6) < 60 → w_X2_admits (σ.2 16) x1 x2 x3 x4 (fun r_2 u_3 => ((¬ r_2 = 0 → w_X3_take ((va_up σ.1 2 0), (va_up σ.2 16 u_3)) x1 x2 x3 x4 (fun r_5 u_6 => post r_5 u_6)) ∧ (r_2 = 0 → w_X3_fewestAgainst (σ.1, (va_up σ.2 16 u_3)) x1 x2 x3 x4 (fun r_7 u_8 => w_X5_refuse ((va_up u_8.1 3 r_7), u_8.2) 4 (fun r_9 u_10 => post r_9 u_10)))))) ∧ (¬ (σ.1 6) < 60 → w_X5_refuse σ 3 (fun r_11 u_12 => post r_11 u_12)))

/-! PictureHeap.near(III)I (X5_near) -/
def w_X5_near (σ : St) (x1 : Int32) (x2 : Int32) (x3 : Int32) (post : Int32 → St → Prop) : Prop := w_X0_has σ x1 (fun r_1 u_2 => ((r_1 = 0 → w_X5_refuse u_2 1 (fun r_4 u_5 => post r_4 u_5)) ∧ (¬ r_1 = 0 → w_X0_has u_2 x2 (fun r_6 u_7 => ((¬ r_6 = 0 → w_X5_within x3 0 10000 (fun r_9 _ => ((¬ r_9 = 0 → (vp_in x2 120 ∧ (vp_in x1 120 ∧ (vp_in x1 120 ∧ (vp_in x2 120 ∧ w_X5_tie u_7 (u_7.2 0 (Int32.toNatClampNeg x1)) (u_7.2 0 (Int32.toNatClampNeg x2)) ((-x3) - ((u_7.2 1 (Int32.toNatClampNeg x2)) - (u_7.2 1 (Int32.toNatClampNeg x1)))) (x3 - ((u_7.2 1 (Int32.toNatClampNeg x2)) - (u_7.2 1 (Int32.toNatClampNeg x1)))) (fun r_12 u_13 => post r_12 u_13)))))) ∧ (r_9 = 0 → w_X5_refuse u_7 2 (fun r_14 u_15 => post r_14 u_15))))) ∧ (r_6 = 0 → w_X5_refuse u_7 1 (fun r_16 u_17 => post r_16 u_17)))))))

/-! PictureHeap.ahead(II)I (X5_ahead) -/
def w_X5_ahead (σ : St) (x1 : Int32) (x2 : Int32) (post : Int32 → St → Prop) : Prop := w_X0_has σ x1 (fun r_1 u_2 => ((r_1 = 0 → w_X5_refuse u_2 1 (fun r_4 u_5 => post r_4 u_5)) ∧ (¬ r_1 = 0 → w_X0_has u_2 x2 (fun r_6 u_7 => ((¬ r_6 = 0 → (vp_in x2 120 ∧ (vp_in x1 120 ∧ (vp_in x1 120 ∧ (vp_in x2 120 ∧ w_X5_tie u_7 (u_7.2 0 (Int32.toNatClampNeg x1)) (u_7.2 0 (Int32.toNatClampNeg x2)) (1 - ((u_7.2 1 (Int32.toNatClampNeg x2)) - (u_7.2 1 (Int32.toNatClampNeg x1)))) 1000000 (fun r_9 u_10 => post r_9 u_10)))))) ∧ (r_6 = 0 → w_X5_refuse u_7 1 (fun r_11 u_12 => post r_11 u_12)))))))

/-! PictureHeap.isOffset(I)Z (X5_isOffset) -/
def w_X5_isOffset (x0 : Int32) (post : Int32 → Unit → Prop) : Prop := w_X5_within x0 (-200000) 200000 (fun r_1 _ => (narrow .boolean (.int r_1) = .int r_1 ∧ post r_1 ()))

/-! PictureHeap.off(III)I (X5_off) -/
def w_X5_off (σ : St) (x1 : Int32) (x2 : Int32) (x3 : Int32) (post : Int32 → St → Prop) : Prop := w_X5_hasCamera σ x1 (fun r_1 u_2 => ((¬ r_1 = 0 → w_X5_isOffset x2 (fun r_4 _ => ((r_4 = 0 → w_X5_refuse u_2 2 (fun r_7 u_8 => post r_7 u_8)) ∧ (¬ r_4 = 0 → w_X5_isOffset x3 (fun r_9 _ => ((r_9 = 0 → w_X5_refuse u_2 2 (fun r_12 u_13 => post r_12 u_13)) ∧ (¬ r_9 = 0 → ((x2 ≤ x3 → w_X5_tie u_2 0 x1 x2 x3 (fun r_15 u_16 => post r_15 u_16)) ∧ (¬ x2 ≤ x3 → w_X5_refuse u_2 2 (fun r_17 u_18 => post r_17 u_18)))))))))) ∧ (r_1 = 0 → w_X5_refuse u_2 1 (fun r_19 u_20 => post r_19 u_20))))

/-! PictureHeap.quarrel()I (X5_quarrel) -/
def w_X5_quarrel (σ : St) (post : Int32 → St → Prop) : Prop := post (σ.1 3) σ

/-! PictureHeap$Ties.slotOf(I)I (X3_slotOf) -/
def w_X3_slotOf_L2 (x1_1 : Int32) (post : Int32 → St → Prop) (K : Int32 → St → Prop) : Nat → Int32 → St → Prop
  | 0, _, _ => False
  | n + 1, x2_2, s_3 => (((s_3.1 6) ≤ x2_2 → K x2_2 s_3) ∧ (¬ (s_3.1 6) ≤ x2_2 → (vp_in x2_2 60 ∧ ((¬ (s_3.2 5 (Int32.toNatClampNeg x2_2)) = x1_1 → w_X3_slotOf_L2 x1_1 post K n (x2_2 + 1) s_3) ∧ ((s_3.2 5 (Int32.toNatClampNeg x2_2)) = x1_1 → post x2_2 s_3)))))
def w_X3_slotOf (σ : St) (x1 : Int32) (post : Int32 → St → Prop) : Prop := (∃ n_8, w_X3_slotOf_L2 x1 post (fun x2_6 s_7 => post (-1) s_7) n_8 0 σ)

/-! PictureHeap$Offsets.loosen()V (X2_loosen) -/
def w_X2_loosen_J38 (post : (Nat → Int32) → Prop) (K10 : Int32 → (Nat → Int32) → Prop) (x1_13 : Int32) (x2_14 : Int32) (z_16 : Int32) (s_15 : (Nat → Int32)) : Prop := (vp_in ((x1_13 * 8) + x2_14) 64 ∧ K10 (x2_14 + 1) (upd (s_15) (Int32.toNatClampNeg ((x1_13 * 8) + x2_14)) (z_16 * 200000)))
def w_X2_loosen_J33 (post : (Nat → Int32) → Prop) (K10 : Int32 → (Nat → Int32) → Prop) (x1_10 : Int32) (x2_11 : Int32) (s_12 : (Nat → Int32)) : Prop := w_X2_loosen_J38 post (fun x2_17 u_18 => K10 x2_17 u_18) x1_10 x2_11 1 s_12
def w_X2_loosen_L10 (x1_4 : Int32) (post : (Nat → Int32) → Prop) (K : Int32 → (Nat → Int32) → Prop) : Nat → Int32 → (Nat → Int32) → Prop
  | 0, _, _ => False
  | n + 1, x2_5, s_6 => ((8 ≤ x2_5 → K x2_5 s_6) ∧ (¬ 8 ≤ x2_5 → ((¬ x1_4 = x2_5 → ((x1_4 = 0 → w_X2_loosen_J33 post (fun x2_19 u_20 => w_X2_loosen_L10 x1_4 post K n x2_19 u_20) x1_4 x2_5 s_6) ∧ (¬ x1_4 = 0 → ((¬ x2_5 = 0 → w_X2_loosen_J38 post (fun x2_22 u_23 => w_X2_loosen_L10 x1_4 post K n x2_22 u_23) x1_4 x2_5 2 s_6) ∧ (x2_5 = 0 → w_X2_loosen_J33 post (fun x2_24 u_25 => w_X2_loosen_L10 x1_4 post K n x2_24 u_25) x1_4 x2_5 s_6))))) ∧ (x1_4 = x2_5 → w_X2_loosen_J38 post (fun x2_26 u_27 => w_X2_loosen_L10 x1_4 post K n x2_26 u_27) x1_4 x2_5 0 s_6))))
def w_X2_loosen_L2 (post : (Nat → Int32) → Prop) (K : Int32 → (Nat → Int32) → Prop) : Nat → Int32 → (Nat → Int32) → Prop
  | 0, _, _ => False
  | n + 1, x1_1, s_2 => ((8 ≤ x1_1 → K x1_1 s_2) ∧ (¬ 8 ≤ x1_1 → (∃ n_30, w_X2_loosen_L10 x1_1 post (fun x2_28 s_29 => w_X2_loosen_L2 post K n (x1_1 + 1) s_29) n_30 0 s_2)))
def w_X2_loosen (f : (Nat → Int32)) (post : (Nat → Int32) → Prop) : Prop := (∃ n_33, w_X2_loosen_L2 post (fun x1_31 s_32 => post s_32) n_33 0 f)

/-! PictureHeap$Ties.drawWithout(ILPictureHeap$Offsets;)V (X3_drawWithout_a6) -/
def w_X3_drawWithout_a6_L6 (x1_3 : Int32) (post : St → Prop) (K : Int32 → St → Prop) : Nat → Int32 → St → Prop
  | 0, _, _ => False
  | n + 1, x3_4, s_5 => (((s_5.1 6) ≤ x3_4 → K x3_4 s_5) ∧ (¬ (s_5.1 6) ≤ x3_4 → ((x3_4 = x1_3 → w_X3_drawWithout_a6_L6 x1_3 post K n (x3_4 + 1) s_5) ∧ (¬ x3_4 = x1_3 → (vp_in x3_4 60 ∧ (vp_in x3_4 60 ∧ (vp_in x3_4 60 ∧ (vp_in x3_4 60 ∧ w_X2_tighten (s_5.2 16) (s_5.2 6 (Int32.toNatClampNeg x3_4)) (s_5.2 7 (Int32.toNatClampNeg x3_4)) (s_5.2 8 (Int32.toNatClampNeg x3_4)) (s_5.2 9 (Int32.toNatClampNeg x3_4)) (fun u_9 => w_X3_drawWithout_a6_L6 x1_3 post K n (x3_4 + 1) (s_5.1, (va_up s_5.2 16 u_9)))))))))))
def w_X3_drawWithout_a6 (σ : St) (x1 : Int32) (post : St → Prop) : Prop := w_X2_loosen (σ.2 16) (fun u_2 => (∃ n_12, w_X3_drawWithout_a6_L6 x1 post (fun x3_10 s_11 => post s_11) n_12 0 (σ.1, (va_up σ.2 16 u_2))))

/-! PictureHeap$Ties.drop(I)V (X3_drop) -/
def w_X3_drop (σ : St) (x1 : Int32) (post : St → Prop) : Prop := (vp_in ((σ.1 6) - 1) 60 ∧ (vp_in x1 60 ∧ (vp_in ((σ.1 6) - 1) 60 ∧ (vp_in x1 60 ∧ (vp_in ((σ.1 6) - 1) 60 ∧ (vp_in x1 60 ∧ (vp_in ((σ.1 6) - 1) 60 ∧ (vp_in x1 60 ∧ (vp_in ((σ.1 6) - 1) 60 ∧ (vp_in x1 60 ∧ w_X3_drawWithout_a6 ((va_up σ.1 6 ((σ.1 6) - 1)), (va_up (va_up (va_up (va_up (va_up σ.2 5 (upd (σ.2 5) (Int32.toNatClampNeg x1) (σ.2 5 (Int32.toNatClampNeg ((σ.1 6) - 1))))) 6 (upd (σ.2 6) (Int32.toNatClampNeg x1) (σ.2 6 (Int32.toNatClampNeg ((σ.1 6) - 1))))) 7 (upd (σ.2 7) (Int32.toNatClampNeg x1) (σ.2 7 (Int32.toNatClampNeg ((σ.1 6) - 1))))) 8 (upd (σ.2 8) (Int32.toNatClampNeg x1) (σ.2 8 (Int32.toNatClampNeg ((σ.1 6) - 1))))) 9 (upd (σ.2 9) (Int32.toNatClampNeg x1) (σ.2 9 (Int32.toNatClampNeg ((σ.1 6) - 1)))))) (-1) (fun u_2 => post u_2)))))))))))

/-! PictureHeap.untie(I)Z (X5_untie) -/
def w_X5_untie (σ : St) (x1 : Int32) (post : Int32 → St → Prop) : Prop := w_X3_slotOf σ x1 (fun r_1 u_2 => ((¬ r_1 = (-1) → w_X3_drop ((va_up u_2.1 2 0), u_2.2) r_1 (fun u_5 => post 1 u_5)) ∧ (r_1 = (-1) → post 0 ((va_up u_2.1 2 1), u_2.2))))

/-! PictureHeap$Ties.drawWithout(ILPictureHeap$Offsets;)V (X3_drawWithout_a5) -/
def w_X3_drawWithout_a5_L6 (x1_3 : Int32) (post : St → Prop) (K : Int32 → St → Prop) : Nat → Int32 → St → Prop
  | 0, _, _ => False
  | n + 1, x3_4, s_5 => (((s_5.1 6) ≤ x3_4 → K x3_4 s_5) ∧ (¬ (s_5.1 6) ≤ x3_4 → ((x3_4 = x1_3 → w_X3_drawWithout_a5_L6 x1_3 post K n (x3_4 + 1) s_5) ∧ (¬ x3_4 = x1_3 → (vp_in x3_4 60 ∧ (vp_in x3_4 60 ∧ (vp_in x3_4 60 ∧ (vp_in x3_4 60 ∧ w_X2_tighten (s_5.2 15) (s_5.2 6 (Int32.toNatClampNeg x3_4)) (s_5.2 7 (Int32.toNatClampNeg x3_4)) (s_5.2 8 (Int32.toNatClampNeg x3_4)) (s_5.2 9 (Int32.toNatClampNeg x3_4)) (fun u_9 => w_X3_drawWithout_a5_L6 x1_3 post K n (x3_4 + 1) (s_5.1, (va_up s_5.2 15 u_9)))))))))))
def w_X3_drawWithout_a5 (σ : St) (x1 : Int32) (post : St → Prop) : Prop := w_X2_loosen (σ.2 15) (fun u_2 => (∃ n_12, w_X3_drawWithout_a5_L6 x1 post (fun x3_10 s_11 => post s_11) n_12 0 (σ.1, (va_up σ.2 15 u_2))))

/-! PictureHeap$Offsets.sameAs(LPictureHeap$Offsets;)Z (X2_sameAs) -/
def w_X2_sameAs_L2 (post : Int32 → ((Nat → Int32) × (Nat → Int32)) → Prop) (K : Int32 → ((Nat → Int32) × (Nat → Int32)) → Prop) : Nat → Int32 → ((Nat → Int32) × (Nat → Int32)) → Prop
  | 0, _, _ => False
  | n + 1, x2_1, s_2 => ((64 ≤ x2_1 → K x2_1 s_2) ∧ (¬ 64 ≤ x2_1 → (vp_in x2_1 64 ∧ (vp_in x2_1 64 ∧ (((s_2.1 (Int32.toNatClampNeg x2_1)) = (s_2.2 (Int32.toNatClampNeg x2_1)) → w_X2_sameAs_L2 post K n (x2_1 + 1) s_2) ∧ (¬ (s_2.1 (Int32.toNatClampNeg x2_1)) = (s_2.2 (Int32.toNatClampNeg x2_1)) → post 0 s_2))))))
def w_X2_sameAs (f : ((Nat → Int32) × (Nat → Int32))) (post : Int32 → ((Nat → Int32) × (Nat → Int32)) → Prop) : Prop := (∃ n_7, w_X2_sameAs_L2 post (fun x2_5 s_6 => post 1 s_6) n_7 0 f)

/-! PictureHeap$Ties.isOfNoMatter(I)Z (X3_isOfNoMatter) -/
def w_X3_isOfNoMatter (σ : St) (x1 : Int32) (post : Int32 → St → Prop) : Prop := w_X3_drawWithout_a5 σ x1 (fun u_2 => w_X2_sameAs (u_2.2 15, u_2.2 16) (fun r_3 u_4 => (narrow .boolean (.int r_3) = .int r_3 ∧ post r_3 (u_2.1, (va_up (va_up u_2.2 15 u_4.1) 16 u_4.2)))))

/-! PictureHeap.idle(I)I (X5_idle) -/
def w_X5_idle (σ : St) (x1 : Int32) (post : Int32 → St → Prop) : Prop := w_X3_slotOf σ x1 (fun r_1 u_2 => ((¬ r_1 = (-1) → w_X3_isOfNoMatter ((va_up u_2.1 2 0), u_2.2) r_1 (fun r_4 u_5 => ((r_4 = 0 → post 0 u_5) ∧ (¬ r_4 = 0 → post 1 u_5)))) ∧ (r_1 = (-1) → w_X5_refuse u_2 1 (fun r_7 u_8 => post r_7 u_8))))

/-! PictureHeap.range(IZ)I (X5_range) -/
def w_X5_range (σ : St) (x1 : Int32) (x2 : Int32) (post : Int32 → St → Prop) : Prop := w_X5_hasCamera σ x1 (fun r_1 u_2 => ((¬ r_1 = 0 → ((x2 = 0 → w_X2_least (u_2.2 16) 0 x1 (fun r_5 u_6 => post r_5 (u_2.1, (va_up u_2.2 16 u_6)))) ∧ (¬ x2 = 0 → w_X2_most (u_2.2 16) 0 x1 (fun r_7 u_8 => post r_7 (u_2.1, (va_up u_2.2 16 u_8)))))) ∧ (r_1 = 0 → post (-1000000) u_2)))

/-! PictureHeap.leastBehind(II)I (X5_leastBehind) -/
def w_X5_leastBehind (σ : St) (x1 : Int32) (x2 : Int32) (post : Int32 → St → Prop) : Prop := (vp_in x2 120 ∧ (vp_in x1 120 ∧ (vp_in x1 120 ∧ (vp_in x2 120 ∧ w_X2_least (σ.2 16) (σ.2 0 (Int32.toNatClampNeg x1)) (σ.2 0 (Int32.toNatClampNeg x2)) (fun r_1 u_2 => post (((σ.2 1 (Int32.toNatClampNeg x2)) - (σ.2 1 (Int32.toNatClampNeg x1))) + r_1) (σ.1, (va_up σ.2 16 u_2)))))))

/-! PictureHeap.mostBehind(II)I (X5_mostBehind) -/
def w_X5_mostBehind (σ : St) (x1 : Int32) (x2 : Int32) (post : Int32 → St → Prop) : Prop := (vp_in x2 120 ∧ (vp_in x1 120 ∧ (vp_in x1 120 ∧ (vp_in x2 120 ∧ w_X2_most (σ.2 16) (σ.2 0 (Int32.toNatClampNeg x1)) (σ.2 0 (Int32.toNatClampNeg x2)) (fun r_1 u_2 => post (((σ.2 1 (Int32.toNatClampNeg x2)) - (σ.2 1 (Int32.toNatClampNeg x1))) + r_1) (σ.1, (va_up σ.2 16 u_2)))))))

/-! PictureHeap.between(IIZ)I (X5_between) -/
def w_X5_between (σ : St) (x1 : Int32) (x2 : Int32) (x3 : Int32) (post : Int32 → St → Prop) : Prop := w_X0_has σ x1 (fun r_1 u_2 => ((r_1 = 0 → post (-1000000) u_2) ∧ (¬ r_1 = 0 → w_X0_has u_2 x2 (fun r_4 u_5 => ((¬ r_4 = 0 → ((x3 = 0 → w_X5_leastBehind u_5 x1 x2 (fun r_8 u_9 => post r_8 u_9)) ∧ (¬ x3 = 0 → w_X5_mostBehind u_5 x1 x2 (fun r_10 u_11 => post r_10 u_11)))) ∧ (r_4 = 0 → post (-1000000) u_5))))))

/-! PictureHeap.sureOrder(II)I (X5_sureOrder) -/
def w_X5_sureOrder (σ : St) (x1 : Int32) (x2 : Int32) (post : Int32 → St → Prop) : Prop := w_X5_leastBehind σ x1 x2 (fun r_1 u_2 => w_X5_mostBehind u_2 x1 x2 (fun r_3 u_4 => ((r_1 ≤ 0 → ((0 ≤ r_3 → ((¬ r_1 = 0 → post 0 u_4) ∧ (r_1 = 0 → ((¬ r_3 = 0 → post 0 u_4) ∧ (r_3 = 0 → post 3 u_4))))) ∧ (¬ 0 ≤ r_3 → post 2 u_4))) ∧ (¬ r_1 ≤ 0 → post 1 u_4))))

/-! PictureHeap.order(II)I (X5_order) -/
def w_X5_order (σ : St) (x1 : Int32) (x2 : Int32) (post : Int32 → St → Prop) : Prop := w_X0_has σ x1 (fun r_1 u_2 => ((r_1 = 0 → post (-1) u_2) ∧ (¬ r_1 = 0 → w_X0_has u_2 x2 (fun r_4 u_5 => ((¬ r_4 = 0 → w_X5_sureOrder u_5 x1 x2 (fun r_7 u_8 => post r_7 u_8)) ∧ (r_4 = 0 → post (-1) u_5))))))

/-! PictureHeap.unsure()I (X5_unsure) -/
def w_X5_unsure_L19 (x2_5 : Int32) (post : Int32 → St → Prop) (K : Int32 → Int32 → St → Prop) : Nat → Int32 → Int32 → St → Prop
  | 0, _, _, _ => False
  | n + 1, x1_6, x3_7, s_8 => (((s_8.1 4) ≤ x3_7 → K x1_6 x3_7 s_8) ∧ (¬ (s_8.1 4) ≤ x3_7 → w_X5_sureOrder s_8 x2_5 x3_7 (fun r_10 u_11 => ((¬ r_10 = 0 → w_X5_unsure_L19 x2_5 post K n x1_6 (x3_7 + 1) u_11) ∧ (r_10 = 0 → w_X5_unsure_L19 x2_5 post K n (x1_6 + 1) (x3_7 + 1) u_11)))))
def w_X5_unsure_L4 (post : Int32 → St → Prop) (K : Int32 → Int32 → St → Prop) : Nat → Int32 → Int32 → St → Prop
  | 0, _, _, _ => False
  | n + 1, x1_1, x2_2, s_3 => (((s_3.1 4) ≤ x2_2 → K x1_1 x2_2 s_3) ∧ (¬ (s_3.1 4) ≤ x2_2 → (∃ n_16, w_X5_unsure_L19 x2_2 post (fun x1_13 x3_14 s_15 => w_X5_unsure_L4 post K n x1_13 (x2_2 + 1) s_15) n_16 x1_1 (x2_2 + 1) s_3)))
def w_X5_unsure (σ : St) (post : Int32 → St → Prop) : Prop := (∃ n_20, w_X5_unsure_L4 post (fun x1_17 x2_18 s_19 => post x1_17 s_19) n_20 0 0 σ)

/-! PictureHeap.known()I (X5_known) -/
def w_X5_known_L4 (post : Int32 → St → Prop) (K : Int32 → Int32 → St → Prop) : Nat → Int32 → Int32 → St → Prop
  | 0, _, _, _ => False
  | n + 1, x1_1, x2_2, s_3 => (((s_3.1 0) ≤ x2_2 → K x1_1 x2_2 s_3) ∧ (¬ (s_3.1 0) ≤ x2_2 → w_X2_least (s_3.2 16) 0 x2_2 (fun r_5 u_6 => w_X2_most (u_6) 0 x2_2 (fun r_7 u_8 => ((¬ r_5 = r_7 → w_X5_known_L4 post K n x1_1 (x2_2 + 1) (s_3.1, (va_up (va_up s_3.2 16 u_6) 16 u_8))) ∧ (r_5 = r_7 → w_X5_known_L4 post K n (x1_1 + 1) (x2_2 + 1) (s_3.1, (va_up (va_up s_3.2 16 u_6) 16 u_8))))))))
def w_X5_known (σ : St) (post : Int32 → St → Prop) : Prop := (∃ n_13, w_X5_known_L4 post (fun x1_10 x2_11 s_12 => post x1_10 s_12) n_13 0 0 σ)

/-! PictureHeap$Timeline.settle(ILPictureHeap$Offsets;)V (X4_settle_a6) -/
def w_X4_settle_a6_L46 (x3_8 : Int32) (post : St → Prop) (K : Int32 → Int32 → Int32 → St → Prop) : Nat → Int32 → Int32 → Int32 → St → Prop
  | 0, _, _, _, _ => False
  | n + 1, x4_9, x5_10, x6_11, s_12 => ((x3_8 ≤ x6_11 → K x4_9 x5_10 x6_11 s_12) ∧ (¬ x3_8 ≤ x6_11 → (vp_in x6_11 8 ∧ w_X2_least (s_12.2 16) x6_11 x3_8 (fun r_14 u_15 => (vp_in x6_11 8 ∧ w_X2_most (u_15) x6_11 x3_8 (fun r_16 u_17 => w_X4_settle_a6_L46 x3_8 post K n (if x4_9 < ((s_12.2 12 (Int32.toNatClampNeg x6_11)) + r_14) then ((s_12.2 12 (Int32.toNatClampNeg x6_11)) + r_14) else x4_9) (if ((s_12.2 12 (Int32.toNatClampNeg x6_11)) + r_16) < x5_10 then ((s_12.2 12 (Int32.toNatClampNeg x6_11)) + r_16) else x5_10) (x6_11 + 1) (s_12.1, (va_up (va_up s_12.2 16 u_15) 16 u_17))))))))
def w_X4_settle_a6_L19 (post : St → Prop) (K : Int32 → St → Prop) : Nat → Int32 → St → Prop
  | 0, _, _ => False
  | n + 1, x3_1, s_2 => (((s_2.1 10) ≤ x3_1 → K x3_1 s_2) ∧ (¬ (s_2.1 10) ≤ x3_1 → w_X2_least (s_2.2 16) 0 x3_1 (fun r_4 u_5 => w_X2_most (u_5) 0 x3_1 (fun r_6 u_7 => (∃ n_23, w_X4_settle_a6_L46 x3_1 post (fun x4_18 x5_19 x6_20 s_21 => ((x4_18 ≤ 0 → (vp_in x3_1 8 ∧ w_X4_settle_a6_L19 post K n (x3_1 + 1) (s_21.1, (va_up s_21.2 12 (upd (s_21.2 12) (Int32.toNatClampNeg x3_1) (if 0 < x5_19 then 0 else x5_19)))))) ∧ (¬ x4_18 ≤ 0 → (vp_in x3_1 8 ∧ w_X4_settle_a6_L19 post K n (x3_1 + 1) (s_21.1, (va_up s_21.2 12 (upd (s_21.2 12) (Int32.toNatClampNeg x3_1) x4_18))))))) n_23 r_4 r_6 1 (s_2.1, (va_up (va_up s_2.2 16 u_5) 16 u_7)))))))
def w_X4_settle_a6 (σ : St) (x1 : Int32) (post : St → Prop) : Prop := (vp_in 0 8 ∧ (∃ n_26, w_X4_settle_a6_L19 post (fun x3_24 s_25 => post s_25) n_26 1 ((va_up (va_up σ.1 8 1) 10 x1), (va_up σ.2 12 (upd (σ.2 12) (Int32.toNatClampNeg 0) 0)))))

/-! PictureHeap$Timeline.comesAfter(IILPictureHeap$Album;)Z (X4_comesAfter) -/
def w_X4_comesAfter (σ : St) (x1 : Int32) (x2 : Int32) (post : Int32 → St → Prop) : Prop := (vp_in x1 120 ∧ (vp_in x2 120 ∧ (((σ.2 13 (Int32.toNatClampNeg x1)) = (σ.2 13 (Int32.toNatClampNeg x2)) → (vp_in x1 120 ∧ (vp_in x2 120 ∧ (((σ.2 0 (Int32.toNatClampNeg x1)) ≤ (σ.2 0 (Int32.toNatClampNeg x2)) → post 0 σ) ∧ (¬ (σ.2 0 (Int32.toNatClampNeg x1)) ≤ (σ.2 0 (Int32.toNatClampNeg x2)) → post 1 σ))))) ∧ (¬ (σ.2 13 (Int32.toNatClampNeg x1)) = (σ.2 13 (Int32.toNatClampNeg x2)) → (vp_in x1 120 ∧ (vp_in x2 120 ∧ (((σ.2 13 (Int32.toNatClampNeg x1)) ≤ (σ.2 13 (Int32.toNatClampNeg x2)) → post 0 σ) ∧ (¬ (σ.2 13 (Int32.toNatClampNeg x1)) ≤ (σ.2 13 (Int32.toNatClampNeg x2)) → post 1 σ))))))))

/-! PictureHeap$Timeline.line(LPictureHeap$Album;)V (X4_line) -/
def w_X4_line_L44 (x2_4 : Int32) (post : St → Prop) (K : Int32 → St → Prop) : Nat → Int32 → St → Prop
  | 0, _, _ => False
  | n + 1, x3_5, s_6 => ((x3_5 ≤ 0 → K x3_5 s_6) ∧ (¬ x3_5 ≤ 0 → (vp_in (x3_5 - 1) 120 ∧ w_X4_comesAfter s_6 (s_6.2 14 (Int32.toNatClampNeg (x3_5 - 1))) x2_4 (fun r_8 u_9 => ((r_8 = 0 → K x3_5 u_9) ∧ (¬ r_8 = 0 → (vp_in (x3_5 - 1) 120 ∧ (vp_in x3_5 120 ∧ w_X4_line_L44 x2_4 post K n (x3_5 + (-1)) (u_9.1, (va_up u_9.2 14 (upd (u_9.2 14) (Int32.toNatClampNeg x3_5) (u_9.2 14 (Int32.toNatClampNeg (x3_5 - 1))))))))))))))
def w_X4_line_J85 (post : St → Prop) (K10 : Int32 → St → Prop) (x2_13 : Int32) (x3_14 : Int32) (s_15 : St) : Prop := (vp_in x3_14 120 ∧ K10 (x2_13 + 1) (s_15.1, (va_up s_15.2 14 (upd (s_15.2 14) (Int32.toNatClampNeg x3_14) x2_13))))
def w_X4_line_L10 (post : St → Prop) (K : Int32 → St → Prop) : Nat → Int32 → St → Prop
  | 0, _, _ => False
  | n + 1, x2_1, s_2 => (((s_2.1 9) ≤ x2_1 → K x2_1 s_2) ∧ (¬ (s_2.1 9) ≤ x2_1 → (vp_in x2_1 120 ∧ (vp_in x2_1 120 ∧ (vp_in (s_2.2 0 (Int32.toNatClampNeg x2_1)) 8 ∧ (vp_in x2_1 120 ∧ (∃ n_18, w_X4_line_L44 x2_1 post (fun x3_11 s_12 => w_X4_line_J85 post (fun x2_16 u_17 => w_X4_line_L10 post K n x2_16 u_17) x2_1 x3_11 s_12) n_18 x2_1 (s_2.1, (va_up s_2.2 13 (upd (s_2.2 13) (Int32.toNatClampNeg x2_1) ((s_2.2 1 (Int32.toNatClampNeg x2_1)) + (s_2.2 12 (Int32.toNatClampNeg (s_2.2 0 (Int32.toNatClampNeg x2_1)))))))))))))))
def w_X4_line (σ : St) (post : St → Prop) : Prop := (∃ n_21, w_X4_line_L10 post (fun x2_19 s_20 => post s_20) n_21 0 ((va_up σ.1 9 (σ.1 4)), σ.2))

/-! PictureHeap.put()I (X5_put) -/
def w_X5_put (σ : St) (post : Int32 → St → Prop) : Prop := w_X4_settle_a6 σ (σ.1 0) (fun u_2 => w_X4_line u_2 (fun u_4 => post (u_4.1 9) u_4))

/-! PictureHeap$Timeline.hasCamera(I)Z (X4_hasCamera) -/
def w_X4_hasCamera (σ : St) (x1 : Int32) (post : Int32 → St → Prop) : Prop := ((x1 < 0 → post 0 σ) ∧ (¬ x1 < 0 → (((σ.1 10) ≤ x1 → post 0 σ) ∧ (¬ (σ.1 10) ≤ x1 → post 1 σ))))

/-! PictureHeap.offset(I)I (X5_offset) -/
def w_X5_offset (σ : St) (x1 : Int32) (post : Int32 → St → Prop) : Prop := w_X4_hasCamera σ x1 (fun r_1 u_2 => ((r_1 = 0 → post (-1000000) u_2) ∧ (¬ r_1 = 0 → (vp_in x1 8 ∧ post (u_2.2 12 (Int32.toNatClampNeg x1)) u_2))))

/-! PictureHeap$Timeline.has(I)Z (X4_has) -/
def w_X4_has (σ : St) (x1 : Int32) (post : Int32 → St → Prop) : Prop := ((x1 < 0 → post 0 σ) ∧ (¬ x1 < 0 → (((σ.1 9) ≤ x1 → post 0 σ) ∧ (¬ (σ.1 9) ≤ x1 → post 1 σ))))

/-! PictureHeap.time(I)I (X5_time) -/
def w_X5_time (σ : St) (x1 : Int32) (post : Int32 → St → Prop) : Prop := w_X4_has σ x1 (fun r_1 u_2 => ((r_1 = 0 → post (-1000000) u_2) ∧ (¬ r_1 = 0 → (vp_in x1 120 ∧ post (u_2.2 13 (Int32.toNatClampNeg x1)) u_2))))

/-! PictureHeap$Timeline.minutesFrom(II)I (X4_minutesFrom) -/
def w_X4_minutesFrom (σ : St) (x1 : Int32) (x2 : Int32) (post : Int32 → St → Prop) : Prop := (vp_in x2 120 ∧ (vp_in (σ.2 14 (Int32.toNatClampNeg x2)) 120 ∧ (vp_in x1 120 ∧ (vp_in (σ.2 14 (Int32.toNatClampNeg x1)) 120 ∧ post ((σ.2 13 (Int32.toNatClampNeg (σ.2 14 (Int32.toNatClampNeg x2)))) - (σ.2 13 (Int32.toNatClampNeg (σ.2 14 (Int32.toNatClampNeg x1))))) σ))))

/-! PictureHeap$Timeline.startsDay(II)Z (X4_startsDay) -/
def w_X4_startsDay (σ : St) (x1 : Int32) (x2 : Int32) (post : Int32 → St → Prop) : Prop := ((x1 = 0 → post 1 σ) ∧ (¬ x1 = 0 → w_X4_minutesFrom σ (x1 - 1) x1 (fun r_2 u_3 => ((r_2 ≤ x2 → post 0 u_3) ∧ (¬ r_2 ≤ x2 → post 1 u_3)))))

/-! PictureHeap$Timeline.dayTally(I)I (X4_dayTally) -/
def w_X4_dayTally_L4 (x1_1 : Int32) (post : Int32 → St → Prop) (K : Int32 → Int32 → St → Prop) : Nat → Int32 → Int32 → St → Prop
  | 0, _, _, _ => False
  | n + 1, x2_2, x3_3, s_4 => (((s_4.1 9) ≤ x3_3 → K x2_2 x3_3 s_4) ∧ (¬ (s_4.1 9) ≤ x3_3 → w_X4_startsDay s_4 x3_3 x1_1 (fun r_6 u_7 => ((r_6 = 0 → w_X4_dayTally_L4 x1_1 post K n x2_2 (x3_3 + 1) u_7) ∧ (¬ r_6 = 0 → w_X4_dayTally_L4 x1_1 post K n (x2_2 + 1) (x3_3 + 1) u_7)))))
def w_X4_dayTally (σ : St) (x1 : Int32) (post : Int32 → St → Prop) : Prop := (∃ n_12, w_X4_dayTally_L4 x1 post (fun x2_9 x3_10 s_11 => post x2_9 s_11) n_12 0 0 σ)

/-! PictureHeap.days()I (X5_days) -/
def w_X5_days (σ : St) (post : Int32 → St → Prop) : Prop := (((σ.1 8) = 0 → post (-1) σ) ∧ (¬ (σ.1 8) = 0 → w_X4_dayTally σ (σ.1 1) (fun r_2 u_3 => post r_2 u_3)))

/-! PictureHeap$Timeline.startOfDay(II)I (X4_startOfDay) -/
def w_X4_startOfDay_L5 (x2_1 : Int32) (post : Int32 → St → Prop) (K : Int32 → Int32 → St → Prop) : Nat → Int32 → Int32 → St → Prop
  | 0, _, _, _ => False
  | n + 1, x3_2, x4_3, s_4 => (((s_4.1 9) ≤ x4_3 → K x3_2 x4_3 s_4) ∧ (¬ (s_4.1 9) ≤ x4_3 → w_X4_startsDay s_4 x4_3 x2_1 (fun r_6 u_7 => ((r_6 = 0 → w_X4_startOfDay_L5 x2_1 post K n x3_2 (x4_3 + 1) u_7) ∧ (¬ r_6 = 0 → ((¬ x3_2 = 0 → w_X4_startOfDay_L5 x2_1 post K n (x3_2 + (-1)) (x4_3 + 1) u_7) ∧ (x3_2 = 0 → post x4_3 u_7)))))))
def w_X4_startOfDay (σ : St) (x1 : Int32) (x2 : Int32) (post : Int32 → St → Prop) : Prop := (∃ n_13, w_X4_startOfDay_L5 x2 post (fun x3_10 x4_11 s_12 => post (-1) s_12) n_13 x1 0 σ)

/-! PictureHeap$Timeline.endOfDay(II)I (X4_endOfDay) -/
def w_X4_endOfDay_L2 (x2_1 : Int32) (post : Int32 → St → Prop) (K : Int32 → St → Prop) : Nat → Int32 → St → Prop
  | 0, _, _ => False
  | n + 1, x3_2, s_3 => (((s_3.1 9) ≤ (x3_2 + 1) → K x3_2 s_3) ∧ (¬ (s_3.1 9) ≤ (x3_2 + 1) → w_X4_startsDay s_3 (x3_2 + 1) x2_1 (fun r_5 u_6 => ((¬ r_5 = 0 → K x3_2 u_6) ∧ (r_5 = 0 → w_X4_endOfDay_L2 x2_1 post K n (x3_2 + 1) u_6)))))
def w_X4_endOfDay (σ : St) (x1 : Int32) (x2 : Int32) (post : Int32 → St → Prop) : Prop := (∃ n_10, w_X4_endOfDay_L2 x2 post (fun x3_8 s_9 => post x3_8 s_9) n_10 x1 σ)

/-! PictureHeap.day(II)I (X5_day) -/
def w_X5_day (σ : St) (x1 : Int32) (x2 : Int32) (post : Int32 → St → Prop) : Prop := ((0 ≤ x1 → w_X4_startOfDay σ x1 (σ.1 1) (fun r_2 u_3 => ((¬ r_2 = (-1) → w_X4_endOfDay u_3 r_2 (u_3.1 1) (fun r_5 u_6 => (((x2.toInt < 0 ∨ 2 < x2.toInt) → post (-1) u_6) ∧ (x2 = 0 → post r_2 u_6) ∧ (x2 = 1 → post ((r_5 - r_2) + 1) u_6) ∧ (x2 = 2 → w_X4_minutesFrom u_6 r_2 r_5 (fun r_7 u_8 => post r_7 u_8))))) ∧ (r_2 = (-1) → post (-1) u_3)))) ∧ (¬ 0 ≤ x1 → post (-1) σ))

/-! java/lang/Integer.bitCount(I)I (J6_bitCount_0f7a4) -/
def w_J6_bitCount_0f7a4 (x0 : Int32) (post : Int32 → Unit → Prop) : Prop := post ((((((((x0 - ((Int32.toUInt32 x0 >>> (Int32.toUInt32 1 &&& Int32.toUInt32 31)).toInt32 &&& 1431655765)) &&& 858993459) + ((Int32.toUInt32 (x0 - ((Int32.toUInt32 x0 >>> (Int32.toUInt32 1 &&& Int32.toUInt32 31)).toInt32 &&& 1431655765)) >>> (Int32.toUInt32 2 &&& Int32.toUInt32 31)).toInt32 &&& 858993459)) + (Int32.toUInt32 (((x0 - ((Int32.toUInt32 x0 >>> (Int32.toUInt32 1 &&& Int32.toUInt32 31)).toInt32 &&& 1431655765)) &&& 858993459) + ((Int32.toUInt32 (x0 - ((Int32.toUInt32 x0 >>> (Int32.toUInt32 1 &&& Int32.toUInt32 31)).toInt32 &&& 1431655765)) >>> (Int32.toUInt32 2 &&& Int32.toUInt32 31)).toInt32 &&& 858993459)) >>> (Int32.toUInt32 4 &&& Int32.toUInt32 31)).toInt32) &&& 252645135) + (Int32.toUInt32 (((((x0 - ((Int32.toUInt32 x0 >>> (Int32.toUInt32 1 &&& Int32.toUInt32 31)).toInt32 &&& 1431655765)) &&& 858993459) + ((Int32.toUInt32 (x0 - ((Int32.toUInt32 x0 >>> (Int32.toUInt32 1 &&& Int32.toUInt32 31)).toInt32 &&& 1431655765)) >>> (Int32.toUInt32 2 &&& Int32.toUInt32 31)).toInt32 &&& 858993459)) + (Int32.toUInt32 (((x0 - ((Int32.toUInt32 x0 >>> (Int32.toUInt32 1 &&& Int32.toUInt32 31)).toInt32 &&& 1431655765)) &&& 858993459) + ((Int32.toUInt32 (x0 - ((Int32.toUInt32 x0 >>> (Int32.toUInt32 1 &&& Int32.toUInt32 31)).toInt32 &&& 1431655765)) >>> (Int32.toUInt32 2 &&& Int32.toUInt32 31)).toInt32 &&& 858993459)) >>> (Int32.toUInt32 4 &&& Int32.toUInt32 31)).toInt32) &&& 252645135) >>> (Int32.toUInt32 8 &&& Int32.toUInt32 31)).toInt32) + (Int32.toUInt32 ((((((x0 - ((Int32.toUInt32 x0 >>> (Int32.toUInt32 1 &&& Int32.toUInt32 31)).toInt32 &&& 1431655765)) &&& 858993459) + ((Int32.toUInt32 (x0 - ((Int32.toUInt32 x0 >>> (Int32.toUInt32 1 &&& Int32.toUInt32 31)).toInt32 &&& 1431655765)) >>> (Int32.toUInt32 2 &&& Int32.toUInt32 31)).toInt32 &&& 858993459)) + (Int32.toUInt32 (((x0 - ((Int32.toUInt32 x0 >>> (Int32.toUInt32 1 &&& Int32.toUInt32 31)).toInt32 &&& 1431655765)) &&& 858993459) + ((Int32.toUInt32 (x0 - ((Int32.toUInt32 x0 >>> (Int32.toUInt32 1 &&& Int32.toUInt32 31)).toInt32 &&& 1431655765)) >>> (Int32.toUInt32 2 &&& Int32.toUInt32 31)).toInt32 &&& 858993459)) >>> (Int32.toUInt32 4 &&& Int32.toUInt32 31)).toInt32) &&& 252645135) + (Int32.toUInt32 (((((x0 - ((Int32.toUInt32 x0 >>> (Int32.toUInt32 1 &&& Int32.toUInt32 31)).toInt32 &&& 1431655765)) &&& 858993459) + ((Int32.toUInt32 (x0 - ((Int32.toUInt32 x0 >>> (Int32.toUInt32 1 &&& Int32.toUInt32 31)).toInt32 &&& 1431655765)) >>> (Int32.toUInt32 2 &&& Int32.toUInt32 31)).toInt32 &&& 858993459)) + (Int32.toUInt32 (((x0 - ((Int32.toUInt32 x0 >>> (Int32.toUInt32 1 &&& Int32.toUInt32 31)).toInt32 &&& 1431655765)) &&& 858993459) + ((Int32.toUInt32 (x0 - ((Int32.toUInt32 x0 >>> (Int32.toUInt32 1 &&& Int32.toUInt32 31)).toInt32 &&& 1431655765)) >>> (Int32.toUInt32 2 &&& Int32.toUInt32 31)).toInt32 &&& 858993459)) >>> (Int32.toUInt32 4 &&& Int32.toUInt32 31)).toInt32) &&& 252645135) >>> (Int32.toUInt32 8 &&& Int32.toUInt32 31)).toInt32) >>> (Int32.toUInt32 16 &&& Int32.toUInt32 31)).toInt32) &&& 63) ()

/-! PictureHeap$Timeline.followsOn(IILPictureHeap$Album;)Z (X4_followsOn) -/
def w_X4_followsOn (σ : St) (x1 : Int32) (x2 : Int32) (post : Int32 → St → Prop) : Prop := (vp_in x1 120 ∧ (vp_in x2 120 ∧ (vp_in x2 120 ∧ (vp_in x1 120 ∧ ((2 < ((σ.2 13 (Int32.toNatClampNeg x2)) - (σ.2 13 (Int32.toNatClampNeg x1))) → post 0 σ) ∧ (¬ 2 < ((σ.2 13 (Int32.toNatClampNeg x2)) - (σ.2 13 (Int32.toNatClampNeg x1))) → w_J6_bitCount_0f7a4 ((σ.2 2 (Int32.toNatClampNeg x1)) ^^^ (σ.2 2 (Int32.toNatClampNeg x2))) (fun r_2 _ => ((2 < r_2 → post 0 σ) ∧ (¬ 2 < r_2 → post 1 σ)))))))))

/-! PictureHeap$Timeline.burstLengthAt(ILPictureHeap$Album;)I (X4_burstLengthAt) -/
def w_X4_burstLengthAt_L15 (post : Int32 → St → Prop) (K : Int32 → Int32 → Int32 → St → Prop) : Nat → Int32 → Int32 → Int32 → St → Prop
  | 0, _, _, _, _ => False
  | n + 1, x3_1, x4_2, x5_3, s_4 => ((x5_3 < 0 → K x3_1 x4_2 x5_3 s_4) ∧ (¬ x5_3 < 0 → (vp_in x5_3 120 ∧ (vp_in (s_4.2 14 (Int32.toNatClampNeg x5_3)) 120 ∧ (vp_in x4_2 120 ∧ ((¬ (s_4.2 0 (Int32.toNatClampNeg (s_4.2 14 (Int32.toNatClampNeg x5_3)))) = (s_4.2 0 (Int32.toNatClampNeg x4_2)) → w_X4_burstLengthAt_L15 post K n x3_1 x4_2 (x5_3 + (-1)) s_4) ∧ ((s_4.2 0 (Int32.toNatClampNeg (s_4.2 14 (Int32.toNatClampNeg x5_3)))) = (s_4.2 0 (Int32.toNatClampNeg x4_2)) → w_X4_followsOn s_4 (s_4.2 14 (Int32.toNatClampNeg x5_3)) x4_2 (fun r_7 u_8 => ((¬ r_7 = 0 → w_X4_burstLengthAt_L15 post K n (x3_1 + 1) (s_4.2 14 (Int32.toNatClampNeg x5_3)) (x5_3 + (-1)) u_8) ∧ (r_7 = 0 → post x3_1 u_8))))))))))
def w_X4_burstLengthAt (σ : St) (x1 : Int32) (post : Int32 → St → Prop) : Prop := (vp_in x1 120 ∧ (∃ n_14, w_X4_burstLengthAt_L15 post (fun x3_10 x4_11 x5_12 s_13 => post x3_10 s_13) n_14 1 (σ.2 14 (Int32.toNatClampNeg x1)) (x1 - 1) σ))

/-! PictureHeap.bursts()I (X5_bursts) -/
def w_X5_bursts_L16 (post : Int32 → St → Prop) (K : Int32 → Int32 → St → Prop) : Nat → Int32 → Int32 → St → Prop
  | 0, _, _, _ => False
  | n + 1, x1_2, x2_3, s_4 => (((s_4.1 9) ≤ x2_3 → K x1_2 x2_3 s_4) ∧ (¬ (s_4.1 9) ≤ x2_3 → w_X4_burstLengthAt s_4 x2_3 (fun r_6 u_7 => ((¬ r_6 = 2 → w_X5_bursts_L16 post K n x1_2 (x2_3 + 1) u_7) ∧ (r_6 = 2 → w_X5_bursts_L16 post K n (x1_2 + 1) (x2_3 + 1) u_7)))))
def w_X5_bursts (σ : St) (post : Int32 → St → Prop) : Prop := ((¬ (σ.1 8) = 0 → (∃ n_12, w_X5_bursts_L16 post (fun x1_9 x2_10 s_11 => post x1_9 s_11) n_12 0 0 σ)) ∧ ((σ.1 8) = 0 → post (-1) σ))

/-! PictureHeap.longest()I (X5_longest) -/
def w_X5_longest_L16 (post : Int32 → St → Prop) (K : Int32 → Int32 → St → Prop) : Nat → Int32 → Int32 → St → Prop
  | 0, _, _, _ => False
  | n + 1, x1_2, x2_3, s_4 => (((s_4.1 9) ≤ x2_3 → K x1_2 x2_3 s_4) ∧ (¬ (s_4.1 9) ≤ x2_3 → w_X4_burstLengthAt s_4 x2_3 (fun r_6 u_7 => w_X5_longest_L16 post K n (if x1_2 < r_6 then r_6 else x1_2) (x2_3 + 1) u_7)))
def w_X5_longest (σ : St) (post : Int32 → St → Prop) : Prop := ((¬ (σ.1 8) = 0 → (∃ n_12, w_X5_longest_L16 post (fun x1_8 x2_9 s_10 => ((x1_8 < 2 → post 0 s_10) ∧ (¬ x1_8 < 2 → post x1_8 s_10))) n_12 0 0 σ)) ∧ ((σ.1 8) = 0 → post (-1) σ))

/-! PictureHeap$Timeline.isAlike(IILPictureHeap$Album;)Z (X4_isAlike) -/
def w_X4_isAlike (σ : St) (x0 : Int32) (x1 : Int32) (post : Int32 → St → Prop) : Prop := (vp_in x0 120 ∧ (vp_in x1 120 ∧ (((σ.2 0 (Int32.toNatClampNeg x0)) = (σ.2 0 (Int32.toNatClampNeg x1)) → post 0 σ) ∧ (¬ (σ.2 0 (Int32.toNatClampNeg x0)) = (σ.2 0 (Int32.toNatClampNeg x1)) → (vp_in x0 120 ∧ (vp_in x1 120 ∧ ((¬ (σ.2 2 (Int32.toNatClampNeg x0)) = (σ.2 2 (Int32.toNatClampNeg x1)) → post 0 σ) ∧ ((σ.2 2 (Int32.toNatClampNeg x0)) = (σ.2 2 (Int32.toNatClampNeg x1)) → (vp_in x0 120 ∧ (((σ.2 2 (Int32.toNatClampNeg x0)) = 0 → post 0 σ) ∧ (¬ (σ.2 2 (Int32.toNatClampNeg x0)) = 0 → post 1 σ)))))))))))

/-! PictureHeap$Timeline.doubleTally(LPictureHeap$Album;)I (X4_doubleTally) -/
def w_X4_doubleTally_L17 (x3_5 : Int32) (post : Int32 → St → Prop) (K : Int32 → Int32 → St → Prop) : Nat → Int32 → Int32 → St → Prop
  | 0, _, _, _ => False
  | n + 1, x2_6, x4_7, s_8 => (((s_8.1 9) ≤ x4_7 → K x2_6 x4_7 s_8) ∧ (¬ (s_8.1 9) ≤ x4_7 → w_X4_minutesFrom s_8 x3_5 x4_7 (fun r_10 u_11 => ((5 < r_10 → K x2_6 x4_7 u_11) ∧ (¬ 5 < r_10 → (vp_in x3_5 120 ∧ (vp_in x4_7 120 ∧ w_X4_isAlike u_11 (u_11.2 14 (Int32.toNatClampNeg x3_5)) (u_11.2 14 (Int32.toNatClampNeg x4_7)) (fun r_13 u_14 => ((r_13 = 0 → w_X4_doubleTally_L17 x3_5 post K n x2_6 (x4_7 + 1) u_14) ∧ (¬ r_13 = 0 → w_X4_doubleTally_L17 x3_5 post K n (x2_6 + 1) (x4_7 + 1) u_14))))))))))
def w_X4_doubleTally_L4 (post : Int32 → St → Prop) (K : Int32 → Int32 → St → Prop) : Nat → Int32 → Int32 → St → Prop
  | 0, _, _, _ => False
  | n + 1, x2_1, x3_2, s_3 => (((s_3.1 9) ≤ x3_2 → K x2_1 x3_2 s_3) ∧ (¬ (s_3.1 9) ≤ x3_2 → (∃ n_19, w_X4_doubleTally_L17 x3_2 post (fun x2_16 x4_17 s_18 => w_X4_doubleTally_L4 post K n x2_16 (x3_2 + 1) s_18) n_19 x2_1 (x3_2 + 1) s_3)))
def w_X4_doubleTally (σ : St) (post : Int32 → St → Prop) : Prop := (∃ n_23, w_X4_doubleTally_L4 post (fun x2_20 x3_21 s_22 => post x2_20 s_22) n_23 0 0 σ)

/-! PictureHeap.doubles()I (X5_doubles) -/
def w_X5_doubles (σ : St) (post : Int32 → St → Prop) : Prop := (((σ.1 8) = 0 → post (-1) σ) ∧ (¬ (σ.1 8) = 0 → w_X4_doubleTally σ (fun r_2 u_3 => post r_2 u_3)))

/-! PictureHeap$Atlas.isWithinReach(LPictureHeap$Album;II)Z (X1_isWithinReach) -/
def w_X1_isWithinReach_L19 (x3_1 : Int32) (x4_2 : Int32) (x5_3 : Int32) (post : Int32 → St → Prop) (K : Int32 → St → Prop) : Nat → Int32 → St → Prop
  | 0, _, _ => False
  | n + 1, x6_4, s_5 => (((s_5.1 4) ≤ x6_4 → K x6_4 s_5) ∧ (¬ (s_5.1 4) ≤ x6_4 → (vp_in x6_4 120 ∧ (((s_5.2 3 (Int32.toNatClampNeg x6_4)) = (-1) → w_X1_isWithinReach_L19 x3_1 x4_2 x5_3 post K n (x6_4 + 1) s_5) ∧ (¬ (s_5.2 3 (Int32.toNatClampNeg x6_4)) = (-1) → (vp_in x6_4 120 ∧ ((¬ (s_5.2 0 (Int32.toNatClampNeg x6_4)) = x4_2 → w_X1_isWithinReach_L19 x3_1 x4_2 x5_3 post K n (x6_4 + 1) s_5) ∧ ((s_5.2 0 (Int32.toNatClampNeg x6_4)) = x4_2 → (vp_in x6_4 120 ∧ (vp_in (((s_5.2 3 (Int32.toNatClampNeg x6_4)) * 10) + x3_1) 100 ∧ (((s_5.2 4 (Int32.toNatClampNeg (((s_5.2 3 (Int32.toNatClampNeg x6_4)) * 10) + x3_1))) ≤ (if 0 ≤ ((s_5.2 1 (Int32.toNatClampNeg x6_4)) - x5_3) then ((s_5.2 1 (Int32.toNatClampNeg x6_4)) - x5_3) else 0 - ((s_5.2 1 (Int32.toNatClampNeg x6_4)) - x5_3)) → w_X1_isWithinReach_L19 x3_1 x4_2 x5_3 post K n (x6_4 + 1) s_5) ∧ (¬ (s_5.2 4 (Int32.toNatClampNeg (((s_5.2 3 (Int32.toNatClampNeg x6_4)) * 10) + x3_1))) ≤ (if 0 ≤ ((s_5.2 1 (Int32.toNatClampNeg x6_4)) - x5_3) then ((s_5.2 1 (Int32.toNatClampNeg x6_4)) - x5_3) else 0 - ((s_5.2 1 (Int32.toNatClampNeg x6_4)) - x5_3)) → post 0 s_5))))))))))))
def w_X1_isWithinReach (σ : St) (x2 : Int32) (x3 : Int32) (post : Int32 → St → Prop) : Prop := (vp_in x2 120 ∧ (vp_in x2 120 ∧ (∃ n_12, w_X1_isWithinReach_L19 x3 (σ.2 0 (Int32.toNatClampNeg x2)) (σ.2 1 (Int32.toNatClampNeg x2)) post (fun x6_10 s_11 => post 1 s_11) n_12 0 σ)))

/-! PictureHeap$Atlas.possiblePlaces(LPictureHeap$Album;I)I (X1_possiblePlaces) -/
def w_X1_possiblePlaces_L22 (x2_2 : Int32) (post : Int32 → St → Prop) (K : Int32 → Int32 → St → Prop) : Nat → Int32 → Int32 → St → Prop
  | 0, _, _, _ => False
  | n + 1, x4_3, x5_4, s_5 => (((s_5.1 5) ≤ x5_4 → K x4_3 x5_4 s_5) ∧ (¬ (s_5.1 5) ≤ x5_4 → w_X1_isWithinReach s_5 x2_2 x5_4 (fun r_7 u_8 => ((r_7 = 0 → w_X1_possiblePlaces_L22 x2_2 post K n x4_3 (x5_4 + 1) u_8) ∧ (¬ r_7 = 0 → w_X1_possiblePlaces_L22 x2_2 post K n (x4_3 ||| (1 <<< (x5_4 &&& 31))) (x5_4 + 1) u_8)))))
def w_X1_possiblePlaces (σ : St) (x2 : Int32) (post : Int32 → St → Prop) : Prop := (vp_in x2 120 ∧ (((σ.2 3 (Int32.toNatClampNeg x2)) = (-1) → (∃ n_13, w_X1_possiblePlaces_L22 x2 post (fun x4_10 x5_11 s_12 => post x4_10 s_12) n_13 0 0 σ)) ∧ (¬ (σ.2 3 (Int32.toNatClampNeg x2)) = (-1) → post (1 <<< ((σ.2 3 (Int32.toNatClampNeg x2)) &&& 31)) σ)))

/-! PictureHeap.can(I)I (X5_can) -/
def w_X5_can (σ : St) (x1 : Int32) (post : Int32 → St → Prop) : Prop := w_X0_has σ x1 (fun r_1 u_2 => ((r_1 = 0 → post (-1) u_2) ∧ (¬ r_1 = 0 → w_X1_possiblePlaces u_2 x1 (fun r_4 u_5 => post r_4 u_5))))

/-! PictureHeap.found()I (X5_found) -/
def w_X5_found_L4 (post : Int32 → St → Prop) (K : Int32 → Int32 → St → Prop) : Nat → Int32 → Int32 → St → Prop
  | 0, _, _, _ => False
  | n + 1, x1_1, x2_2, s_3 => (((s_3.1 4) ≤ x2_2 → K x1_1 x2_2 s_3) ∧ (¬ (s_3.1 4) ≤ x2_2 → (vp_in x2_2 120 ∧ ((¬ (s_3.2 3 (Int32.toNatClampNeg x2_2)) = (-1) → w_X5_found_L4 post K n x1_1 (x2_2 + 1) s_3) ∧ ((s_3.2 3 (Int32.toNatClampNeg x2_2)) = (-1) → w_X1_possiblePlaces s_3 x2_2 (fun r_6 u_7 => w_J6_bitCount_0f7a4 r_6 (fun r_8 _ => ((¬ r_8 = 1 → w_X5_found_L4 post K n x1_1 (x2_2 + 1) u_7) ∧ (r_8 = 1 → w_X5_found_L4 post K n (x1_1 + 1) (x2_2 + 1) u_7)))))))))
def w_X5_found (σ : St) (post : Int32 → St → Prop) : Prop := (∃ n_14, w_X5_found_L4 post (fun x1_11 x2_12 s_13 => post x1_11 s_13) n_14 0 0 σ)

/-! PictureHeap.strange()I (X5_strange) -/
def w_X5_strange_L2 (post : Int32 → St → Prop) (K : Int32 → St → Prop) : Nat → Int32 → St → Prop
  | 0, _, _ => False
  | n + 1, x1_1, s_2 => (((s_2.1 4) ≤ x1_1 → K x1_1 s_2) ∧ (¬ (s_2.1 4) ≤ x1_1 → (vp_in x1_1 120 ∧ (((s_2.2 3 (Int32.toNatClampNeg x1_1)) = (-1) → w_X5_strange_L2 post K n (x1_1 + 1) s_2) ∧ (¬ (s_2.2 3 (Int32.toNatClampNeg x1_1)) = (-1) → w_X1_isWithinReach s_2 x1_1 (s_2.2 3 (Int32.toNatClampNeg x1_1)) (fun r_5 u_6 => ((¬ r_5 = 0 → w_X5_strange_L2 post K n (x1_1 + 1) u_6) ∧ (r_5 = 0 → post x1_1 u_6))))))))
def w_X5_strange (σ : St) (post : Int32 → St → Prop) : Prop := (∃ n_10, w_X5_strange_L2 post (fun x1_8 s_9 => post (-2) s_9) n_10 0 σ)

/-! PictureHeap.count(I)I (X5_count) -/
def w_X5_count (σ : St) (x1 : Int32) (post : Int32 → St → Prop) : Prop := (((x1.toInt < 0 ∨ 4 < x1.toInt) → post (-1) σ) ∧ (x1 = 0 → post (σ.1 0) σ) ∧ (x1 = 1 → post (σ.1 5) σ) ∧ (x1 = 2 → post (σ.1 4) σ) ∧ (x1 = 3 → post (σ.1 6) σ) ∧ (x1 = 4 → post (σ.1 7) σ))

/-! PictureHeap.trouble()I (X5_trouble) -/
def w_X5_trouble (σ : St) (post : Int32 → St → Prop) : Prop := post (σ.1 2) σ

/-! PictureHeapModel.done(I)I (X6_done) -/
def w_X6_done (σ : St) (x1 : Int32) (post : Int32 → St → Prop) : Prop := post x1 ((va_up σ.1 1 0), σ.2)

/-! PictureHeapModel.refused(I)I (X6_refused) -/
def w_X6_refused (σ : St) (x1 : Int32) (post : Int32 → St → Prop) : Prop := post (-1) ((va_up σ.1 1 x1), σ.2)

/-! PictureHeapModel.camera()I (X6_camera) -/
def w_X6_camera (σ : St) (post : Int32 → St → Prop) : Prop := ((¬ (σ.1 2) = 8 → w_X6_done ((va_up (va_up σ.1 0 0) 2 ((σ.1 2) + 1)), σ.2) (((σ.1 2) + 1) - 1) (fun r_2 u_3 => post r_2 u_3)) ∧ ((σ.1 2) = 8 → w_X6_refused ((va_up σ.1 0 0), σ.2) 3 (fun r_4 u_5 => post r_4 u_5)))

/-! PictureHeapModel.place()I (X6_place) -/
def w_X6_place (σ : St) (post : Int32 → St → Prop) : Prop := ((¬ (σ.1 3) = 10 → w_X6_done ((va_up (va_up σ.1 0 0) 3 ((σ.1 3) + 1)), σ.2) (((σ.1 3) + 1) - 1) (fun r_2 u_3 => post r_2 u_3)) ∧ ((σ.1 3) = 10 → w_X6_refused ((va_up σ.1 0 0), σ.2) 3 (fun r_4 u_5 => post r_4 u_5)))

/-! PictureHeapModel.isPlace(I)Z (X6_isPlace) -/
def w_X6_isPlace (σ : St) (x1 : Int32) (post : Int32 → St → Prop) : Prop := ((x1 < 0 → post 0 σ) ∧ (¬ x1 < 0 → (((σ.1 3) ≤ x1 → post 0 σ) ∧ (¬ (σ.1 3) ≤ x1 → post 1 σ))))

/-! PictureHeapModel.denied(I)Z (X6_denied) -/
def w_X6_denied (σ : St) (x1 : Int32) (post : Int32 → St → Prop) : Prop := post 0 ((va_up σ.1 1 x1), σ.2)

/-! PictureHeapModel.in(III)Z (X6_in) -/
def w_X6_in (x0 : Int32) (x1 : Int32) (x2 : Int32) (post : Int32 → Unit → Prop) : Prop := ((x0 < x1 → post 0 ()) ∧ (¬ x0 < x1 → ((x2 < x0 → post 0 ()) ∧ (¬ x2 < x0 → post 1 ()))))

/-! PictureHeapModel.granted()Z (X6_granted) -/
def w_X6_granted (σ : St) (post : Int32 → St → Prop) : Prop := post 1 ((va_up σ.1 1 0), σ.2)

/-! PictureHeapModel.way(III)Z (X6_way) -/
def w_X6_way (σ : St) (x1 : Int32) (x2 : Int32) (x3 : Int32) (post : Int32 → St → Prop) : Prop := w_X6_isPlace ((va_up σ.1 0 0), σ.2) x1 (fun r_1 u_2 => ((r_1 = 0 → w_X6_denied u_2 1 (fun r_4 u_5 => (narrow .boolean (.int r_4) = .int r_4 ∧ post r_4 u_5))) ∧ (¬ r_1 = 0 → w_X6_isPlace u_2 x2 (fun r_6 u_7 => ((r_6 = 0 → w_X6_denied u_7 1 (fun r_9 u_10 => (narrow .boolean (.int r_9) = .int r_9 ∧ post r_9 u_10))) ∧ (¬ r_6 = 0 → ((¬ x1 = x2 → w_X6_in x3 0 10000 (fun r_12 _ => ((¬ r_12 = 0 → (vp_in ((10 * x1) + x2) 100 ∧ (vp_in ((10 * x2) + x1) 100 ∧ w_X6_granted (u_7.1, (va_up (va_up u_7.2 0 (upd (u_7.2 0) (Int32.toNatClampNeg ((10 * x1) + x2)) x3)) 0 (upd ((upd (u_7.2 0) (Int32.toNatClampNeg ((10 * x1) + x2)) x3)) (Int32.toNatClampNeg ((10 * x2) + x1)) x3))) (fun r_15 u_16 => (narrow .boolean (.int r_15) = .int r_15 ∧ post r_15 u_16))))) ∧ (r_12 = 0 → w_X6_denied u_7 2 (fun r_17 u_18 => (narrow .boolean (.int r_17) = .int r_17 ∧ post r_17 u_18)))))) ∧ (x1 = x2 → w_X6_denied u_7 1 (fun r_19 u_20 => (narrow .boolean (.int r_19) = .int r_19 ∧ post r_19 u_20))))))))))

/-! PictureHeapModel.isCamera(I)Z (X6_isCamera) -/
def w_X6_isCamera (σ : St) (x1 : Int32) (post : Int32 → St → Prop) : Prop := ((x1 < 0 → post 0 σ) ∧ (¬ x1 < 0 → (((σ.1 2) ≤ x1 → post 0 σ) ∧ (¬ (σ.1 2) ≤ x1 → post 1 σ))))

/-! PictureHeapModel.picture(IIII)I (X6_picture) -/
def w_X6_picture_J34 (post : Int32 → St → Prop) (x1_7 : Int32) (x2_8 : Int32) (x3_9 : Int32) (x4_10 : Int32) (s_11 : St) : Prop := w_X6_in x2_8 0 100000 (fun r_12 _ => ((r_12 = 0 → w_X6_refused s_11 2 (fun r_15 u_16 => post r_15 u_16)) ∧ (¬ r_12 = 0 → w_X6_in x3_9 0 65535 (fun r_17 _ => ((¬ r_17 = 0 → ((¬ (s_11.1 4) = 120 → (vp_in (s_11.1 4) 120 ∧ (vp_in (s_11.1 4) 120 ∧ (vp_in (s_11.1 4) 120 ∧ (vp_in (s_11.1 4) 120 ∧ w_X6_done ((va_up s_11.1 4 ((s_11.1 4) + 1)), (va_up (va_up (va_up (va_up s_11.2 1 (upd (s_11.2 1) (Int32.toNatClampNeg (s_11.1 4)) x1_7)) 2 (upd (s_11.2 2) (Int32.toNatClampNeg (s_11.1 4)) x2_8)) 3 (upd (s_11.2 3) (Int32.toNatClampNeg (s_11.1 4)) x3_9)) 4 (upd (s_11.2 4) (Int32.toNatClampNeg (s_11.1 4)) x4_10))) (((s_11.1 4) + 1) - 1) (fun r_21 u_22 => post r_21 u_22)))))) ∧ ((s_11.1 4) = 120 → w_X6_refused s_11 3 (fun r_23 u_24 => post r_23 u_24)))) ∧ (r_17 = 0 → w_X6_refused s_11 2 (fun r_25 u_26 => post r_25 u_26)))))))
def w_X6_picture (σ : St) (x1 : Int32) (x2 : Int32) (x3 : Int32) (x4 : Int32) (post : Int32 → St → Prop) : Prop := w_X6_isCamera ((va_up σ.1 0 0), σ.2) x1 (fun r_1 u_2 => ((r_1 = 0 → w_X6_refused u_2 1 (fun r_4 u_5 => post r_4 u_5)) ∧ (¬ r_1 = 0 → ((x4 = (-1) → w_X6_picture_J34 post x1 x2 x3 x4 u_2) ∧ (¬ x4 = (-1) → w_X6_isPlace u_2 x4 (fun r_27 u_28 => ((¬ r_27 = 0 → w_X6_picture_J34 post x1 x2 x3 x4 u_28) ∧ (r_27 = 0 → w_X6_refused u_28 1 (fun r_30 u_31 => post r_30 u_31)))))))))

/-! PictureHeapModel.gap(I)Z (X6_gap) -/
def w_X6_gap (σ : St) (x1 : Int32) (post : Int32 → St → Prop) : Prop := w_X6_in x1 1 10000 (fun r_1 _ => ((¬ r_1 = 0 → w_X6_granted ((va_up (va_up σ.1 0 0) 7 x1), σ.2) (fun r_4 u_5 => (narrow .boolean (.int r_4) = .int r_4 ∧ post r_4 u_5))) ∧ (r_1 = 0 → w_X6_denied ((va_up σ.1 0 0), σ.2) 2 (fun r_6 u_7 => (narrow .boolean (.int r_6) = .int r_6 ∧ post r_6 u_7)))))

/-! PictureHeapModel.isPicture(I)Z (X6_isPicture) -/
def w_X6_isPicture (σ : St) (x1 : Int32) (post : Int32 → St → Prop) : Prop := ((x1 < 0 → post 0 σ) ∧ (¬ x1 < 0 → (((σ.1 4) ≤ x1 → post 0 σ) ∧ (¬ (σ.1 4) ≤ x1 → post 1 σ))))

/-! PictureHeapModel.first([I)V (X6_first_a10) -/
def w_X6_first_a10_L10 (x2_4 : Int32) (post : St → Prop) (K : Int32 → St → Prop) : Nat → Int32 → St → Prop
  | 0, _, _ => False
  | n + 1, x3_5, s_6 => ((8 ≤ x3_5 → K x3_5 s_6) ∧ (¬ 8 ≤ x3_5 → ((¬ x2_4 = x3_5 → ((x2_4 = 0 → (vp_in ((8 * x2_4) + x3_5) 64 ∧ w_X6_first_a10_L10 x2_4 post K n (x3_5 + 1) (s_6.1, (va_up s_6.2 10 (upd (s_6.2 10) (Int32.toNatClampNeg ((8 * x2_4) + x3_5)) 200000))))) ∧ (¬ x2_4 = 0 → ((¬ x3_5 = 0 → (vp_in ((8 * x2_4) + x3_5) 64 ∧ w_X6_first_a10_L10 x2_4 post K n (x3_5 + 1) (s_6.1, (va_up s_6.2 10 (upd (s_6.2 10) (Int32.toNatClampNeg ((8 * x2_4) + x3_5)) 400000))))) ∧ (x3_5 = 0 → (vp_in ((8 * x2_4) + x3_5) 64 ∧ w_X6_first_a10_L10 x2_4 post K n (x3_5 + 1) (s_6.1, (va_up s_6.2 10 (upd (s_6.2 10) (Int32.toNatClampNeg ((8 * x2_4) + x3_5)) 200000))))))))) ∧ (x2_4 = x3_5 → (vp_in ((8 * x2_4) + x3_5) 64 ∧ w_X6_first_a10_L10 x2_4 post K n (x3_5 + 1) (s_6.1, (va_up s_6.2 10 (upd (s_6.2 10) (Int32.toNatClampNeg ((8 * x2_4) + x3_5)) 0))))))))
def w_X6_first_a10_L2 (post : St → Prop) (K : Int32 → St → Prop) : Nat → Int32 → St → Prop
  | 0, _, _ => False
  | n + 1, x2_1, s_2 => ((8 ≤ x2_1 → K x2_1 s_2) ∧ (¬ 8 ≤ x2_1 → (∃ n_13, w_X6_first_a10_L10 x2_1 post (fun x3_11 s_12 => w_X6_first_a10_L2 post K n (x2_1 + 1) s_12) n_13 0 s_2)))
def w_X6_first_a10 (σ : St) (post : St → Prop) : Prop := (∃ n_16, w_X6_first_a10_L2 post (fun x2_14 s_15 => post s_15) n_16 0 σ)

/-! PictureHeapModel.least([IIII)V (X6_least) -/
def w_X6_least (f : (Nat → Int32)) (x1 : Int32) (x2 : Int32) (x3 : Int32) (post : (Nat → Int32) → Prop) : Prop := (vp_in ((8 * x1) + x2) 64 ∧ (vp_in ((8 * x1) + x2) 64 ∧ post (upd (f) (Int32.toNatClampNeg ((8 * x1) + x2)) (if x3 < (f (Int32.toNatClampNeg ((8 * x1) + x2))) then x3 else (f (Int32.toNatClampNeg ((8 * x1) + x2)))))))

/-! PictureHeapModel.bounds([II)V (X6_bounds_a10) -/
def w_X6_bounds_a10 (σ : St) (x2 : Int32) (post : St → Prop) : Prop := (vp_in x2 61 ∧ (((σ.2 6 (Int32.toNatClampNeg x2)) = 0 → (vp_in x2 61 ∧ (vp_in (σ.2 7 (Int32.toNatClampNeg x2)) 120 ∧ (vp_in x2 61 ∧ (vp_in (σ.2 8 (Int32.toNatClampNeg x2)) 120 ∧ (vp_in x2 61 ∧ (vp_in (σ.2 8 (Int32.toNatClampNeg x2)) 120 ∧ (vp_in x2 61 ∧ (vp_in (σ.2 7 (Int32.toNatClampNeg x2)) 120 ∧ (vp_in x2 61 ∧ w_X6_least (σ.2 10) (σ.2 1 (Int32.toNatClampNeg (σ.2 7 (Int32.toNatClampNeg x2)))) (σ.2 1 (Int32.toNatClampNeg (σ.2 8 (Int32.toNatClampNeg x2)))) ((σ.2 9 (Int32.toNatClampNeg x2)) + ((σ.2 2 (Int32.toNatClampNeg (σ.2 8 (Int32.toNatClampNeg x2)))) - (σ.2 2 (Int32.toNatClampNeg (σ.2 7 (Int32.toNatClampNeg x2)))))) (fun u_2 => (vp_in x2 61 ∧ w_X6_least (u_2) (σ.2 1 (Int32.toNatClampNeg (σ.2 8 (Int32.toNatClampNeg x2)))) (σ.2 1 (Int32.toNatClampNeg (σ.2 7 (Int32.toNatClampNeg x2)))) ((σ.2 9 (Int32.toNatClampNeg x2)) - ((σ.2 2 (Int32.toNatClampNeg (σ.2 8 (Int32.toNatClampNeg x2)))) - (σ.2 2 (Int32.toNatClampNeg (σ.2 7 (Int32.toNatClampNeg x2)))))) (fun u_4 => post (σ.1, (va_up (va_up σ.2 10 u_2) 10 u_4))))))))))))))) ∧ ((σ.2 6 (Int32.toNatClampNeg x2)) = 1 → (vp_in x2 61 ∧ (vp_in (σ.2 7 (Int32.toNatClampNeg x2)) 120 ∧ (vp_in x2 61 ∧ (vp_in (σ.2 8 (Int32.toNatClampNeg x2)) 120 ∧ (vp_in x2 61 ∧ (vp_in (σ.2 8 (Int32.toNatClampNeg x2)) 120 ∧ (vp_in x2 61 ∧ (vp_in (σ.2 7 (Int32.toNatClampNeg x2)) 120 ∧ w_X6_least (σ.2 10) (σ.2 1 (Int32.toNatClampNeg (σ.2 7 (Int32.toNatClampNeg x2)))) (σ.2 1 (Int32.toNatClampNeg (σ.2 8 (Int32.toNatClampNeg x2)))) (((σ.2 2 (Int32.toNatClampNeg (σ.2 8 (Int32.toNatClampNeg x2)))) - (σ.2 2 (Int32.toNatClampNeg (σ.2 7 (Int32.toNatClampNeg x2))))) - 1) (fun u_6 => post (σ.1, (va_up σ.2 10 u_6)))))))))))) ∧ ((¬ (σ.2 6 (Int32.toNatClampNeg x2)) = 0 ∧ ¬ (σ.2 6 (Int32.toNatClampNeg x2)) = 1) → (vp_in x2 61 ∧ (vp_in x2 61 ∧ w_X6_least (σ.2 10) (σ.2 7 (Int32.toNatClampNeg x2)) 0 (σ.2 9 (Int32.toNatClampNeg x2)) (fun u_8 => (vp_in x2 61 ∧ (vp_in x2 61 ∧ w_X6_least (u_8) 0 (σ.2 7 (Int32.toNatClampNeg x2)) (-(σ.2 8 (Int32.toNatClampNeg x2))) (fun u_10 => post (σ.1, (va_up (va_up σ.2 10 u_8) 10 u_10)))))))))))

/-! PictureHeapModel.closes([I)Z (X6_closes) -/
def w_X6_closes_L18 (x1_8 : Int32) (x2_9 : Int32) (post : Int32 → (Nat → Int32) → Prop) (K : Int32 → (Nat → Int32) → Prop) : Nat → Int32 → (Nat → Int32) → Prop
  | 0, _, _ => False
  | n + 1, x3_10, s_11 => ((8 ≤ x3_10 → K x3_10 s_11) ∧ (¬ 8 ≤ x3_10 → (vp_in ((8 * x2_9) + x1_8) 64 ∧ (vp_in ((8 * x1_8) + x3_10) 64 ∧ w_X6_least s_11 x2_9 x3_10 ((s_11 (Int32.toNatClampNeg ((8 * x2_9) + x1_8))) + (s_11 (Int32.toNatClampNeg ((8 * x1_8) + x3_10)))) (fun u_14 => w_X6_closes_L18 x1_8 x2_9 post K n (x3_10 + 1) u_14)))))
def w_X6_closes_L10 (x1_4 : Int32) (post : Int32 → (Nat → Int32) → Prop) (K : Int32 → (Nat → Int32) → Prop) : Nat → Int32 → (Nat → Int32) → Prop
  | 0, _, _ => False
  | n + 1, x2_5, s_6 => ((8 ≤ x2_5 → K x2_5 s_6) ∧ (¬ 8 ≤ x2_5 → (∃ n_17, w_X6_closes_L18 x1_4 x2_5 post (fun x3_15 s_16 => w_X6_closes_L10 x1_4 post K n (x2_5 + 1) s_16) n_17 0 s_6)))
def w_X6_closes_L2 (post : Int32 → (Nat → Int32) → Prop) (K : Int32 → (Nat → Int32) → Prop) : Nat → Int32 → (Nat → Int32) → Prop
  | 0, _, _ => False
  | n + 1, x1_1, s_2 => ((8 ≤ x1_1 → K x1_1 s_2) ∧ (¬ 8 ≤ x1_1 → (∃ n_20, w_X6_closes_L10 x1_1 post (fun x2_18 s_19 => w_X6_closes_L2 post K n (x1_1 + 1) s_19) n_20 0 s_2)))
def w_X6_closes_L69 (post : Int32 → (Nat → Int32) → Prop) (K : Int32 → Int32 → (Nat → Int32) → Prop) : Nat → Int32 → Int32 → (Nat → Int32) → Prop
  | 0, _, _, _ => False
  | n + 1, x1_23, x2_24, s_25 => ((8 ≤ x2_24 → K x1_23 x2_24 s_25) ∧ (¬ 8 ≤ x2_24 → ((x1_23 = 0 → w_X6_closes_L69 post K n 0 (x2_24 + 1) s_25) ∧ (¬ x1_23 = 0 → (vp_in ((8 * x2_24) + x2_24) 64 ∧ (((s_25 (Int32.toNatClampNeg ((8 * x2_24) + x2_24))) < 0 → w_X6_closes_L69 post K n 0 (x2_24 + 1) s_25) ∧ (¬ (s_25 (Int32.toNatClampNeg ((8 * x2_24) + x2_24))) < 0 → w_X6_closes_L69 post K n 1 (x2_24 + 1) s_25)))))))
def w_X6_closes (f : (Nat → Int32)) (post : Int32 → (Nat → Int32) → Prop) : Prop := (∃ n_33, w_X6_closes_L2 post (fun x1_21 s_22 => (∃ n_32, w_X6_closes_L69 post (fun x1_29 x2_30 s_31 => (narrow .boolean (.int x1_29) = .int x1_29 ∧ post x1_29 s_31)) n_32 1 0 s_22)) n_33 0 f)

/-! PictureHeapModel.closed([II)Z (X6_closed_a10) -/
def w_X6_closed_a10_L7 (x2_3 : Int32) (post : Int32 → St → Prop) (K : Int32 → St → Prop) : Nat → Int32 → St → Prop
  | 0, _, _ => False
  | n + 1, x3_4, s_5 => (((s_5.1 5) ≤ x3_4 → K x3_4 s_5) ∧ (¬ (s_5.1 5) ≤ x3_4 → ((x3_4 = x2_3 → w_X6_closed_a10_L7 x2_3 post K n (x3_4 + 1) s_5) ∧ (¬ x3_4 = x2_3 → w_X6_bounds_a10 s_5 x3_4 (fun u_9 => w_X6_closed_a10_L7 x2_3 post K n (x3_4 + 1) u_9)))))
def w_X6_closed_a10 (σ : St) (x2 : Int32) (post : Int32 → St → Prop) : Prop := w_X6_first_a10 σ (fun u_2 => (∃ n_14, w_X6_closed_a10_L7 x2 post (fun x3_10 s_11 => w_X6_closes (s_11.2 10) (fun r_12 u_13 => (narrow .boolean (.int r_12) = .int r_12 ∧ post r_12 (s_11.1, (va_up s_11.2 10 u_13))))) n_14 0 u_2))

/-! PictureHeapModel.first([I)V (X6_first_a12) -/
def w_X6_first_a12_L10 (x2_4 : Int32) (post : St → Prop) (K : Int32 → St → Prop) : Nat → Int32 → St → Prop
  | 0, _, _ => False
  | n + 1, x3_5, s_6 => ((8 ≤ x3_5 → K x3_5 s_6) ∧ (¬ 8 ≤ x3_5 → ((¬ x2_4 = x3_5 → ((x2_4 = 0 → (vp_in ((8 * x2_4) + x3_5) 64 ∧ w_X6_first_a12_L10 x2_4 post K n (x3_5 + 1) (s_6.1, (va_up s_6.2 12 (upd (s_6.2 12) (Int32.toNatClampNeg ((8 * x2_4) + x3_5)) 200000))))) ∧ (¬ x2_4 = 0 → ((¬ x3_5 = 0 → (vp_in ((8 * x2_4) + x3_5) 64 ∧ w_X6_first_a12_L10 x2_4 post K n (x3_5 + 1) (s_6.1, (va_up s_6.2 12 (upd (s_6.2 12) (Int32.toNatClampNeg ((8 * x2_4) + x3_5)) 400000))))) ∧ (x3_5 = 0 → (vp_in ((8 * x2_4) + x3_5) 64 ∧ w_X6_first_a12_L10 x2_4 post K n (x3_5 + 1) (s_6.1, (va_up s_6.2 12 (upd (s_6.2 12) (Int32.toNatClampNeg ((8 * x2_4) + x3_5)) 200000))))))))) ∧ (x2_4 = x3_5 → (vp_in ((8 * x2_4) + x3_5) 64 ∧ w_X6_first_a12_L10 x2_4 post K n (x3_5 + 1) (s_6.1, (va_up s_6.2 12 (upd (s_6.2 12) (Int32.toNatClampNeg ((8 * x2_4) + x3_5)) 0))))))))
def w_X6_first_a12_L2 (post : St → Prop) (K : Int32 → St → Prop) : Nat → Int32 → St → Prop
  | 0, _, _ => False
  | n + 1, x2_1, s_2 => ((8 ≤ x2_1 → K x2_1 s_2) ∧ (¬ 8 ≤ x2_1 → (∃ n_13, w_X6_first_a12_L10 x2_1 post (fun x3_11 s_12 => w_X6_first_a12_L2 post K n (x2_1 + 1) s_12) n_13 0 s_2)))
def w_X6_first_a12 (σ : St) (post : St → Prop) : Prop := (∃ n_16, w_X6_first_a12_L2 post (fun x2_14 s_15 => post s_15) n_16 0 σ)

/-! PictureHeapModel.bounds([II)V (X6_bounds_a12) -/
def w_X6_bounds_a12 (σ : St) (x2 : Int32) (post : St → Prop) : Prop := (vp_in x2 61 ∧ (((σ.2 6 (Int32.toNatClampNeg x2)) = 0 → (vp_in x2 61 ∧ (vp_in (σ.2 7 (Int32.toNatClampNeg x2)) 120 ∧ (vp_in x2 61 ∧ (vp_in (σ.2 8 (Int32.toNatClampNeg x2)) 120 ∧ (vp_in x2 61 ∧ (vp_in (σ.2 8 (Int32.toNatClampNeg x2)) 120 ∧ (vp_in x2 61 ∧ (vp_in (σ.2 7 (Int32.toNatClampNeg x2)) 120 ∧ (vp_in x2 61 ∧ w_X6_least (σ.2 12) (σ.2 1 (Int32.toNatClampNeg (σ.2 7 (Int32.toNatClampNeg x2)))) (σ.2 1 (Int32.toNatClampNeg (σ.2 8 (Int32.toNatClampNeg x2)))) ((σ.2 9 (Int32.toNatClampNeg x2)) + ((σ.2 2 (Int32.toNatClampNeg (σ.2 8 (Int32.toNatClampNeg x2)))) - (σ.2 2 (Int32.toNatClampNeg (σ.2 7 (Int32.toNatClampNeg x2)))))) (fun u_2 => (vp_in x2 61 ∧ w_X6_least (u_2) (σ.2 1 (Int32.toNatClampNeg (σ.2 8 (Int32.toNatClampNeg x2)))) (σ.2 1 (Int32.toNatClampNeg (σ.2 7 (Int32.toNatClampNeg x2)))) ((σ.2 9 (Int32.toNatClampNeg x2)) - ((σ.2 2 (Int32.toNatClampNeg (σ.2 8 (Int32.toNatClampNeg x2)))) - (σ.2 2 (Int32.toNatClampNeg (σ.2 7 (Int32.toNatClampNeg x2)))))) (fun u_4 => post (σ.1, (va_up (va_up σ.2 12 u_2) 12 u_4))))))))))))))) ∧ ((σ.2 6 (Int32.toNatClampNeg x2)) = 1 → (vp_in x2 61 ∧ (vp_in (σ.2 7 (Int32.toNatClampNeg x2)) 120 ∧ (vp_in x2 61 ∧ (vp_in (σ.2 8 (Int32.toNatClampNeg x2)) 120 ∧ (vp_in x2 61 ∧ (vp_in (σ.2 8 (Int32.toNatClampNeg x2)) 120 ∧ (vp_in x2 61 ∧ (vp_in (σ.2 7 (Int32.toNatClampNeg x2)) 120 ∧ w_X6_least (σ.2 12) (σ.2 1 (Int32.toNatClampNeg (σ.2 7 (Int32.toNatClampNeg x2)))) (σ.2 1 (Int32.toNatClampNeg (σ.2 8 (Int32.toNatClampNeg x2)))) (((σ.2 2 (Int32.toNatClampNeg (σ.2 8 (Int32.toNatClampNeg x2)))) - (σ.2 2 (Int32.toNatClampNeg (σ.2 7 (Int32.toNatClampNeg x2))))) - 1) (fun u_6 => post (σ.1, (va_up σ.2 12 u_6)))))))))))) ∧ ((¬ (σ.2 6 (Int32.toNatClampNeg x2)) = 0 ∧ ¬ (σ.2 6 (Int32.toNatClampNeg x2)) = 1) → (vp_in x2 61 ∧ (vp_in x2 61 ∧ w_X6_least (σ.2 12) (σ.2 7 (Int32.toNatClampNeg x2)) 0 (σ.2 9 (Int32.toNatClampNeg x2)) (fun u_8 => (vp_in x2 61 ∧ (vp_in x2 61 ∧ w_X6_least (u_8) 0 (σ.2 7 (Int32.toNatClampNeg x2)) (-(σ.2 8 (Int32.toNatClampNeg x2))) (fun u_10 => post (σ.1, (va_up (va_up σ.2 12 u_8) 12 u_10)))))))))))

/-! PictureHeapModel.breaks([I)Z (X6_breaks_a10) -/
def w_X6_breaks_a10_L10 (post : Int32 → St → Prop) (K : Int32 → St → Prop) : Nat → Int32 → St → Prop
  | 0, _, _ => False
  | n + 1, x2_3, s_4 => ((64 ≤ x2_3 → K x2_3 s_4) ∧ (¬ 64 ≤ x2_3 → (vp_in x2_3 64 ∧ w_X6_breaks_a10_L10 post K n (x2_3 + 1) (s_4.1, (va_up s_4.2 12 (upd (s_4.2 12) (Int32.toNatClampNeg x2_3) 100000000))))))
def w_X6_breaks_a10_L55 (x3_14 : Int32) (post : Int32 → St → Prop) (K : Int32 → Int32 → St → Prop) : Nat → Int32 → Int32 → St → Prop
  | 0, _, _, _ => False
  | n + 1, x2_15, x4_16, s_17 => ((8 ≤ x4_16 → K x2_15 x4_16 s_17) ∧ (¬ 8 ≤ x4_16 → ((¬ x2_15 = 0 → w_X6_breaks_a10_L55 x3_14 post K n 1 (x4_16 + 1) s_17) ∧ (x2_15 = 0 → (vp_in ((8 * x3_14) + x4_16) 64 ∧ ((100000000 ≤ (s_17.2 12 (Int32.toNatClampNeg ((8 * x3_14) + x4_16))) → w_X6_breaks_a10_L55 x3_14 post K n 0 (x4_16 + 1) s_17) ∧ (¬ 100000000 ≤ (s_17.2 12 (Int32.toNatClampNeg ((8 * x3_14) + x4_16))) → (vp_in ((8 * x3_14) + x4_16) 64 ∧ (vp_in ((8 * x4_16) + x3_14) 64 ∧ ((0 ≤ ((s_17.2 12 (Int32.toNatClampNeg ((8 * x3_14) + x4_16))) + (s_17.2 10 (Int32.toNatClampNeg ((8 * x4_16) + x3_14)))) → w_X6_breaks_a10_L55 x3_14 post K n 0 (x4_16 + 1) s_17) ∧ (¬ 0 ≤ ((s_17.2 12 (Int32.toNatClampNeg ((8 * x3_14) + x4_16))) + (s_17.2 10 (Int32.toNatClampNeg ((8 * x4_16) + x3_14)))) → w_X6_breaks_a10_L55 x3_14 post K n 1 (x4_16 + 1) s_17)))))))))))
def w_X6_breaks_a10_L46 (post : Int32 → St → Prop) (K : Int32 → Int32 → St → Prop) : Nat → Int32 → Int32 → St → Prop
  | 0, _, _, _ => False
  | n + 1, x2_10, x3_11, s_12 => ((8 ≤ x3_11 → K x2_10 x3_11 s_12) ∧ (¬ 8 ≤ x3_11 → (∃ n_25, w_X6_breaks_a10_L55 x3_11 post (fun x2_22 x4_23 s_24 => w_X6_breaks_a10_L46 post K n x2_22 (x3_11 + 1) s_24) n_25 x2_10 0 s_12)))
def w_X6_breaks_a10 (σ : St) (post : Int32 → St → Prop) : Prop := w_X6_first_a12 σ (fun u_2 => (∃ n_30, w_X6_breaks_a10_L10 post (fun x2_6 s_7 => w_X6_bounds_a12 s_7 (s_7.1 5) (fun u_9 => (∃ n_29, w_X6_breaks_a10_L46 post (fun x2_26 x3_27 s_28 => (narrow .boolean (.int x2_26) = .int x2_26 ∧ post x2_26 s_28)) n_29 0 0 u_9))) n_30 0 u_2))

/-! PictureHeapModel.first([I)V (X6_first_a15) -/
def w_X6_first_a15_L10 (x2_4 : Int32) (post : St → Prop) (K : Int32 → St → Prop) : Nat → Int32 → St → Prop
  | 0, _, _ => False
  | n + 1, x3_5, s_6 => ((8 ≤ x3_5 → K x3_5 s_6) ∧ (¬ 8 ≤ x3_5 → ((¬ x2_4 = x3_5 → ((x2_4 = 0 → (vp_in ((8 * x2_4) + x3_5) 64 ∧ w_X6_first_a15_L10 x2_4 post K n (x3_5 + 1) (s_6.1, (va_up s_6.2 15 (upd (s_6.2 15) (Int32.toNatClampNeg ((8 * x2_4) + x3_5)) 200000))))) ∧ (¬ x2_4 = 0 → ((¬ x3_5 = 0 → (vp_in ((8 * x2_4) + x3_5) 64 ∧ w_X6_first_a15_L10 x2_4 post K n (x3_5 + 1) (s_6.1, (va_up s_6.2 15 (upd (s_6.2 15) (Int32.toNatClampNeg ((8 * x2_4) + x3_5)) 400000))))) ∧ (x3_5 = 0 → (vp_in ((8 * x2_4) + x3_5) 64 ∧ w_X6_first_a15_L10 x2_4 post K n (x3_5 + 1) (s_6.1, (va_up s_6.2 15 (upd (s_6.2 15) (Int32.toNatClampNeg ((8 * x2_4) + x3_5)) 200000))))))))) ∧ (x2_4 = x3_5 → (vp_in ((8 * x2_4) + x3_5) 64 ∧ w_X6_first_a15_L10 x2_4 post K n (x3_5 + 1) (s_6.1, (va_up s_6.2 15 (upd (s_6.2 15) (Int32.toNatClampNeg ((8 * x2_4) + x3_5)) 0))))))))
def w_X6_first_a15_L2 (post : St → Prop) (K : Int32 → St → Prop) : Nat → Int32 → St → Prop
  | 0, _, _ => False
  | n + 1, x2_1, s_2 => ((8 ≤ x2_1 → K x2_1 s_2) ∧ (¬ 8 ≤ x2_1 → (∃ n_13, w_X6_first_a15_L10 x2_1 post (fun x3_11 s_12 => w_X6_first_a15_L2 post K n (x2_1 + 1) s_12) n_13 0 s_2)))
def w_X6_first_a15 (σ : St) (post : St → Prop) : Prop := (∃ n_16, w_X6_first_a15_L2 post (fun x2_14 s_15 => post s_15) n_16 0 σ)

/-! PictureHeapModel.breaks([I)Z (X6_breaks_a13) -/
def w_X6_breaks_a13_L10 (post : Int32 → St → Prop) (K : Int32 → St → Prop) : Nat → Int32 → St → Prop
  | 0, _, _ => False
  | n + 1, x2_3, s_4 => ((64 ≤ x2_3 → K x2_3 s_4) ∧ (¬ 64 ≤ x2_3 → (vp_in x2_3 64 ∧ w_X6_breaks_a13_L10 post K n (x2_3 + 1) (s_4.1, (va_up s_4.2 12 (upd (s_4.2 12) (Int32.toNatClampNeg x2_3) 100000000))))))
def w_X6_breaks_a13_L55 (x3_14 : Int32) (post : Int32 → St → Prop) (K : Int32 → Int32 → St → Prop) : Nat → Int32 → Int32 → St → Prop
  | 0, _, _, _ => False
  | n + 1, x2_15, x4_16, s_17 => ((8 ≤ x4_16 → K x2_15 x4_16 s_17) ∧ (¬ 8 ≤ x4_16 → ((¬ x2_15 = 0 → w_X6_breaks_a13_L55 x3_14 post K n 1 (x4_16 + 1) s_17) ∧ (x2_15 = 0 → (vp_in ((8 * x3_14) + x4_16) 64 ∧ ((100000000 ≤ (s_17.2 12 (Int32.toNatClampNeg ((8 * x3_14) + x4_16))) → w_X6_breaks_a13_L55 x3_14 post K n 0 (x4_16 + 1) s_17) ∧ (¬ 100000000 ≤ (s_17.2 12 (Int32.toNatClampNeg ((8 * x3_14) + x4_16))) → (vp_in ((8 * x3_14) + x4_16) 64 ∧ (vp_in ((8 * x4_16) + x3_14) 64 ∧ ((0 ≤ ((s_17.2 12 (Int32.toNatClampNeg ((8 * x3_14) + x4_16))) + (s_17.2 13 (Int32.toNatClampNeg ((8 * x4_16) + x3_14)))) → w_X6_breaks_a13_L55 x3_14 post K n 0 (x4_16 + 1) s_17) ∧ (¬ 0 ≤ ((s_17.2 12 (Int32.toNatClampNeg ((8 * x3_14) + x4_16))) + (s_17.2 13 (Int32.toNatClampNeg ((8 * x4_16) + x3_14)))) → w_X6_breaks_a13_L55 x3_14 post K n 1 (x4_16 + 1) s_17)))))))))))
def w_X6_breaks_a13_L46 (post : Int32 → St → Prop) (K : Int32 → Int32 → St → Prop) : Nat → Int32 → Int32 → St → Prop
  | 0, _, _, _ => False
  | n + 1, x2_10, x3_11, s_12 => ((8 ≤ x3_11 → K x2_10 x3_11 s_12) ∧ (¬ 8 ≤ x3_11 → (∃ n_25, w_X6_breaks_a13_L55 x3_11 post (fun x2_22 x4_23 s_24 => w_X6_breaks_a13_L46 post K n x2_22 (x3_11 + 1) s_24) n_25 x2_10 0 s_12)))
def w_X6_breaks_a13 (σ : St) (post : Int32 → St → Prop) : Prop := w_X6_first_a12 σ (fun u_2 => (∃ n_30, w_X6_breaks_a13_L10 post (fun x2_6 s_7 => w_X6_bounds_a12 s_7 (s_7.1 5) (fun u_9 => (∃ n_29, w_X6_breaks_a13_L46 post (fun x2_26 x3_27 s_28 => (narrow .boolean (.int x2_26) = .int x2_26 ∧ post x2_26 s_28)) n_29 0 0 u_9))) n_30 0 u_2))

/-! PictureHeapModel.fewest()I (X6_fewest) -/
def w_X6_fewest_L18 (post : Int32 → St → Prop) (K : Int32 → St → Prop) : Nat → Int32 → St → Prop
  | 0, _, _ => False
  | n + 1, x2_5, s_6 => ((64 ≤ x2_5 → K x2_5 s_6) ∧ (¬ 64 ≤ x2_5 → (vp_in x2_5 64 ∧ (vp_in x2_5 64 ∧ w_X6_fewest_L18 post K n (x2_5 + 1) (s_6.1, (va_up s_6.2 13 (upd (s_6.2 13) (Int32.toNatClampNeg x2_5) (s_6.2 15 (Int32.toNatClampNeg x2_5)))))))))
def w_X6_fewest_L60 (x2_15 : Int32) (post : Int32 → St → Prop) (K : Int32 → St → Prop) : Nat → Int32 → St → Prop
  | 0, _, _ => False
  | n + 1, x3_16, s_17 => ((64 ≤ x3_16 → K x3_16 s_17) ∧ (¬ 64 ≤ x3_16 → (vp_in x3_16 64 ∧ (vp_in x3_16 64 ∧ (vp_in x3_16 64 ∧ w_X6_fewest_L60 x2_15 post K n (x3_16 + 1) (s_17.1, (va_up (va_up s_17.2 14 (upd (s_17.2 14) (Int32.toNatClampNeg x3_16) (s_17.2 13 (Int32.toNatClampNeg x3_16)))) 12 (upd (s_17.2 12) (Int32.toNatClampNeg x3_16) 100000000))))))))
def w_X6_fewest_L94 (x2_21 : Int32) (post : Int32 → St → Prop) (K : Int32 → St → Prop) : Nat → Int32 → St → Prop
  | 0, _, _ => False
  | n + 1, x3_22, s_23 => (((s_23.1 5) ≤ x3_22 → K x3_22 s_23) ∧ (¬ (s_23.1 5) ≤ x3_22 → w_X6_bounds_a12 s_23 x3_22 (fun u_26 => w_X6_fewest_L94 x2_21 post K n (x3_22 + 1) u_26)))
def w_X6_fewest_L168 (x2_45 : Int32) (x3_46 : Int32) (x4_47 : Int32) (x5_48 : Int32) (post : Int32 → St → Prop) (K : Int32 → St → Prop) : Nat → Int32 → St → Prop
  | 0, _, _ => False
  | n + 1, x6_49, s_50 => ((8 ≤ x6_49 → K x6_49 s_50) ∧ (¬ 8 ≤ x6_49 → (vp_in ((8 * x5_48) + x3_46) 64 ∧ (vp_in ((8 * x3_46) + x4_47) 64 ∧ (vp_in ((8 * x4_47) + x6_49) 64 ∧ w_X6_least (s_50.2 14) x5_48 x6_49 (((s_50.2 13 (Int32.toNatClampNeg ((8 * x5_48) + x3_46))) + (s_50.2 12 (Int32.toNatClampNeg ((8 * x3_46) + x4_47)))) + (s_50.2 15 (Int32.toNatClampNeg ((8 * x4_47) + x6_49)))) (fun u_53 => w_X6_fewest_L168 x2_45 x3_46 x4_47 x5_48 post K n (x6_49 + 1) (s_50.1, (va_up s_50.2 14 u_53))))))))
def w_X6_fewest_L158 (x2_39 : Int32) (x3_40 : Int32) (x4_41 : Int32) (post : Int32 → St → Prop) (K : Int32 → St → Prop) : Nat → Int32 → St → Prop
  | 0, _, _ => False
  | n + 1, x5_42, s_43 => ((8 ≤ x5_42 → K x5_42 s_43) ∧ (¬ 8 ≤ x5_42 → (∃ n_56, w_X6_fewest_L168 x2_39 x3_40 x4_41 x5_42 post (fun x6_54 s_55 => w_X6_fewest_L158 x2_39 x3_40 x4_41 post K n (x5_42 + 1) s_55) n_56 0 s_43)))
def w_X6_fewest_L128 (x2_33 : Int32) (x3_34 : Int32) (post : Int32 → St → Prop) (K : Int32 → St → Prop) : Nat → Int32 → St → Prop
  | 0, _, _ => False
  | n + 1, x4_35, s_36 => ((8 ≤ x4_35 → K x4_35 s_36) ∧ (¬ 8 ≤ x4_35 → (vp_in ((8 * x3_34) + x4_35) 64 ∧ ((¬ (s_36.2 12 (Int32.toNatClampNeg ((8 * x3_34) + x4_35))) = 100000000 → (∃ n_59, w_X6_fewest_L158 x2_33 x3_34 x4_35 post (fun x5_57 s_58 => w_X6_fewest_L128 x2_33 x3_34 post K n (x4_35 + 1) s_58) n_59 0 s_36)) ∧ ((s_36.2 12 (Int32.toNatClampNeg ((8 * x3_34) + x4_35))) = 100000000 → w_X6_fewest_L128 x2_33 x3_34 post K n (x4_35 + 1) s_36)))))
def w_X6_fewest_L119 (x2_29 : Int32) (post : Int32 → St → Prop) (K : Int32 → St → Prop) : Nat → Int32 → St → Prop
  | 0, _, _ => False
  | n + 1, x3_30, s_31 => ((8 ≤ x3_30 → K x3_30 s_31) ∧ (¬ 8 ≤ x3_30 → (∃ n_62, w_X6_fewest_L128 x2_29 x3_30 post (fun x4_60 s_61 => w_X6_fewest_L119 x2_29 post K n (x3_30 + 1) s_61) n_62 0 s_31)))
def w_X6_fewest_L251 (x2_65 : Int32) (post : Int32 → St → Prop) (K : Int32 → St → Prop) : Nat → Int32 → St → Prop
  | 0, _, _ => False
  | n + 1, x3_66, s_67 => ((64 ≤ x3_66 → K x3_66 s_67) ∧ (¬ 64 ≤ x3_66 → (vp_in x3_66 64 ∧ (vp_in x3_66 64 ∧ w_X6_fewest_L251 x2_65 post K n (x3_66 + 1) (s_67.1, (va_up s_67.2 13 (upd (s_67.2 13) (Int32.toNatClampNeg x3_66) (s_67.2 14 (Int32.toNatClampNeg x3_66)))))))))
def w_X6_fewest_L44 (post : Int32 → St → Prop) (K : Int32 → St → Prop) : Nat → Int32 → St → Prop
  | 0, _, _ => False
  | n + 1, x2_10, s_11 => w_X6_breaks_a13 s_11 (fun r_12 u_13 => ((¬ r_12 = 0 → K x2_10 u_13) ∧ (r_12 = 0 → (∃ n_74, w_X6_fewest_L60 (x2_10 + 1) post (fun x3_19 s_20 => (∃ n_73, w_X6_fewest_L94 (x2_10 + 1) post (fun x3_27 s_28 => (∃ n_72, w_X6_fewest_L119 (x2_10 + 1) post (fun x3_63 s_64 => (∃ n_71, w_X6_fewest_L251 (x2_10 + 1) post (fun x3_69 s_70 => w_X6_fewest_L44 post K n (x2_10 + 1) s_70) n_71 0 s_64)) n_72 0 s_28)) n_73 0 s_20)) n_74 0 u_13))))
def w_X6_fewest (σ : St) (post : Int32 → St → Prop) : Prop := w_X6_first_a15 σ (fun u_2 => w_X6_closes (u_2.2 15) (fun r_3 u_4 => (∃ n_78, w_X6_fewest_L18 post (fun x2_8 s_9 => (∃ n_77, w_X6_fewest_L44 post (fun x2_75 s_76 => post x2_75 s_76) n_77 0 s_9)) n_78 0 (u_2.1, (va_up u_2.2 15 u_4)))))

/-! PictureHeapModel.tie(IIII)I (X6_tie) -/
def w_X6_tie (σ : St) (x1 : Int32) (x2 : Int32) (x3 : Int32) (x4 : Int32) (post : Int32 → St → Prop) : Prop := ((¬ (σ.1 5) = 60 → (vp_in (σ.1 5) 61 ∧ (vp_in (σ.1 5) 61 ∧ (vp_in (σ.1 5) 61 ∧ (vp_in (σ.1 5) 61 ∧ w_X6_closed_a10 (σ.1, (va_up (va_up (va_up (va_up σ.2 6 (upd (σ.2 6) (Int32.toNatClampNeg (σ.1 5)) x1)) 7 (upd (σ.2 7) (Int32.toNatClampNeg (σ.1 5)) x2)) 8 (upd (σ.2 8) (Int32.toNatClampNeg (σ.1 5)) x3)) 9 (upd (σ.2 9) (Int32.toNatClampNeg (σ.1 5)) x4))) (-1) (fun r_2 u_3 => w_X6_breaks_a10 u_3 (fun r_4 u_5 => ((r_4 = 0 → (vp_in (u_5.1 5) 61 ∧ w_X6_done ((va_up (va_up u_5.1 5 ((u_5.1 5) + 1)) 6 ((u_5.1 6) + 1)), (va_up u_5.2 5 (upd (u_5.2 5) (Int32.toNatClampNeg (u_5.1 5)) (u_5.1 6)))) (((u_5.1 6) + 1) - 1) (fun r_7 u_8 => post r_7 u_8))) ∧ (¬ r_4 = 0 → w_X6_fewest u_5 (fun r_9 u_10 => w_X6_refused ((va_up u_10.1 8 r_9), u_10.2) 4 (fun r_11 u_12 => post r_11 u_12))))))))))) ∧ ((σ.1 5) = 60 → w_X6_refused σ 3 (fun r_13 u_14 => post r_13 u_14)))

/-! PictureHeapModel.near(III)I (X6_near) -/
def w_X6_near (σ : St) (x1 : Int32) (x2 : Int32) (x3 : Int32) (post : Int32 → St → Prop) : Prop := w_X6_isPicture ((va_up σ.1 0 0), σ.2) x1 (fun r_1 u_2 => ((r_1 = 0 → w_X6_refused u_2 1 (fun r_4 u_5 => post r_4 u_5)) ∧ (¬ r_1 = 0 → w_X6_isPicture u_2 x2 (fun r_6 u_7 => ((¬ r_6 = 0 → w_X6_in x3 0 10000 (fun r_9 _ => ((¬ r_9 = 0 → w_X6_tie u_7 0 x1 x2 x3 (fun r_12 u_13 => post r_12 u_13)) ∧ (r_9 = 0 → w_X6_refused u_7 2 (fun r_14 u_15 => post r_14 u_15))))) ∧ (r_6 = 0 → w_X6_refused u_7 1 (fun r_16 u_17 => post r_16 u_17)))))))

/-! PictureHeapModel.ahead(II)I (X6_ahead) -/
def w_X6_ahead (σ : St) (x1 : Int32) (x2 : Int32) (post : Int32 → St → Prop) : Prop := w_X6_isPicture ((va_up σ.1 0 0), σ.2) x1 (fun r_1 u_2 => ((r_1 = 0 → w_X6_refused u_2 1 (fun r_4 u_5 => post r_4 u_5)) ∧ (¬ r_1 = 0 → w_X6_isPicture u_2 x2 (fun r_6 u_7 => ((¬ r_6 = 0 → w_X6_tie u_7 1 x1 x2 0 (fun r_9 u_10 => post r_9 u_10)) ∧ (r_6 = 0 → w_X6_refused u_7 1 (fun r_11 u_12 => post r_11 u_12)))))))

/-! PictureHeapModel.off(III)I (X6_off) -/
def w_X6_off (σ : St) (x1 : Int32) (x2 : Int32) (x3 : Int32) (post : Int32 → St → Prop) : Prop := w_X6_isCamera ((va_up σ.1 0 0), σ.2) x1 (fun r_1 u_2 => ((¬ r_1 = 0 → w_X6_in x2 (-200000) x3 (fun r_4 _ => ((r_4 = 0 → w_X6_refused u_2 2 (fun r_7 u_8 => post r_7 u_8)) ∧ (¬ r_4 = 0 → ((x3 ≤ 200000 → w_X6_tie u_2 2 x1 x2 x3 (fun r_10 u_11 => post r_10 u_11)) ∧ (¬ x3 ≤ 200000 → w_X6_refused u_2 2 (fun r_12 u_13 => post r_12 u_13))))))) ∧ (r_1 = 0 → w_X6_refused u_2 1 (fun r_14 u_15 => post r_14 u_15))))

/-! PictureHeapModel.quarrel()I (X6_quarrel) -/
def w_X6_quarrel (σ : St) (post : Int32 → St → Prop) : Prop := post (σ.1 8) ((va_up σ.1 0 0), σ.2)

/-! PictureHeapModel.tieAt(I)I (X6_tieAt) -/
def w_X6_tieAt_L2 (x1_1 : Int32) (post : Int32 → St → Prop) (K : Int32 → St → Prop) : Nat → Int32 → St → Prop
  | 0, _, _ => False
  | n + 1, x2_2, s_3 => (((s_3.1 5) ≤ x2_2 → K x2_2 s_3) ∧ (¬ (s_3.1 5) ≤ x2_2 → (vp_in x2_2 61 ∧ (((s_3.2 5 (Int32.toNatClampNeg x2_2)) = x1_1 → K x2_2 s_3) ∧ (¬ (s_3.2 5 (Int32.toNatClampNeg x2_2)) = x1_1 → w_X6_tieAt_L2 x1_1 post K n (x2_2 + 1) s_3)))))
def w_X6_tieAt_J26 (post : Int32 → St → Prop) (x2_8 : Int32) (s_9 : St) : Prop := (((s_9.1 5) ≤ x2_8 → post (-1) s_9) ∧ (¬ (s_9.1 5) ≤ x2_8 → post x2_8 s_9))
def w_X6_tieAt (σ : St) (x1 : Int32) (post : Int32 → St → Prop) : Prop := (∃ n_11, w_X6_tieAt_L2 x1 post (fun x2_6 s_7 => w_X6_tieAt_J26 post x2_6 s_7) n_11 0 σ)

/-! PictureHeapModel.untie(I)Z (X6_untie) -/
def w_X6_untie_L32 (post : Int32 → St → Prop) (K : Int32 → St → Prop) : Nat → Int32 → St → Prop
  | 0, _, _ => False
  | n + 1, x2_4, s_5 => (((s_5.1 5) ≤ x2_4 → K x2_4 s_5) ∧ (¬ (s_5.1 5) ≤ x2_4 → (vp_in (x2_4 + 1) 61 ∧ (vp_in x2_4 61 ∧ (vp_in (x2_4 + 1) 61 ∧ (vp_in x2_4 61 ∧ (vp_in (x2_4 + 1) 61 ∧ (vp_in x2_4 61 ∧ (vp_in (x2_4 + 1) 61 ∧ (vp_in x2_4 61 ∧ (vp_in (x2_4 + 1) 61 ∧ (vp_in x2_4 61 ∧ w_X6_untie_L32 post K n (x2_4 + 1) (s_5.1, (va_up (va_up (va_up (va_up (va_up s_5.2 5 (upd (s_5.2 5) (Int32.toNatClampNeg x2_4) (s_5.2 5 (Int32.toNatClampNeg (x2_4 + 1))))) 6 (upd (s_5.2 6) (Int32.toNatClampNeg x2_4) (s_5.2 6 (Int32.toNatClampNeg (x2_4 + 1))))) 7 (upd (s_5.2 7) (Int32.toNatClampNeg x2_4) (s_5.2 7 (Int32.toNatClampNeg (x2_4 + 1))))) 8 (upd (s_5.2 8) (Int32.toNatClampNeg x2_4) (s_5.2 8 (Int32.toNatClampNeg (x2_4 + 1))))) 9 (upd (s_5.2 9) (Int32.toNatClampNeg x2_4) (s_5.2 9 (Int32.toNatClampNeg (x2_4 + 1))))))))))))))))))
def w_X6_untie (σ : St) (x1 : Int32) (post : Int32 → St → Prop) : Prop := w_X6_tieAt ((va_up σ.1 0 0), σ.2) x1 (fun r_1 u_2 => ((¬ r_1 = (-1) → (∃ n_11, w_X6_untie_L32 post (fun x2_7 s_8 => w_X6_granted s_8 (fun r_9 u_10 => (narrow .boolean (.int r_9) = .int r_9 ∧ post r_9 u_10))) n_11 r_1 ((va_up u_2.1 5 ((u_2.1 5) - 1)), u_2.2))) ∧ (r_1 = (-1) → w_X6_denied u_2 1 (fun r_12 u_13 => (narrow .boolean (.int r_12) = .int r_12 ∧ post r_12 u_13)))))

/-! PictureHeapModel.hasPicture(I)Z (X6_hasPicture) -/
def w_X6_hasPicture_L4 (x1_1 : Int32) (post : Int32 → St → Prop) (K : Int32 → Int32 → St → Prop) : Nat → Int32 → Int32 → St → Prop
  | 0, _, _, _ => False
  | n + 1, x2_2, x3_3, s_4 => (((s_4.1 4) ≤ x3_3 → K x2_2 x3_3 s_4) ∧ (¬ (s_4.1 4) ≤ x3_3 → ((¬ x2_2 = 0 → w_X6_hasPicture_L4 x1_1 post K n 1 (x3_3 + 1) s_4) ∧ (x2_2 = 0 → (vp_in x3_3 120 ∧ ((¬ (s_4.2 1 (Int32.toNatClampNeg x3_3)) = x1_1 → w_X6_hasPicture_L4 x1_1 post K n 0 (x3_3 + 1) s_4) ∧ ((s_4.2 1 (Int32.toNatClampNeg x3_3)) = x1_1 → w_X6_hasPicture_L4 x1_1 post K n 1 (x3_3 + 1) s_4)))))))
def w_X6_hasPicture (σ : St) (x1 : Int32) (post : Int32 → St → Prop) : Prop := (∃ n_11, w_X6_hasPicture_L4 x1 post (fun x2_8 x3_9 s_10 => (narrow .boolean (.int x2_8) = .int x2_8 ∧ post x2_8 s_10)) n_11 0 0 σ)

/-! PictureHeapModel.first([I)V (X6_first_a11) -/
def w_X6_first_a11_L10 (x2_4 : Int32) (post : St → Prop) (K : Int32 → St → Prop) : Nat → Int32 → St → Prop
  | 0, _, _ => False
  | n + 1, x3_5, s_6 => ((8 ≤ x3_5 → K x3_5 s_6) ∧ (¬ 8 ≤ x3_5 → ((¬ x2_4 = x3_5 → ((x2_4 = 0 → (vp_in ((8 * x2_4) + x3_5) 64 ∧ w_X6_first_a11_L10 x2_4 post K n (x3_5 + 1) (s_6.1, (va_up s_6.2 11 (upd (s_6.2 11) (Int32.toNatClampNeg ((8 * x2_4) + x3_5)) 200000))))) ∧ (¬ x2_4 = 0 → ((¬ x3_5 = 0 → (vp_in ((8 * x2_4) + x3_5) 64 ∧ w_X6_first_a11_L10 x2_4 post K n (x3_5 + 1) (s_6.1, (va_up s_6.2 11 (upd (s_6.2 11) (Int32.toNatClampNeg ((8 * x2_4) + x3_5)) 400000))))) ∧ (x3_5 = 0 → (vp_in ((8 * x2_4) + x3_5) 64 ∧ w_X6_first_a11_L10 x2_4 post K n (x3_5 + 1) (s_6.1, (va_up s_6.2 11 (upd (s_6.2 11) (Int32.toNatClampNeg ((8 * x2_4) + x3_5)) 200000))))))))) ∧ (x2_4 = x3_5 → (vp_in ((8 * x2_4) + x3_5) 64 ∧ w_X6_first_a11_L10 x2_4 post K n (x3_5 + 1) (s_6.1, (va_up s_6.2 11 (upd (s_6.2 11) (Int32.toNatClampNeg ((8 * x2_4) + x3_5)) 0))))))))
def w_X6_first_a11_L2 (post : St → Prop) (K : Int32 → St → Prop) : Nat → Int32 → St → Prop
  | 0, _, _ => False
  | n + 1, x2_1, s_2 => ((8 ≤ x2_1 → K x2_1 s_2) ∧ (¬ 8 ≤ x2_1 → (∃ n_13, w_X6_first_a11_L10 x2_1 post (fun x3_11 s_12 => w_X6_first_a11_L2 post K n (x2_1 + 1) s_12) n_13 0 s_2)))
def w_X6_first_a11 (σ : St) (post : St → Prop) : Prop := (∃ n_16, w_X6_first_a11_L2 post (fun x2_14 s_15 => post s_15) n_16 0 σ)

/-! PictureHeapModel.bounds([II)V (X6_bounds_a11) -/
def w_X6_bounds_a11 (σ : St) (x2 : Int32) (post : St → Prop) : Prop := (vp_in x2 61 ∧ (((σ.2 6 (Int32.toNatClampNeg x2)) = 0 → (vp_in x2 61 ∧ (vp_in (σ.2 7 (Int32.toNatClampNeg x2)) 120 ∧ (vp_in x2 61 ∧ (vp_in (σ.2 8 (Int32.toNatClampNeg x2)) 120 ∧ (vp_in x2 61 ∧ (vp_in (σ.2 8 (Int32.toNatClampNeg x2)) 120 ∧ (vp_in x2 61 ∧ (vp_in (σ.2 7 (Int32.toNatClampNeg x2)) 120 ∧ (vp_in x2 61 ∧ w_X6_least (σ.2 11) (σ.2 1 (Int32.toNatClampNeg (σ.2 7 (Int32.toNatClampNeg x2)))) (σ.2 1 (Int32.toNatClampNeg (σ.2 8 (Int32.toNatClampNeg x2)))) ((σ.2 9 (Int32.toNatClampNeg x2)) + ((σ.2 2 (Int32.toNatClampNeg (σ.2 8 (Int32.toNatClampNeg x2)))) - (σ.2 2 (Int32.toNatClampNeg (σ.2 7 (Int32.toNatClampNeg x2)))))) (fun u_2 => (vp_in x2 61 ∧ w_X6_least (u_2) (σ.2 1 (Int32.toNatClampNeg (σ.2 8 (Int32.toNatClampNeg x2)))) (σ.2 1 (Int32.toNatClampNeg (σ.2 7 (Int32.toNatClampNeg x2)))) ((σ.2 9 (Int32.toNatClampNeg x2)) - ((σ.2 2 (Int32.toNatClampNeg (σ.2 8 (Int32.toNatClampNeg x2)))) - (σ.2 2 (Int32.toNatClampNeg (σ.2 7 (Int32.toNatClampNeg x2)))))) (fun u_4 => post (σ.1, (va_up (va_up σ.2 11 u_2) 11 u_4))))))))))))))) ∧ ((σ.2 6 (Int32.toNatClampNeg x2)) = 1 → (vp_in x2 61 ∧ (vp_in (σ.2 7 (Int32.toNatClampNeg x2)) 120 ∧ (vp_in x2 61 ∧ (vp_in (σ.2 8 (Int32.toNatClampNeg x2)) 120 ∧ (vp_in x2 61 ∧ (vp_in (σ.2 8 (Int32.toNatClampNeg x2)) 120 ∧ (vp_in x2 61 ∧ (vp_in (σ.2 7 (Int32.toNatClampNeg x2)) 120 ∧ w_X6_least (σ.2 11) (σ.2 1 (Int32.toNatClampNeg (σ.2 7 (Int32.toNatClampNeg x2)))) (σ.2 1 (Int32.toNatClampNeg (σ.2 8 (Int32.toNatClampNeg x2)))) (((σ.2 2 (Int32.toNatClampNeg (σ.2 8 (Int32.toNatClampNeg x2)))) - (σ.2 2 (Int32.toNatClampNeg (σ.2 7 (Int32.toNatClampNeg x2))))) - 1) (fun u_6 => post (σ.1, (va_up σ.2 11 u_6)))))))))))) ∧ ((¬ (σ.2 6 (Int32.toNatClampNeg x2)) = 0 ∧ ¬ (σ.2 6 (Int32.toNatClampNeg x2)) = 1) → (vp_in x2 61 ∧ (vp_in x2 61 ∧ w_X6_least (σ.2 11) (σ.2 7 (Int32.toNatClampNeg x2)) 0 (σ.2 9 (Int32.toNatClampNeg x2)) (fun u_8 => (vp_in x2 61 ∧ (vp_in x2 61 ∧ w_X6_least (u_8) 0 (σ.2 7 (Int32.toNatClampNeg x2)) (-(σ.2 8 (Int32.toNatClampNeg x2))) (fun u_10 => post (σ.1, (va_up (va_up σ.2 11 u_8) 11 u_10)))))))))))

/-! PictureHeapModel.closed([II)Z (X6_closed_a11) -/
def w_X6_closed_a11_L7 (x2_3 : Int32) (post : Int32 → St → Prop) (K : Int32 → St → Prop) : Nat → Int32 → St → Prop
  | 0, _, _ => False
  | n + 1, x3_4, s_5 => (((s_5.1 5) ≤ x3_4 → K x3_4 s_5) ∧ (¬ (s_5.1 5) ≤ x3_4 → ((x3_4 = x2_3 → w_X6_closed_a11_L7 x2_3 post K n (x3_4 + 1) s_5) ∧ (¬ x3_4 = x2_3 → w_X6_bounds_a11 s_5 x3_4 (fun u_9 => w_X6_closed_a11_L7 x2_3 post K n (x3_4 + 1) u_9)))))
def w_X6_closed_a11 (σ : St) (x2 : Int32) (post : Int32 → St → Prop) : Prop := w_X6_first_a11 σ (fun u_2 => (∃ n_14, w_X6_closed_a11_L7 x2 post (fun x3_10 s_11 => w_X6_closes (s_11.2 11) (fun r_12 u_13 => (narrow .boolean (.int r_12) = .int r_12 ∧ post r_12 (s_11.1, (va_up s_11.2 11 u_13))))) n_14 0 u_2))

/-! PictureHeapModel.idle(I)I (X6_idle) -/
def w_X6_idle_J110 (post : Int32 → St → Prop) (K70 : Int32 → Int32 → St → Prop) (x4_18 : Int32) (x5_19 : Int32) (x6_20 : Int32) (s_21 : St) : Prop := ((x4_18 = 0 → K70 0 (x6_20 + 1) s_21) ∧ (¬ x4_18 = 0 → (vp_in ((8 * x5_19) + x6_20) 64 ∧ (vp_in ((8 * x5_19) + x6_20) 64 ∧ ((¬ (s_21.2 10 (Int32.toNatClampNeg ((8 * x5_19) + x6_20))) = (s_21.2 11 (Int32.toNatClampNeg ((8 * x5_19) + x6_20))) → K70 0 (x6_20 + 1) s_21) ∧ ((s_21.2 10 (Int32.toNatClampNeg ((8 * x5_19) + x6_20))) = (s_21.2 11 (Int32.toNatClampNeg ((8 * x5_19) + x6_20))) → K70 1 (x6_20 + 1) s_21))))))
def w_X6_idle_L70 (x5_12 : Int32) (post : Int32 → St → Prop) (K : Int32 → Int32 → St → Prop) : Nat → Int32 → Int32 → St → Prop
  | 0, _, _, _ => False
  | n + 1, x4_13, x6_14, s_15 => (((s_15.1 2) ≤ x6_14 → K x4_13 x6_14 s_15) ∧ (¬ (s_15.1 2) ≤ x6_14 → ((x5_12 = 0 → w_X6_idle_J110 post (fun x4_24 x6_25 u_26 => w_X6_idle_L70 x5_12 post K n x4_24 x6_25 u_26) x4_13 x5_12 x6_14 s_15) ∧ (¬ x5_12 = 0 → ((x6_14 = 0 → w_X6_idle_J110 post (fun x4_28 x6_29 u_30 => w_X6_idle_L70 x5_12 post K n x4_28 x6_29 u_30) x4_13 x5_12 x6_14 s_15) ∧ (¬ x6_14 = 0 → w_X6_hasPicture s_15 x5_12 (fun r_31 u_32 => ((r_31 = 0 → w_X6_idle_L70 x5_12 post K n x4_13 (x6_14 + 1) u_32) ∧ (¬ r_31 = 0 → w_X6_hasPicture u_32 x6_14 (fun r_34 u_35 => ((¬ r_34 = 0 → w_X6_idle_J110 post (fun x4_37 x6_38 u_39 => w_X6_idle_L70 x5_12 post K n x4_37 x6_38 u_39) x4_13 x5_12 x6_14 u_35) ∧ (r_34 = 0 → w_X6_idle_L70 x5_12 post K n x4_13 (x6_14 + 1) u_35))))))))))))
def w_X6_idle_L58 (post : Int32 → St → Prop) (K : Int32 → Int32 → St → Prop) : Nat → Int32 → Int32 → St → Prop
  | 0, _, _, _ => False
  | n + 1, x4_8, x5_9, s_10 => (((s_10.1 2) ≤ x5_9 → K x4_8 x5_9 s_10) ∧ (¬ (s_10.1 2) ≤ x5_9 → (∃ n_43, w_X6_idle_L70 x5_9 post (fun x4_40 x6_41 s_42 => w_X6_idle_L58 post K n x4_40 (x5_9 + 1) s_42) n_43 x4_8 0 s_10)))
def w_X6_idle_J50 (post : Int32 → St → Prop) (s_7 : St) : Prop := (∃ n_52, w_X6_idle_L58 post (fun x4_44 x5_45 s_46 => ((x4_44 = 0 → w_X6_done s_46 0 (fun r_48 u_49 => post r_48 u_49)) ∧ (¬ x4_44 = 0 → w_X6_done s_46 1 (fun r_50 u_51 => post r_50 u_51)))) n_52 1 0 s_7)
def w_X6_idle (σ : St) (x1 : Int32) (post : Int32 → St → Prop) : Prop := w_X6_tieAt ((va_up σ.1 0 0), σ.2) x1 (fun r_1 u_2 => ((¬ r_1 = (-1) → w_X6_closed_a10 u_2 (-1) (fun r_4 u_5 => ((r_4 = 0 → w_X6_idle_J50 post u_5) ∧ (¬ r_4 = 0 → w_X6_closed_a11 u_5 r_1 (fun r_53 u_54 => ((r_53 = 0 → w_X6_idle_J50 post u_54) ∧ (¬ r_53 = 0 → (∃ n_64, w_X6_idle_L58 post (fun x4_56 x5_57 s_58 => ((x4_56 = 0 → w_X6_done s_58 0 (fun r_60 u_61 => post r_60 u_61)) ∧ (¬ x4_56 = 0 → w_X6_done s_58 1 (fun r_62 u_63 => post r_62 u_63)))) n_64 1 0 u_54)))))))) ∧ (r_1 = (-1) → w_X6_refused u_2 1 (fun r_65 u_66 => post r_65 u_66))))

/-! PictureHeapModel.range(IZ)I (X6_range) -/
def w_X6_range (σ : St) (x1 : Int32) (x2 : Int32) (post : Int32 → St → Prop) : Prop := w_X6_isCamera ((va_up σ.1 0 0), σ.2) x1 (fun r_1 u_2 => ((¬ r_1 = 0 → w_X6_closed_a10 u_2 (-1) (fun r_4 u_5 => ((x2 = 0 → (vp_in x1 64 ∧ post (-(u_5.2 10 (Int32.toNatClampNeg x1))) u_5)) ∧ (¬ x2 = 0 → (vp_in (8 * x1) 64 ∧ post (u_5.2 10 (Int32.toNatClampNeg (8 * x1))) u_5))))) ∧ (r_1 = 0 → post (-1000000) u_2)))

/-! PictureHeapModel.mostOf(II)I (X6_mostOf) -/
def w_X6_mostOf (σ : St) (x1 : Int32) (x2 : Int32) (post : Int32 → St → Prop) : Prop := (vp_in x2 120 ∧ (vp_in x1 120 ∧ (vp_in x2 120 ∧ (vp_in x1 120 ∧ (vp_in ((8 * (σ.2 1 (Int32.toNatClampNeg x2))) + (σ.2 1 (Int32.toNatClampNeg x1))) 64 ∧ post (((σ.2 2 (Int32.toNatClampNeg x2)) - (σ.2 2 (Int32.toNatClampNeg x1))) + (σ.2 10 (Int32.toNatClampNeg ((8 * (σ.2 1 (Int32.toNatClampNeg x2))) + (σ.2 1 (Int32.toNatClampNeg x1)))))) σ)))))

/-! PictureHeapModel.between(IIZ)I (X6_between) -/
def w_X6_between (σ : St) (x1 : Int32) (x2 : Int32) (x3 : Int32) (post : Int32 → St → Prop) : Prop := w_X6_isPicture ((va_up σ.1 0 0), σ.2) x1 (fun r_1 u_2 => ((r_1 = 0 → post (-1000000) u_2) ∧ (¬ r_1 = 0 → w_X6_isPicture u_2 x2 (fun r_4 u_5 => ((¬ r_4 = 0 → w_X6_closed_a10 u_5 (-1) (fun r_7 u_8 => ((x3 = 0 → w_X6_mostOf u_8 x2 x1 (fun r_10 u_11 => post (-r_10) u_11)) ∧ (¬ x3 = 0 → w_X6_mostOf u_8 x1 x2 (fun r_12 u_13 => post r_12 u_13))))) ∧ (r_4 = 0 → post (-1000000) u_5))))))

/-! PictureHeapModel.orderOf(II)I (X6_orderOf) -/
def w_X6_orderOf (σ : St) (x1 : Int32) (x2 : Int32) (post : Int32 → St → Prop) : Prop := w_X6_mostOf σ x1 x2 (fun r_1 u_2 => w_X6_mostOf u_2 x2 x1 (fun r_3 u_4 => (((-r_3) ≤ 0 → ((0 ≤ r_1 → ((¬ (-r_3) = 0 → post 0 u_4) ∧ ((-r_3) = 0 → ((¬ r_1 = 0 → post 0 u_4) ∧ (r_1 = 0 → post 3 u_4))))) ∧ (¬ 0 ≤ r_1 → post 2 u_4))) ∧ (¬ (-r_3) ≤ 0 → post 1 u_4))))

/-! PictureHeapModel.order(II)I (X6_order) -/
def w_X6_order (σ : St) (x1 : Int32) (x2 : Int32) (post : Int32 → St → Prop) : Prop := w_X6_isPicture ((va_up σ.1 0 0), σ.2) x1 (fun r_1 u_2 => ((r_1 = 0 → post (-1) u_2) ∧ (¬ r_1 = 0 → w_X6_isPicture u_2 x2 (fun r_4 u_5 => ((¬ r_4 = 0 → w_X6_closed_a10 u_5 (-1) (fun r_7 u_8 => w_X6_orderOf u_8 x1 x2 (fun r_9 u_10 => post r_9 u_10))) ∧ (r_4 = 0 → post (-1) u_5))))))

/-! PictureHeapModel.unsure()I (X6_unsure) -/
def w_X6_unsure_L30 (x3_7 : Int32) (post : Int32 → St → Prop) (K : Int32 → Int32 → St → Prop) : Nat → Int32 → Int32 → St → Prop
  | 0, _, _, _ => False
  | n + 1, x2_8, x4_9, s_10 => ((x3_7 ≤ x4_9 → K x2_8 x4_9 s_10) ∧ (¬ x3_7 ≤ x4_9 → w_X6_orderOf s_10 x3_7 x4_9 (fun r_12 u_13 => ((¬ r_12 = 0 → w_X6_unsure_L30 x3_7 post K n (x2_8 + 0) (x4_9 + 1) u_13) ∧ (r_12 = 0 → w_X6_unsure_L30 x3_7 post K n (x2_8 + 1) (x4_9 + 1) u_13)))))
def w_X6_unsure_L19 (post : Int32 → St → Prop) (K : Int32 → Int32 → St → Prop) : Nat → Int32 → Int32 → St → Prop
  | 0, _, _, _ => False
  | n + 1, x2_3, x3_4, s_5 => (((s_5.1 4) ≤ x3_4 → K x2_3 x3_4 s_5) ∧ (¬ (s_5.1 4) ≤ x3_4 → (∃ n_18, w_X6_unsure_L30 x3_4 post (fun x2_15 x4_16 s_17 => w_X6_unsure_L19 post K n x2_15 (x3_4 + 1) s_17) n_18 x2_3 0 s_5)))
def w_X6_unsure (σ : St) (post : Int32 → St → Prop) : Prop := w_X6_closed_a10 ((va_up σ.1 0 0), σ.2) (-1) (fun r_1 u_2 => (∃ n_22, w_X6_unsure_L19 post (fun x2_19 x3_20 s_21 => post x2_19 s_21) n_22 0 0 u_2))

/-! PictureHeapModel.known()I (X6_known) -/
def w_X6_known_L19 (post : Int32 → St → Prop) (K : Int32 → Int32 → St → Prop) : Nat → Int32 → Int32 → St → Prop
  | 0, _, _, _ => False
  | n + 1, x2_3, x3_4, s_5 => (((s_5.1 2) ≤ x3_4 → K x2_3 x3_4 s_5) ∧ (¬ (s_5.1 2) ≤ x3_4 → (vp_in (8 * x3_4) 64 ∧ (vp_in x3_4 64 ∧ ((¬ (s_5.2 10 (Int32.toNatClampNeg (8 * x3_4))) = (-(s_5.2 10 (Int32.toNatClampNeg x3_4))) → w_X6_known_L19 post K n (x2_3 + 0) (x3_4 + 1) s_5) ∧ ((s_5.2 10 (Int32.toNatClampNeg (8 * x3_4))) = (-(s_5.2 10 (Int32.toNatClampNeg x3_4))) → w_X6_known_L19 post K n (x2_3 + 1) (x3_4 + 1) s_5))))))
def w_X6_known (σ : St) (post : Int32 → St → Prop) : Prop := w_X6_closed_a10 ((va_up σ.1 0 0), σ.2) (-1) (fun r_1 u_2 => (∃ n_11, w_X6_known_L19 post (fun x2_8 x3_9 s_10 => post x2_8 s_10) n_11 0 0 u_2))

/-! PictureHeapModel.timeOf(I)I (X6_timeOf) -/
def w_X6_timeOf (σ : St) (x1 : Int32) (post : Int32 → St → Prop) : Prop := (vp_in x1 120 ∧ (vp_in x1 120 ∧ (vp_in (σ.2 1 (Int32.toNatClampNeg x1)) 8 ∧ post ((σ.2 2 (Int32.toNatClampNeg x1)) + (σ.2 16 (Int32.toNatClampNeg (σ.2 1 (Int32.toNatClampNeg x1))))) σ)))

/-! PictureHeapModel.isEarlier(II)Z (X6_isEarlier) -/
def w_X6_isEarlier (σ : St) (x1 : Int32) (x2 : Int32) (post : Int32 → St → Prop) : Prop := w_X6_timeOf σ x1 (fun r_1 u_2 => w_X6_timeOf u_2 x2 (fun r_3 u_4 => ((r_1 = r_3 → (vp_in x1 120 ∧ (vp_in x2 120 ∧ (((u_4.2 1 (Int32.toNatClampNeg x1)) = (u_4.2 1 (Int32.toNatClampNeg x2)) → ((x2 ≤ x1 → post 0 u_4) ∧ (¬ x2 ≤ x1 → post 1 u_4))) ∧ (¬ (u_4.2 1 (Int32.toNatClampNeg x1)) = (u_4.2 1 (Int32.toNatClampNeg x2)) → (vp_in x1 120 ∧ (vp_in x2 120 ∧ (((u_4.2 1 (Int32.toNatClampNeg x2)) ≤ (u_4.2 1 (Int32.toNatClampNeg x1)) → post 0 u_4) ∧ (¬ (u_4.2 1 (Int32.toNatClampNeg x2)) ≤ (u_4.2 1 (Int32.toNatClampNeg x1)) → post 1 u_4))))))))) ∧ (¬ r_1 = r_3 → ((r_3 ≤ r_1 → post 0 u_4) ∧ (¬ r_3 ≤ r_1 → post 1 u_4))))))

/-! PictureHeapModel.put()I (X6_put) -/
def w_X6_put_J68 (post : Int32 → St → Prop) (K17 : Int32 → St → Prop) (x2_8 : Int32) (z_10 : Int32) (z_11 : Int32) (s_9 : St) : Prop := (vp_in z_11 8 ∧ (vp_in x2_8 8 ∧ w_X6_least (s_9.2 10) x2_8 0 ((upd (s_9.2 16) (Int32.toNatClampNeg z_11) z_10) (Int32.toNatClampNeg x2_8)) (fun u_13 => (vp_in x2_8 8 ∧ w_X6_least (u_13) 0 x2_8 (-((upd (s_9.2 16) (Int32.toNatClampNeg z_11) z_10) (Int32.toNatClampNeg x2_8))) (fun u_15 => w_X6_closes (u_15) (fun r_16 u_17 => K17 (x2_8 + 1) (s_9.1, (va_up (va_up (va_up (va_up s_9.2 16 (upd (s_9.2 16) (Int32.toNatClampNeg z_11) z_10)) 10 u_13) 10 u_15) 10 u_17))))))))
def w_X6_put_L17 (post : Int32 → St → Prop) (K : Int32 → St → Prop) : Nat → Int32 → St → Prop
  | 0, _, _ => False
  | n + 1, x2_3, s_4 => (((s_4.1 2) ≤ x2_3 → K x2_3 s_4) ∧ (¬ (s_4.1 2) ≤ x2_3 → (vp_in x2_3 64 ∧ (vp_in (8 * x2_3) 64 ∧ (((-(s_4.2 10 (Int32.toNatClampNeg x2_3))) ≤ 0 → ((0 ≤ (s_4.2 10 (Int32.toNatClampNeg (8 * x2_3))) → w_X6_put_J68 post (fun x2_18 u_19 => w_X6_put_L17 post K n x2_18 u_19) x2_3 0 x2_3 s_4) ∧ (¬ 0 ≤ (s_4.2 10 (Int32.toNatClampNeg (8 * x2_3))) → w_X6_put_J68 post (fun x2_20 u_21 => w_X6_put_L17 post K n x2_20 u_21) x2_3 (s_4.2 10 (Int32.toNatClampNeg (8 * x2_3))) x2_3 s_4))) ∧ (¬ (-(s_4.2 10 (Int32.toNatClampNeg x2_3))) ≤ 0 → w_X6_put_J68 post (fun x2_22 u_23 => w_X6_put_L17 post K n x2_22 u_23) x2_3 (-(s_4.2 10 (Int32.toNatClampNeg x2_3))) x2_3 s_4))))))
def w_X6_put_L142 (x2_29 : Int32) (post : Int32 → St → Prop) (K : Int32 → St → Prop) : Nat → Int32 → St → Prop
  | 0, _, _ => False
  | n + 1, x3_30, s_31 => ((x3_30 ≤ 0 → K x3_30 s_31) ∧ (¬ x3_30 ≤ 0 → (vp_in (x3_30 - 1) 120 ∧ w_X6_isEarlier s_31 x2_29 (s_31.2 17 (Int32.toNatClampNeg (x3_30 - 1))) (fun r_33 u_34 => ((r_33 = 0 → K x3_30 u_34) ∧ (¬ r_33 = 0 → (vp_in (x3_30 - 1) 120 ∧ (vp_in x3_30 120 ∧ w_X6_put_L142 x2_29 post K n (x3_30 + (-1)) (u_34.1, (va_up u_34.2 17 (upd (u_34.2 17) (Int32.toNatClampNeg x3_30) (u_34.2 17 (Int32.toNatClampNeg (x3_30 - 1))))))))))))))
def w_X6_put_J182 (post : Int32 → St → Prop) (K132 : Int32 → St → Prop) (x2_38 : Int32) (x3_39 : Int32) (s_40 : St) : Prop := (vp_in x3_39 120 ∧ K132 (x2_38 + 1) (s_40.1, (va_up s_40.2 17 (upd (s_40.2 17) (Int32.toNatClampNeg x3_39) x2_38))))
def w_X6_put_L132 (post : Int32 → St → Prop) (K : Int32 → St → Prop) : Nat → Int32 → St → Prop
  | 0, _, _ => False
  | n + 1, x2_26, s_27 => (((s_27.1 4) ≤ x2_26 → K x2_26 s_27) ∧ (¬ (s_27.1 4) ≤ x2_26 → (∃ n_43, w_X6_put_L142 x2_26 post (fun x3_36 s_37 => w_X6_put_J182 post (fun x2_41 u_42 => w_X6_put_L132 post K n x2_41 u_42) x2_26 x3_36 s_37) n_43 x2_26 s_27)))
def w_X6_put (σ : St) (post : Int32 → St → Prop) : Prop := w_X6_closed_a10 ((va_up σ.1 0 0), σ.2) (-1) (fun r_1 u_2 => (∃ n_47, w_X6_put_L17 post (fun x2_24 s_25 => (∃ n_46, w_X6_put_L132 post (fun x2_44 s_45 => post (s_45.1 9) s_45) n_46 0 ((va_up (va_up s_25.1 10 (s_25.1 2)) 9 (s_25.1 4)), s_25.2))) n_47 0 u_2))

/-! PictureHeapModel.offset(I)I (X6_offset) -/
def w_X6_offset (σ : St) (x1 : Int32) (post : Int32 → St → Prop) : Prop := ((x1 < 0 → post (-1000000) ((va_up σ.1 0 0), σ.2)) ∧ (¬ x1 < 0 → (((σ.1 10) ≤ x1 → post (-1000000) ((va_up σ.1 0 0), σ.2)) ∧ (¬ (σ.1 10) ≤ x1 → (vp_in x1 8 ∧ post (σ.2 16 (Int32.toNatClampNeg x1)) ((va_up σ.1 0 0), σ.2))))))

/-! PictureHeapModel.time(I)I (X6_time) -/
def w_X6_time (σ : St) (x1 : Int32) (post : Int32 → St → Prop) : Prop := ((x1 < 0 → post (-1000000) ((va_up σ.1 0 0), σ.2)) ∧ (¬ x1 < 0 → (((σ.1 9) ≤ x1 → post (-1000000) ((va_up σ.1 0 0), σ.2)) ∧ (¬ (σ.1 9) ≤ x1 → w_X6_timeOf ((va_up σ.1 0 0), σ.2) x1 (fun r_3 u_4 => post r_3 u_4)))))

/-! PictureHeapModel.dayAt(I)I (X6_dayAt) -/
def w_X6_dayAt_J49 (post : Int32 → St → Prop) (K4 : Int32 → Int32 → St → Prop) (x1_7 : Int32) (x2_8 : Int32) (x3_9 : Int32) (s_10 : St) : Prop := ((¬ x2_8 = x1_7 → K4 (x2_8 + 1) (x3_9 + 1) s_10) ∧ (x2_8 = x1_7 → post x3_9 s_10))
def w_X6_dayAt_L4 (x1_1 : Int32) (post : Int32 → St → Prop) (K : Int32 → Int32 → St → Prop) : Nat → Int32 → Int32 → St → Prop
  | 0, _, _, _ => False
  | n + 1, x2_2, x3_3, s_4 => (((s_4.1 9) ≤ x3_3 → K x2_2 x3_3 s_4) ∧ (¬ (s_4.1 9) ≤ x3_3 → ((x3_3 ≤ 0 → w_X6_dayAt_J49 post (fun x2_12 x3_13 u_14 => w_X6_dayAt_L4 x1_1 post K n x2_12 x3_13 u_14) x1_1 x2_2 x3_3 s_4) ∧ (¬ x3_3 ≤ 0 → (vp_in x3_3 120 ∧ w_X6_timeOf s_4 (s_4.2 17 (Int32.toNatClampNeg x3_3)) (fun r_15 u_16 => (vp_in (x3_3 - 1) 120 ∧ w_X6_timeOf u_16 (u_16.2 17 (Int32.toNatClampNeg (x3_3 - 1))) (fun r_17 u_18 => (((u_18.1 7) < (r_15 - r_17) → w_X6_dayAt_J49 post (fun x2_20 x3_21 u_22 => w_X6_dayAt_L4 x1_1 post K n x2_20 x3_21 u_22) x1_1 x2_2 x3_3 u_18) ∧ (¬ (u_18.1 7) < (r_15 - r_17) → w_X6_dayAt_L4 x1_1 post K n x2_2 (x3_3 + 1) u_18))))))))))
def w_X6_dayAt (σ : St) (x1 : Int32) (post : Int32 → St → Prop) : Prop := (∃ n_26, w_X6_dayAt_L4 x1 post (fun x2_23 x3_24 s_25 => post x3_24 s_25) n_26 0 0 σ)

/-! PictureHeapModel.days()I (X6_days) -/
def w_X6_days_L17 (post : Int32 → St → Prop) (K : Int32 → St → Prop) : Nat → Int32 → St → Prop
  | 0, _, _ => False
  | n + 1, x1_2, s_3 => w_X6_dayAt s_3 x1_2 (fun r_4 u_5 => (((u_5.1 9) ≤ r_4 → K x1_2 u_5) ∧ (¬ (u_5.1 9) ≤ r_4 → w_X6_days_L17 post K n (x1_2 + 1) u_5)))
def w_X6_days (σ : St) (post : Int32 → St → Prop) : Prop := ((¬ (σ.1 9) = (-1) → (∃ n_9, w_X6_days_L17 post (fun x1_7 s_8 => post x1_7 s_8) n_9 0 ((va_up σ.1 0 0), σ.2))) ∧ ((σ.1 9) = (-1) → post (-1) ((va_up σ.1 0 0), σ.2)))

/-! PictureHeapModel.day(II)I (X6_day) -/
def w_X6_day (σ : St) (x1 : Int32) (x2 : Int32) (post : Int32 → St → Prop) : Prop := (((σ.1 9) = (-1) → post (-1) ((va_up σ.1 0 0), σ.2)) ∧ (¬ (σ.1 9) = (-1) → ((x1 < 0 → post (-1) ((va_up σ.1 0 0), σ.2)) ∧ (¬ x1 < 0 → w_X6_dayAt ((va_up σ.1 0 0), σ.2) x1 (fun r_3 u_4 => ((r_3 < (u_4.1 9) → w_X6_dayAt u_4 x1 (fun r_6 u_7 => w_X6_dayAt u_7 (x1 + 1) (fun r_8 u_9 => ((¬ x2 = 0 → ((¬ x2 = 1 → ((¬ x2 = 2 → post (-1) u_9) ∧ (x2 = 2 → (vp_in (r_8 - 1) 120 ∧ w_X6_timeOf u_9 (u_9.2 17 (Int32.toNatClampNeg (r_8 - 1))) (fun r_13 u_14 => (vp_in r_6 120 ∧ w_X6_timeOf u_14 (u_14.2 17 (Int32.toNatClampNeg r_6)) (fun r_15 u_16 => post (r_13 - r_15) u_16))))))) ∧ (x2 = 1 → post (r_8 - r_6) u_9))) ∧ (x2 = 0 → post r_6 u_9))))) ∧ (¬ r_3 < (u_4.1 9) → post (-1) u_4)))))))

/-! PictureHeapModel.bits(I)I (X6_bits) -/
def w_X6_bits_L4 (post : Int32 → Unit → Prop) (K : Int32 → Int32 → Prop) : Nat → Int32 → Int32 → Prop
  | 0, _, _ => False
  | n + 1, x1_1, x2_2 => ((x2_2 = 0 → K x1_1 x2_2) ∧ (¬ x2_2 = 0 → w_X6_bits_L4 post K n (x1_1 + 1) (x2_2 &&& (x2_2 - 1))))
def w_X6_bits (x0 : Int32) (post : Int32 → Unit → Prop) : Prop := (∃ n_6, w_X6_bits_L4 post (fun x1_4 x2_5 => post x1_4 ()) n_6 0 x0)

/-! PictureHeapModel.runs(Z)I (X6_runs) -/
def w_X6_runs_J137 (post : Int32 → St → Prop) (K25 : Int32 → Int32 → Int32 → Int32 → St → Prop) (x1_45 : Int32) (x3_46 : Int32) (x4_47 : Int32) (x6_48 : Int32) (x7_49 : Int32) (x8_50 : Int32) (z_52 : Int32) (z_53 : Int32) (s_51 : St) : Prop := ((x6_48 ≤ 1 → K25 (z_53 + z_52) x3_46 x8_50 (x7_49 + 1) s_51) ∧ (¬ x6_48 ≤ 1 → K25 (z_53 + z_52) (if x3_46 < x6_48 then x6_48 else x3_46) x8_50 (x7_49 + 1) s_51))
def w_X6_runs_J123 (post : Int32 → St → Prop) (K25 : Int32 → Int32 → Int32 → Int32 → Int32 → St → Prop) (x1_36 : Int32) (x2_37 : Int32) (x3_38 : Int32) (x4_39 : Int32) (x7_40 : Int32) (x8_41 : Int32) (z_43 : Int32) (s_42 : St) : Prop := ((¬ z_43 = 2 → w_X6_runs_J137 post (fun x2_55 x3_56 x5_57 x7_58 u_59 => K25 x2_55 x3_56 x5_57 z_43 x7_58 u_59) x1_36 x3_38 x4_39 z_43 x7_40 x8_41 0 x2_37 s_42) ∧ (z_43 = 2 → w_X6_runs_J137 post (fun x2_60 x3_61 x5_62 x7_63 u_64 => K25 x2_60 x3_61 x5_62 z_43 x7_63 u_64) x1_36 x3_38 x4_39 z_43 x7_40 x8_41 1 x2_37 s_42))
def w_X6_runs_J108 (post : Int32 → St → Prop) (K25 : Int32 → Int32 → Int32 → Int32 → Int32 → St → Prop) (x1_26 : Int32) (x2_27 : Int32) (x3_28 : Int32) (x4_29 : Int32) (x6_30 : Int32) (x7_31 : Int32) (x8_32 : Int32) (z_34 : Int32) (s_33 : St) : Prop := ((z_34 = 0 → w_X6_runs_J123 post (fun x2_65 x3_66 x5_67 x6_68 x7_69 u_70 => K25 x2_65 x3_66 x5_67 x6_68 x7_69 u_70) x1_26 x2_27 x3_28 x4_29 x7_31 x8_32 1 s_33) ∧ (¬ z_34 = 0 → w_X6_runs_J123 post (fun x2_71 x3_72 x5_73 x6_74 x7_75 u_76 => K25 x2_71 x3_72 x5_73 x6_74 x7_75 u_76) x1_26 x2_27 x3_28 x4_29 x7_31 x8_32 (x6_30 + 1) s_33))
def w_X6_runs_J107 (post : Int32 → St → Prop) (K25 : Int32 → Int32 → Int32 → Int32 → Int32 → St → Prop) (x1_18 : Int32) (x2_19 : Int32) (x3_20 : Int32) (x4_21 : Int32) (x6_22 : Int32) (x7_23 : Int32) (x8_24 : Int32) (s_25 : St) : Prop := w_X6_runs_J108 post (fun x2_77 x3_78 x5_79 x6_80 x7_81 u_82 => K25 x2_77 x3_78 x5_79 x6_80 x7_81 u_82) x1_18 x2_19 x3_20 x4_21 x6_22 x7_23 x8_24 0 s_25
def w_X6_runs_L25 (x1_7 : Int32) (x4_8 : Int32) (post : Int32 → St → Prop) (K : Int32 → Int32 → Int32 → Int32 → Int32 → St → Prop) : Nat → Int32 → Int32 → Int32 → Int32 → Int32 → St → Prop
  | 0, _, _, _, _, _, _ => False
  | n + 1, x2_9, x3_10, x5_11, x6_12, x7_13, s_14 => (((s_14.1 9) ≤ x7_13 → K x2_9 x3_10 x5_11 x6_12 x7_13 s_14) ∧ (¬ (s_14.1 9) ≤ x7_13 → (vp_in x7_13 120 ∧ (vp_in (s_14.2 17 (Int32.toNatClampNeg x7_13)) 120 ∧ (((s_14.2 1 (Int32.toNatClampNeg (s_14.2 17 (Int32.toNatClampNeg x7_13)))) = x4_8 → ((x5_11 = (-1) → w_X6_runs_J107 post (fun x2_83 x3_84 x5_85 x6_86 x7_87 u_88 => w_X6_runs_L25 x1_7 x4_8 post K n x2_83 x3_84 x5_85 x6_86 x7_87 u_88) x1_7 x2_9 x3_10 x4_8 x6_12 x7_13 (s_14.2 17 (Int32.toNatClampNeg x7_13)) s_14) ∧ (¬ x5_11 = (-1) → w_X6_timeOf s_14 (s_14.2 17 (Int32.toNatClampNeg x7_13)) (fun r_89 u_90 => w_X6_timeOf u_90 x5_11 (fun r_91 u_92 => ((2 < (r_89 - r_91) → w_X6_runs_J107 post (fun x2_94 x3_95 x5_96 x6_97 x7_98 u_99 => w_X6_runs_L25 x1_7 x4_8 post K n x2_94 x3_95 x5_96 x6_97 x7_98 u_99) x1_7 x2_9 x3_10 x4_8 x6_12 x7_13 (s_14.2 17 (Int32.toNatClampNeg x7_13)) u_92) ∧ (¬ 2 < (r_89 - r_91) → (vp_in (s_14.2 17 (Int32.toNatClampNeg x7_13)) 120 ∧ (vp_in x5_11 120 ∧ w_X6_bits ((u_92.2 3 (Int32.toNatClampNeg (s_14.2 17 (Int32.toNatClampNeg x7_13)))) ^^^ (u_92.2 3 (Int32.toNatClampNeg x5_11))) (fun r_100 _ => ((2 < r_100 → w_X6_runs_J107 post (fun x2_103 x3_104 x5_105 x6_106 x7_107 u_108 => w_X6_runs_L25 x1_7 x4_8 post K n x2_103 x3_104 x5_105 x6_106 x7_107 u_108) x1_7 x2_9 x3_10 x4_8 x6_12 x7_13 (s_14.2 17 (Int32.toNatClampNeg x7_13)) u_92) ∧ (¬ 2 < r_100 → w_X6_runs_J108 post (fun x2_109 x3_110 x5_111 x6_112 x7_113 u_114 => w_X6_runs_L25 x1_7 x4_8 post K n x2_109 x3_110 x5_111 x6_112 x7_113 u_114) x1_7 x2_9 x3_10 x4_8 x6_12 x7_13 (s_14.2 17 (Int32.toNatClampNeg x7_13)) 1 u_92)))))))))))) ∧ (¬ (s_14.2 1 (Int32.toNatClampNeg (s_14.2 17 (Int32.toNatClampNeg x7_13)))) = x4_8 → w_X6_runs_L25 x1_7 x4_8 post K n x2_9 x3_10 x5_11 x6_12 (x7_13 + 1) s_14))))))
def w_X6_runs_L7 (x1_1 : Int32) (post : Int32 → St → Prop) (K : Int32 → Int32 → Int32 → St → Prop) : Nat → Int32 → Int32 → Int32 → St → Prop
  | 0, _, _, _, _ => False
  | n + 1, x2_2, x3_3, x4_4, s_5 => (((s_5.1 10) ≤ x4_4 → K x2_2 x3_3 x4_4 s_5) ∧ (¬ (s_5.1 10) ≤ x4_4 → (∃ n_121, w_X6_runs_L25 x1_1 x4_4 post (fun x2_115 x3_116 x5_117 x6_118 x7_119 s_120 => w_X6_runs_L7 x1_1 post K n x2_115 x3_116 (x4_4 + 1) s_120) n_121 x2_2 x3_3 (-1) 0 0 s_5)))
def w_X6_runs (σ : St) (x1 : Int32) (post : Int32 → St → Prop) : Prop := (∃ n_127, w_X6_runs_L7 x1 post (fun x2_122 x3_123 x4_124 s_125 => ((x1 = 0 → post x2_122 s_125) ∧ (¬ x1 = 0 → post x3_123 s_125))) n_127 0 0 0 σ)

/-! PictureHeapModel.bursts()I (X6_bursts) -/
def w_X6_bursts (σ : St) (post : Int32 → St → Prop) : Prop := ((¬ (σ.1 9) = (-1) → w_X6_runs ((va_up σ.1 0 0), σ.2) 0 (fun r_2 u_3 => post r_2 u_3)) ∧ ((σ.1 9) = (-1) → post (-1) ((va_up σ.1 0 0), σ.2)))

/-! PictureHeapModel.longest()I (X6_longest) -/
def w_X6_longest (σ : St) (post : Int32 → St → Prop) : Prop := ((¬ (σ.1 9) = (-1) → w_X6_runs ((va_up σ.1 0 0), σ.2) 1 (fun r_2 u_3 => post r_2 u_3)) ∧ ((σ.1 9) = (-1) → post (-1) ((va_up σ.1 0 0), σ.2)))

/-! PictureHeapModel.doubles()I (X6_doubles) -/
def w_X6_doubles_L29 (x2_6 : Int32) (post : Int32 → St → Prop) (K : Int32 → Int32 → St → Prop) : Nat → Int32 → Int32 → St → Prop
  | 0, _, _, _ => False
  | n + 1, x1_7, x3_8, s_9 => ((x2_6 ≤ x3_8 → K x1_7 x3_8 s_9) ∧ (¬ x2_6 ≤ x3_8 → (vp_in x2_6 120 ∧ (vp_in x3_8 120 ∧ (((s_9.2 1 (Int32.toNatClampNeg x2_6)) = (s_9.2 1 (Int32.toNatClampNeg x3_8)) → w_X6_doubles_L29 x2_6 post K n (x1_7 + 0) (x3_8 + 1) s_9) ∧ (¬ (s_9.2 1 (Int32.toNatClampNeg x2_6)) = (s_9.2 1 (Int32.toNatClampNeg x3_8)) → (vp_in x2_6 120 ∧ (((s_9.2 3 (Int32.toNatClampNeg x2_6)) = 0 → w_X6_doubles_L29 x2_6 post K n (x1_7 + 0) (x3_8 + 1) s_9) ∧ (¬ (s_9.2 3 (Int32.toNatClampNeg x2_6)) = 0 → (vp_in x2_6 120 ∧ (vp_in x3_8 120 ∧ ((¬ (s_9.2 3 (Int32.toNatClampNeg x2_6)) = (s_9.2 3 (Int32.toNatClampNeg x3_8)) → w_X6_doubles_L29 x2_6 post K n (x1_7 + 0) (x3_8 + 1) s_9) ∧ ((s_9.2 3 (Int32.toNatClampNeg x2_6)) = (s_9.2 3 (Int32.toNatClampNeg x3_8)) → w_X6_timeOf s_9 x2_6 (fun r_14 u_15 => w_X6_timeOf u_15 x3_8 (fun r_16 u_17 => ((5 < (if 0 ≤ (r_14 - r_16) then (r_14 - r_16) else 0 - (r_14 - r_16)) → w_X6_doubles_L29 x2_6 post K n (x1_7 + 0) (x3_8 + 1) u_17) ∧ (¬ 5 < (if 0 ≤ (r_14 - r_16) then (r_14 - r_16) else 0 - (r_14 - r_16)) → w_X6_doubles_L29 x2_6 post K n (x1_7 + 1) (x3_8 + 1) u_17)))))))))))))))))
def w_X6_doubles_L19 (post : Int32 → St → Prop) (K : Int32 → Int32 → St → Prop) : Nat → Int32 → Int32 → St → Prop
  | 0, _, _, _ => False
  | n + 1, x1_2, x2_3, s_4 => (((s_4.1 9) ≤ x2_3 → K x1_2 x2_3 s_4) ∧ (¬ (s_4.1 9) ≤ x2_3 → (∃ n_22, w_X6_doubles_L29 x2_3 post (fun x1_19 x3_20 s_21 => w_X6_doubles_L19 post K n x1_19 (x2_3 + 1) s_21) n_22 x1_2 0 s_4)))
def w_X6_doubles (σ : St) (post : Int32 → St → Prop) : Prop := ((¬ (σ.1 9) = (-1) → (∃ n_26, w_X6_doubles_L19 post (fun x1_23 x2_24 s_25 => post x1_23 s_25) n_26 0 0 ((va_up σ.1 0 0), σ.2))) ∧ ((σ.1 9) = (-1) → post (-1) ((va_up σ.1 0 0), σ.2)))

/-! PictureHeapModel.canOf(I)I (X6_canOf) -/
def w_X6_canOf_L37 (x1_7 : Int32) (x2_8 : Int32) (x3_9 : Int32) (post : Int32 → St → Prop) (K : Int32 → Int32 → St → Prop) : Nat → Int32 → Int32 → St → Prop
  | 0, _, _, _ => False
  | n + 1, x4_10, x5_11, s_12 => (((s_12.1 4) ≤ x5_11 → K x4_10 x5_11 s_12) ∧ (¬ (s_12.1 4) ≤ x5_11 → ((x4_10 = 0 → w_X6_canOf_L37 x1_7 x2_8 x3_9 post K n 0 (x5_11 + 1) s_12) ∧ (¬ x4_10 = 0 → (vp_in x5_11 120 ∧ (vp_in x1_7 120 ∧ ((¬ (s_12.2 1 (Int32.toNatClampNeg x5_11)) = (s_12.2 1 (Int32.toNatClampNeg x1_7)) → w_X6_canOf_L37 x1_7 x2_8 x3_9 post K n 1 (x5_11 + 1) s_12) ∧ ((s_12.2 1 (Int32.toNatClampNeg x5_11)) = (s_12.2 1 (Int32.toNatClampNeg x1_7)) → (vp_in x5_11 120 ∧ (((s_12.2 4 (Int32.toNatClampNeg x5_11)) = (-1) → w_X6_canOf_L37 x1_7 x2_8 x3_9 post K n 1 (x5_11 + 1) s_12) ∧ (¬ (s_12.2 4 (Int32.toNatClampNeg x5_11)) = (-1) → (vp_in x5_11 120 ∧ (vp_in x1_7 120 ∧ (vp_in x5_11 120 ∧ (vp_in ((10 * x3_9) + (s_12.2 4 (Int32.toNatClampNeg x5_11))) 100 ∧ (((if 0 ≤ ((s_12.2 2 (Int32.toNatClampNeg x5_11)) - (s_12.2 2 (Int32.toNatClampNeg x1_7))) then ((s_12.2 2 (Int32.toNatClampNeg x5_11)) - (s_12.2 2 (Int32.toNatClampNeg x1_7))) else 0 - ((s_12.2 2 (Int32.toNatClampNeg x5_11)) - (s_12.2 2 (Int32.toNatClampNeg x1_7)))) < (s_12.2 0 (Int32.toNatClampNeg ((10 * x3_9) + (s_12.2 4 (Int32.toNatClampNeg x5_11))))) → w_X6_canOf_L37 x1_7 x2_8 x3_9 post K n 0 (x5_11 + 1) s_12) ∧ (¬ (if 0 ≤ ((s_12.2 2 (Int32.toNatClampNeg x5_11)) - (s_12.2 2 (Int32.toNatClampNeg x1_7))) then ((s_12.2 2 (Int32.toNatClampNeg x5_11)) - (s_12.2 2 (Int32.toNatClampNeg x1_7))) else 0 - ((s_12.2 2 (Int32.toNatClampNeg x5_11)) - (s_12.2 2 (Int32.toNatClampNeg x1_7)))) < (s_12.2 0 (Int32.toNatClampNeg ((10 * x3_9) + (s_12.2 4 (Int32.toNatClampNeg x5_11))))) → w_X6_canOf_L37 x1_7 x2_8 x3_9 post K n 1 (x5_11 + 1) s_12)))))))))))))))))
def w_X6_canOf_L23 (x1_2 : Int32) (post : Int32 → St → Prop) (K : Int32 → Int32 → St → Prop) : Nat → Int32 → Int32 → St → Prop
  | 0, _, _, _ => False
  | n + 1, x2_3, x3_4, s_5 => (((s_5.1 3) ≤ x3_4 → K x2_3 x3_4 s_5) ∧ (¬ (s_5.1 3) ≤ x3_4 → (∃ n_22, w_X6_canOf_L37 x1_2 x2_3 x3_4 post (fun x4_18 x5_19 s_20 => ((x4_18 = 0 → w_X6_canOf_L23 x1_2 post K n (x2_3 ||| 0) (x3_4 + 1) s_20) ∧ (¬ x4_18 = 0 → w_X6_canOf_L23 x1_2 post K n (x2_3 ||| (1 <<< (x3_4 &&& 31))) (x3_4 + 1) s_20))) n_22 1 0 s_5)))
def w_X6_canOf (σ : St) (x1 : Int32) (post : Int32 → St → Prop) : Prop := (vp_in x1 120 ∧ (((σ.2 4 (Int32.toNatClampNeg x1)) = (-1) → (∃ n_26, w_X6_canOf_L23 x1 post (fun x2_23 x3_24 s_25 => post x2_23 s_25) n_26 0 0 σ)) ∧ (¬ (σ.2 4 (Int32.toNatClampNeg x1)) = (-1) → (vp_in x1 120 ∧ post (1 <<< ((σ.2 4 (Int32.toNatClampNeg x1)) &&& 31)) σ))))

/-! PictureHeapModel.can(I)I (X6_can) -/
def w_X6_can (σ : St) (x1 : Int32) (post : Int32 → St → Prop) : Prop := w_X6_isPicture ((va_up σ.1 0 0), σ.2) x1 (fun r_1 u_2 => ((r_1 = 0 → post (-1) u_2) ∧ (¬ r_1 = 0 → w_X6_canOf u_2 x1 (fun r_4 u_5 => post r_4 u_5))))

/-! PictureHeapModel.found()I (X6_found) -/
def w_X6_found_L9 (post : Int32 → St → Prop) (K : Int32 → Int32 → St → Prop) : Nat → Int32 → Int32 → St → Prop
  | 0, _, _, _ => False
  | n + 1, x1_1, x2_2, s_3 => (((s_3.1 4) ≤ x2_2 → K x1_1 x2_2 s_3) ∧ (¬ (s_3.1 4) ≤ x2_2 → (vp_in x2_2 120 ∧ ((¬ (s_3.2 4 (Int32.toNatClampNeg x2_2)) = (-1) → w_X6_found_L9 post K n (x1_1 + 0) (x2_2 + 1) s_3) ∧ ((s_3.2 4 (Int32.toNatClampNeg x2_2)) = (-1) → w_X6_canOf s_3 x2_2 (fun r_6 u_7 => w_X6_bits r_6 (fun r_8 _ => ((¬ r_8 = 1 → w_X6_found_L9 post K n (x1_1 + 0) (x2_2 + 1) u_7) ∧ (r_8 = 1 → w_X6_found_L9 post K n (x1_1 + 1) (x2_2 + 1) u_7)))))))))
def w_X6_found (σ : St) (post : Int32 → St → Prop) : Prop := (∃ n_14, w_X6_found_L9 post (fun x1_11 x2_12 s_13 => post x1_11 s_13) n_14 0 0 ((va_up σ.1 0 0), σ.2))

/-! PictureHeapModel.strange()I (X6_strange) -/
def w_X6_strange_L17 (x1_4 : Int32) (post : Int32 → St → Prop) (K : Int32 → St → Prop) : Nat → Int32 → St → Prop
  | 0, _, _ => False
  | n + 1, x2_5, s_6 => (((s_6.1 4) ≤ x2_5 → K x2_5 s_6) ∧ (¬ (s_6.1 4) ≤ x2_5 → (vp_in x1_4 120 ∧ (((s_6.2 4 (Int32.toNatClampNeg x1_4)) = (-1) → K x2_5 s_6) ∧ (¬ (s_6.2 4 (Int32.toNatClampNeg x1_4)) = (-1) → (vp_in x2_5 120 ∧ (((s_6.2 4 (Int32.toNatClampNeg x2_5)) = (-1) → w_X6_strange_L17 x1_4 post K n (x2_5 + 1) s_6) ∧ (¬ (s_6.2 4 (Int32.toNatClampNeg x2_5)) = (-1) → (vp_in x1_4 120 ∧ (vp_in x2_5 120 ∧ (((s_6.2 1 (Int32.toNatClampNeg x1_4)) = (s_6.2 1 (Int32.toNatClampNeg x2_5)) → (vp_in x1_4 120 ∧ (vp_in x2_5 120 ∧ (vp_in x1_4 120 ∧ (vp_in x2_5 120 ∧ (vp_in ((10 * (s_6.2 4 (Int32.toNatClampNeg x1_4))) + (s_6.2 4 (Int32.toNatClampNeg x2_5))) 100 ∧ (((s_6.2 0 (Int32.toNatClampNeg ((10 * (s_6.2 4 (Int32.toNatClampNeg x1_4))) + (s_6.2 4 (Int32.toNatClampNeg x2_5))))) ≤ (if 0 ≤ ((s_6.2 2 (Int32.toNatClampNeg x1_4)) - (s_6.2 2 (Int32.toNatClampNeg x2_5))) then ((s_6.2 2 (Int32.toNatClampNeg x1_4)) - (s_6.2 2 (Int32.toNatClampNeg x2_5))) else 0 - ((s_6.2 2 (Int32.toNatClampNeg x1_4)) - (s_6.2 2 (Int32.toNatClampNeg x2_5)))) → w_X6_strange_L17 x1_4 post K n (x2_5 + 1) s_6) ∧ (¬ (s_6.2 0 (Int32.toNatClampNeg ((10 * (s_6.2 4 (Int32.toNatClampNeg x1_4))) + (s_6.2 4 (Int32.toNatClampNeg x2_5))))) ≤ (if 0 ≤ ((s_6.2 2 (Int32.toNatClampNeg x1_4)) - (s_6.2 2 (Int32.toNatClampNeg x2_5))) then ((s_6.2 2 (Int32.toNatClampNeg x1_4)) - (s_6.2 2 (Int32.toNatClampNeg x2_5))) else 0 - ((s_6.2 2 (Int32.toNatClampNeg x1_4)) - (s_6.2 2 (Int32.toNatClampNeg x2_5)))) → post x1_4 s_6)))))))) ∧ (¬ (s_6.2 1 (Int32.toNatClampNeg x1_4)) = (s_6.2 1 (Int32.toNatClampNeg x2_5)) → w_X6_strange_L17 x1_4 post K n (x2_5 + 1) s_6))))))))))))
def w_X6_strange_L7 (post : Int32 → St → Prop) (K : Int32 → St → Prop) : Nat → Int32 → St → Prop
  | 0, _, _ => False
  | n + 1, x1_1, s_2 => (((s_2.1 4) ≤ x1_1 → K x1_1 s_2) ∧ (¬ (s_2.1 4) ≤ x1_1 → (∃ n_14, w_X6_strange_L17 x1_1 post (fun x2_12 s_13 => w_X6_strange_L7 post K n (x1_1 + 1) s_13) n_14 0 s_2)))
def w_X6_strange (σ : St) (post : Int32 → St → Prop) : Prop := (∃ n_17, w_X6_strange_L7 post (fun x1_15 s_16 => post (-2) s_16) n_17 0 ((va_up σ.1 0 0), σ.2))

/-! PictureHeapModel.count(I)I (X6_count) -/
def w_X6_count (σ : St) (x1 : Int32) (post : Int32 → St → Prop) : Prop := (((x1.toInt < 0 ∨ 4 < x1.toInt) → post (-1) ((va_up σ.1 0 0), σ.2)) ∧ (x1 = 0 → post (σ.1 2) ((va_up σ.1 0 0), σ.2)) ∧ (x1 = 1 → post (σ.1 3) ((va_up σ.1 0 0), σ.2)) ∧ (x1 = 2 → post (σ.1 4) ((va_up σ.1 0 0), σ.2)) ∧ (x1 = 3 → post (σ.1 5) ((va_up σ.1 0 0), σ.2)) ∧ (x1 = 4 → post (σ.1 6) ((va_up σ.1 0 0), σ.2)))

/-! PictureHeapModel.trouble()I (X6_trouble) -/
def w_X6_trouble (σ : St) (post : Int32 → St → Prop) : Prop := post (σ.1 1) ((va_up σ.1 0 0), σ.2)

/-! PictureHeapModel.row(I)I (X6_row) -/
def w_X6_row_J18 (post : Int32 → St → Prop) (x1_4 : Int32) (z_6 : Int32) (s_5 : St) : Prop := ((z_6 ≤ 0 → (vp_in x1_4 120 ∧ post (s_5.2 17 (Int32.toNatClampNeg x1_4)) ((va_up s_5.1 0 z_6), s_5.2))) ∧ (¬ z_6 ≤ 0 → post 0 ((va_up s_5.1 0 z_6), s_5.2)))
def w_X6_row_J13 (post : Int32 → St → Prop) (x1_2 : Int32) (s_3 : St) : Prop := w_X6_row_J18 post x1_2 1 s_3
def w_X6_row (σ : St) (x1 : Int32) (post : Int32 → St → Prop) : Prop := ((x1 < 0 → w_X6_row_J13 post x1 σ) ∧ (¬ x1 < 0 → ((x1 < (σ.1 9) → w_X6_row_J18 post x1 0 σ) ∧ (¬ x1 < (σ.1 9) → w_X6_row_J13 post x1 σ))))

/-! PictureHeapModel.thrown()I (X6_thrown) -/
def w_X6_thrown (σ : St) (post : Int32 → St → Prop) : Prop := post (σ.1 0) σ
