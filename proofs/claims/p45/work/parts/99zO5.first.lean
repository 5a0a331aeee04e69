/-! The first world: the cells as the constructors leave them (by program). -/
def ordL : List Nat := [2, 3, 4, 5, 6, 7, 8, 9, 10, 11, 80, 81, 82, 83, 86, 87, 90, 91, 94, 95, 98, 99, 102, 103, 106, 107, 84, 85, 88, 89, 92, 93, 96, 97, 100, 101, 104, 105, 108, 109, 111, 112, 113, 114, 115, 116, 117, 118, 139, 140, 141, 142, 143, 144, 39, 40, 41, 42, 43, 44, 45, 46, 47, 48, 49, 50, 51, 52, 53, 54, 55, 56, 69, 70, 77, 71, 72, 73, 74, 75, 76, 128, 129, 136, 130, 131, 132, 133, 134, 135, 1, 13, 14, 12, 16, 17, 19, 20, 21, 22, 23, 24, 25, 26, 27, 28, 29, 30, 31, 32, 33, 34, 35, 36, 37, 38, 18, 15, 60, 61, 62, 63, 64, 65, 66, 59, 67, 68, 78, 79, 58, 110, 120, 121, 123, 124, 125, 126, 122, 127, 137, 138, 119, 145, 147, 148, 149, 146, 57, 0]
def ord (n : Nat) : Nat := match wNth ordL n with
  | some k => k
  | none => 0
/-- where cell n lies -/
def rho (B n : Nat) : Nat := B + ord n
theorem ord_lt : ∀ n, n < 150 → ord n < 150 := by decide +kernel
def ordI : List Nat := [149, 90, 0, 1, 2, 3, 4, 5, 6, 7, 8, 9, 93, 91, 92, 117, 94, 95, 116, 96, 97, 98, 99, 100, 101, 102, 103, 104, 105, 106, 107, 108, 109, 110, 111, 112, 113, 114, 115, 54, 55, 56, 57, 58, 59, 60, 61, 62, 63, 64, 65, 66, 67, 68, 69, 70, 71, 148, 130, 125, 118, 119, 120, 121, 122, 123, 124, 126, 127, 72, 73, 75, 76, 77, 78, 79, 80, 74, 128, 129, 10, 11, 12, 13, 26, 27, 14, 15, 28, 29, 16, 17, 30, 31, 18, 19, 32, 33, 20, 21, 34, 35, 22, 23, 36, 37, 24, 25, 38, 39, 131, 40, 41, 42, 43, 44, 45, 46, 47, 142, 132, 133, 138, 134, 135, 136, 137, 139, 81, 82, 84, 85, 86, 87, 88, 89, 83, 140, 141, 48, 49, 50, 51, 52, 53, 143, 147, 144, 145, 146]
theorem ord_back : ∀ n, n < 150 → wNth ordI (ord n) = some n := by decide +kernel
theorem ord_inj {m n : Nat} (hm : m < 150) (hn : n < 150) (h : ord m = ord n) : m = n := by
  have h1 := ord_back m hm
  rw [h, ord_back n hn] at h1
  exact (Option.some.inj h1).symm
def M1 : Mem := fun n => if n = 2 then (fun k => if k = 1 then 1 else 0) else if n = 3 then (fun k => if k = 0 then 1 else 0) else if n = 54 then (fun k => if k = 0 then 1 else if k = 2 then 24 else if k = 3 then 999 else 0) else if n = 63 then (fun k => if k = 0 then 1 else if k = 2 then 24 else if k = 3 then 999 else 0) else if n = 118 then (fun k => if k = 0 then 1 else 0) else if n = 130 then (fun k => if k = 0 then 1 else if k = 1 then 1 else 0) else if n = 133 then (fun k => if k < 4 then 1 else 0) else if n = 142 then (fun k => if k = 0 then 1 else if k = 7 then 1 else 0) else if n = 143 then (fun k => if k = 2 then 1 else if k = 6 then 1 else 0) else if n = 148 then (fun k => if k < 6 then -1 else 0) else fun _ => 0
theorem at_to {D : va_G} {B N : Nat} {g : Nat → va_E} {H : Heap} (hE : EH D B N g H) {i : Nat} {e e' : va_E} (hi : i < N) (he : g i = e) (h : e = e') : va_at D gCl (B + i, e') H := by
  subst h
  exact hE.at' hi he
theorem at_toA {D : va_G} {B N : Nat} {g : Nat → va_E} {H : Heap} (hE : EH D B N g H) {i n : Nat} {c : ClassId} {f f' : Nat → Option Nat} (hi : i < N) (he : g i = .inl (c, (n, .inr (.inr (.inr (.inr f)))))) (h : ∀ j, j < n → f j = f' j) : va_at D gCl (B + i, .inl (c, (n, .inr (.inr (.inr (.inr f')))))) H := by
  have h1 := hE.at' hi he
  show H[B + i]? = some (vp_cell c (n, .inr (.inr (.inr (.inr f')))))
  have h2 : H[B + i]? = some (vp_cell c (n, .inr (.inr (.inr (.inr f))))) := h1
  rw [h2, vp_cell_q, vp_cell_q]
  unfold arrV
  refine congrArg some (congrArg (fun q => ({ cls := c, slots := Array.ofFn (n := n) q, vm := .none } : Cell)) (funext fun j => ?_))
  show va_rf (f j.1) = va_rf (f' j.1)
  rw [h j.1 j.2]
theorem ite32 {p : Prop} [Decidable p] (a b : Int) : Int32.ofInt (if p then a else b) = if p then Int32.ofInt a else Int32.ofInt b := by split <;> rfl
theorem c1_0 {D : va_G} {cA : Nat → ClassId} {B : Nat} {g : Nat → va_E} {H : Heap} (hE : EH D B 150 g H) (h11 : PK11 cA B g 0 1) : va_at D gCl (rho B 0, wCell (rho B) cA M1 0) H := at_to hE (i := 2) (by decide) ((h11.2.2.1).2.1) rfl
theorem c1_1 {D : va_G} {cA : Nat → ClassId} {B : Nat} {g : Nat → va_E} {H : Heap} (hE : EH D B 150 g H) (h11 : PK11 cA B g 0 1) : va_at D gCl (rho B 1, wCell (rho B) cA M1 1) H := at_to hE (i := 3) (by decide) ((h11.2.2.1).2.2.1) rfl
theorem c1_2 {D : va_G} {cA : Nat → ClassId} {B : Nat} {g : Nat → va_E} {H : Heap} (hE : EH D B 150 g H) (h11 : PK11 cA B g 0 1) : va_at D gCl (rho B 2, wCell (rho B) cA M1 2) H := at_to hE (i := 4) (by decide) ((h11.2.2.1).2.2.2.1) rfl
theorem c1_3 {D : va_G} {cA : Nat → ClassId} {B : Nat} {g : Nat → va_E} {H : Heap} (hE : EH D B 150 g H) (h11 : PK11 cA B g 0 1) : va_at D gCl (rho B 3, wCell (rho B) cA M1 3) H := at_to hE (i := 5) (by decide) ((h11.2.2.1).2.2.2.2.1) (congrArg (fun q : Nat → Int32 => (.inl (cA 1, (20, .inl q)) : va_E)) (funext fun k => (ite32 (p := k = 0) (1) 0).symm))
theorem c1_4 {D : va_G} {cA : Nat → ClassId} {B : Nat} {g : Nat → va_E} {H : Heap} (hE : EH D B 150 g H) (h11 : PK11 cA B g 0 1) : va_at D gCl (rho B 4, wCell (rho B) cA M1 4) H := at_to hE (i := 6) (by decide) ((h11.2.2.1).2.2.2.2.2.1) rfl
theorem c1_5 {D : va_G} {cA : Nat → ClassId} {B : Nat} {g : Nat → va_E} {H : Heap} (hE : EH D B 150 g H) (h11 : PK11 cA B g 0 1) : va_at D gCl (rho B 5, wCell (rho B) cA M1 5) H := at_to hE (i := 7) (by decide) ((h11.2.2.1).2.2.2.2.2.2.1) rfl
theorem c1_6 {D : va_G} {cA : Nat → ClassId} {B : Nat} {g : Nat → va_E} {H : Heap} (hE : EH D B 150 g H) (h11 : PK11 cA B g 0 1) : va_at D gCl (rho B 6, wCell (rho B) cA M1 6) H := at_to hE (i := 8) (by decide) ((h11.2.2.1).2.2.2.2.2.2.2.1) rfl
theorem c1_7 {D : va_G} {cA : Nat → ClassId} {B : Nat} {g : Nat → va_E} {H : Heap} (hE : EH D B 150 g H) (h11 : PK11 cA B g 0 1) : va_at D gCl (rho B 7, wCell (rho B) cA M1 7) H := at_to hE (i := 9) (by decide) ((h11.2.2.1).2.2.2.2.2.2.2.2.1) rfl
theorem c1_8 {D : va_G} {cA : Nat → ClassId} {B : Nat} {g : Nat → va_E} {H : Heap} (hE : EH D B 150 g H) (h11 : PK11 cA B g 0 1) : va_at D gCl (rho B 8, wCell (rho B) cA M1 8) H := at_to hE (i := 10) (by decide) ((h11.2.2.1).2.2.2.2.2.2.2.2.2.1) rfl
theorem c1_9 {D : va_G} {cA : Nat → ClassId} {B : Nat} {g : Nat → va_E} {H : Heap} (hE : EH D B 150 g H) (h11 : PK11 cA B g 0 1) : va_at D gCl (rho B 9, wCell (rho B) cA M1 9) H := at_to hE (i := 11) (by decide) ((h11.2.2.1).2.2.2.2.2.2.2.2.2.2) rfl
theorem c1_10 {D : va_G} {cA : Nat → ClassId} {B : Nat} {g : Nat → va_E} {H : Heap} (hE : EH D B 150 g H) (h11 : PK11 cA B g 0 1) : va_at D gCl (rho B 10, wCell (rho B) cA M1 10) H := at_to hE (i := 80) (by decide) ((h11.2.2.2.2.2.2.2.1).2.2.2.2.2.2.2.2.2.2.2.2.2.2.2.2.2.2.2.2.2.2.1) rfl
theorem c1_11 {D : va_G} {cA : Nat → ClassId} {B : Nat} {g : Nat → va_E} {H : Heap} (hE : EH D B 150 g H) (h11 : PK11 cA B g 0 1) : va_at D gCl (rho B 11, wCell (rho B) cA M1 11) H := at_to hE (i := 81) (by decide) ((h11.2.2.2.2.2.2.2.1).2.2.2.2.2.2.2.2.2.2.2.2.2.2.2.2.2.2.2.2.2.2.2.1) rfl
theorem c1_12 {D : va_G} {cA : Nat → ClassId} {B : Nat} {g : Nat → va_E} {H : Heap} (hE : EH D B 150 g H) (h11 : PK11 cA B g 0 1) : va_at D gCl (rho B 12, wCell (rho B) cA M1 12) H := at_to hE (i := 82) (by decide) ((h11.2.2.2.2.2.2.2.1).2.2.2.2.2.2.2.2.2.2.2.2.2.2.2.2.2.2.2.2.2.2.2.2.1) rfl
theorem c1_13 {D : va_G} {cA : Nat → ClassId} {B : Nat} {g : Nat → va_E} {H : Heap} (hE : EH D B 150 g H) (h11 : PK11 cA B g 0 1) : va_at D gCl (rho B 13, wCell (rho B) cA M1 13) H := at_to hE (i := 83) (by decide) ((h11.2.2.2.2.2.2.2.1).2.2.2.2.2.2.2.2.2.2.2.2.2.2.2.2.2.2.2.2.2.2.2.2.2.1) rfl
theorem c1_14 {D : va_G} {cA : Nat → ClassId} {B : Nat} {g : Nat → va_E} {H : Heap} (hE : EH D B 150 g H) (h11 : PK11 cA B g 0 1) : va_at D gCl (rho B 14, wCell (rho B) cA M1 14) H := at_to hE (i := 86) (by decide) ((h11.2.2.2.2.2.2.2.1).2.2.2.2.2.2.2.2.2.2.2.2.2.2.2.2.2.2.2.2.2.2.2.2.2.2.2.2.1) rfl
theorem c1_15 {D : va_G} {cA : Nat → ClassId} {B : Nat} {g : Nat → va_E} {H : Heap} (hE : EH D B 150 g H) (h11 : PK11 cA B g 0 1) : va_at D gCl (rho B 15, wCell (rho B) cA M1 15) H := at_to hE (i := 87) (by decide) ((h11.2.2.2.2.2.2.2.1).2.2.2.2.2.2.2.2.2.2.2.2.2.2.2.2.2.2.2.2.2.2.2.2.2.2.2.2.2.1) rfl
theorem c1_16 {D : va_G} {cA : Nat → ClassId} {B : Nat} {g : Nat → va_E} {H : Heap} (hE : EH D B 150 g H) (h11 : PK11 cA B g 0 1) : va_at D gCl (rho B 16, wCell (rho B) cA M1 16) H := at_to hE (i := 90) (by decide) ((h11.2.2.2.2.2.2.2.1).2.2.2.2.2.2.2.2.2.2.2.2.2.2.2.2.2.2.2.2.2.2.2.2.2.2.2.2.2.2.2.2.1) rfl
theorem c1_17 {D : va_G} {cA : Nat → ClassId} {B : Nat} {g : Nat → va_E} {H : Heap} (hE : EH D B 150 g H) (h11 : PK11 cA B g 0 1) : va_at D gCl (rho B 17, wCell (rho B) cA M1 17) H := at_to hE (i := 91) (by decide) ((h11.2.2.2.2.2.2.2.1).2.2.2.2.2.2.2.2.2.2.2.2.2.2.2.2.2.2.2.2.2.2.2.2.2.2.2.2.2.2.2.2.2.1) rfl
theorem c1_18 {D : va_G} {cA : Nat → ClassId} {B : Nat} {g : Nat → va_E} {H : Heap} (hE : EH D B 150 g H) (h11 : PK11 cA B g 0 1) : va_at D gCl (rho B 18, wCell (rho B) cA M1 18) H := at_to hE (i := 94) (by decide) ((h11.2.2.2.2.2.2.2.1).2.2.2.2.2.2.2.2.2.2.2.2.2.2.2.2.2.2.2.2.2.2.2.2.2.2.2.2.2.2.2.2.2.2.2.2.1) rfl
theorem c1_19 {D : va_G} {cA : Nat → ClassId} {B : Nat} {g : Nat → va_E} {H : Heap} (hE : EH D B 150 g H) (h11 : PK11 cA B g 0 1) : va_at D gCl (rho B 19, wCell (rho B) cA M1 19) H := at_to hE (i := 95) (by decide) ((h11.2.2.2.2.2.2.2.1).2.2.2.2.2.2.2.2.2.2.2.2.2.2.2.2.2.2.2.2.2.2.2.2.2.2.2.2.2.2.2.2.2.2.2.2.2.1) rfl
theorem c1_20 {D : va_G} {cA : Nat → ClassId} {B : Nat} {g : Nat → va_E} {H : Heap} (hE : EH D B 150 g H) (h11 : PK11 cA B g 0 1) : va_at D gCl (rho B 20, wCell (rho B) cA M1 20) H := at_to hE (i := 98) (by decide) ((h11.2.2.2.2.2.2.2.1).2.2.2.2.2.2.2.2.2.2.2.2.2.2.2.2.2.2.2.2.2.2.2.2.2.2.2.2.2.2.2.2.2.2.2.2.2.2.2.2.1) rfl
theorem c1_21 {D : va_G} {cA : Nat → ClassId} {B : Nat} {g : Nat → va_E} {H : Heap} (hE : EH D B 150 g H) (h11 : PK11 cA B g 0 1) : va_at D gCl (rho B 21, wCell (rho B) cA M1 21) H := at_to hE (i := 99) (by decide) ((h11.2.2.2.2.2.2.2.1).2.2.2.2.2.2.2.2.2.2.2.2.2.2.2.2.2.2.2.2.2.2.2.2.2.2.2.2.2.2.2.2.2.2.2.2.2.2.2.2.2.1) rfl
theorem c1_22 {D : va_G} {cA : Nat → ClassId} {B : Nat} {g : Nat → va_E} {H : Heap} (hE : EH D B 150 g H) (h11 : PK11 cA B g 0 1) : va_at D gCl (rho B 22, wCell (rho B) cA M1 22) H := at_to hE (i := 102) (by decide) ((h11.2.2.2.2.2.2.2.1).2.2.2.2.2.2.2.2.2.2.2.2.2.2.2.2.2.2.2.2.2.2.2.2.2.2.2.2.2.2.2.2.2.2.2.2.2.2.2.2.2.2.2.2.1) rfl
theorem c1_23 {D : va_G} {cA : Nat → ClassId} {B : Nat} {g : Nat → va_E} {H : Heap} (hE : EH D B 150 g H) (h11 : PK11 cA B g 0 1) : va_at D gCl (rho B 23, wCell (rho B) cA M1 23) H := at_to hE (i := 103) (by decide) ((h11.2.2.2.2.2.2.2.1).2.2.2.2.2.2.2.2.2.2.2.2.2.2.2.2.2.2.2.2.2.2.2.2.2.2.2.2.2.2.2.2.2.2.2.2.2.2.2.2.2.2.2.2.2.1) rfl
theorem c1_24 {D : va_G} {cA : Nat → ClassId} {B : Nat} {g : Nat → va_E} {H : Heap} (hE : EH D B 150 g H) (h11 : PK11 cA B g 0 1) : va_at D gCl (rho B 24, wCell (rho B) cA M1 24) H := at_to hE (i := 106) (by decide) ((h11.2.2.2.2.2.2.2.1).2.2.2.2.2.2.2.2.2.2.2.2.2.2.2.2.2.2.2.2.2.2.2.2.2.2.2.2.2.2.2.2.2.2.2.2.2.2.2.2.2.2.2.2.2.2.2.2.1) rfl
theorem c1_25 {D : va_G} {cA : Nat → ClassId} {B : Nat} {g : Nat → va_E} {H : Heap} (hE : EH D B 150 g H) (h11 : PK11 cA B g 0 1) : va_at D gCl (rho B 25, wCell (rho B) cA M1 25) H := at_to hE (i := 107) (by decide) ((h11.2.2.2.2.2.2.2.1).2.2.2.2.2.2.2.2.2.2.2.2.2.2.2.2.2.2.2.2.2.2.2.2.2.2.2.2.2.2.2.2.2.2.2.2.2.2.2.2.2.2.2.2.2.2.2.2.2.1) rfl
theorem c1_26 {D : va_G} {cA : Nat → ClassId} {B : Nat} {g : Nat → va_E} {H : Heap} (hE : EH D B 150 g H) (h11 : PK11 cA B g 0 1) : va_at D gCl (rho B 26, wCell (rho B) cA M1 26) H := at_to hE (i := 84) (by decide) ((h11.2.2.2.2.2.2.2.1).2.2.2.2.2.2.2.2.2.2.2.2.2.2.2.2.2.2.2.2.2.2.2.2.2.2.1) rfl
theorem c1_27 {D : va_G} {cA : Nat → ClassId} {B : Nat} {g : Nat → va_E} {H : Heap} (hE : EH D B 150 g H) (h11 : PK11 cA B g 0 1) : va_at D gCl (rho B 27, wCell (rho B) cA M1 27) H := at_to hE (i := 85) (by decide) ((h11.2.2.2.2.2.2.2.1).2.2.2.2.2.2.2.2.2.2.2.2.2.2.2.2.2.2.2.2.2.2.2.2.2.2.2.1) rfl
theorem c1_28 {D : va_G} {cA : Nat → ClassId} {B : Nat} {g : Nat → va_E} {H : Heap} (hE : EH D B 150 g H) (h11 : PK11 cA B g 0 1) : va_at D gCl (rho B 28, wCell (rho B) cA M1 28) H := at_to hE (i := 88) (by decide) ((h11.2.2.2.2.2.2.2.1).2.2.2.2.2.2.2.2.2.2.2.2.2.2.2.2.2.2.2.2.2.2.2.2.2.2.2.2.2.2.1) rfl
theorem c1_29 {D : va_G} {cA : Nat → ClassId} {B : Nat} {g : Nat → va_E} {H : Heap} (hE : EH D B 150 g H) (h11 : PK11 cA B g 0 1) : va_at D gCl (rho B 29, wCell (rho B) cA M1 29) H := at_to hE (i := 89) (by decide) ((h11.2.2.2.2.2.2.2.1).2.2.2.2.2.2.2.2.2.2.2.2.2.2.2.2.2.2.2.2.2.2.2.2.2.2.2.2.2.2.2.1) rfl
theorem c1_30 {D : va_G} {cA : Nat → ClassId} {B : Nat} {g : Nat → va_E} {H : Heap} (hE : EH D B 150 g H) (h11 : PK11 cA B g 0 1) : va_at D gCl (rho B 30, wCell (rho B) cA M1 30) H := at_to hE (i := 92) (by decide) ((h11.2.2.2.2.2.2.2.1).2.2.2.2.2.2.2.2.2.2.2.2.2.2.2.2.2.2.2.2.2.2.2.2.2.2.2.2.2.2.2.2.2.2.1) rfl
theorem c1_31 {D : va_G} {cA : Nat → ClassId} {B : Nat} {g : Nat → va_E} {H : Heap} (hE : EH D B 150 g H) (h11 : PK11 cA B g 0 1) : va_at D gCl (rho B 31, wCell (rho B) cA M1 31) H := at_to hE (i := 93) (by decide) ((h11.2.2.2.2.2.2.2.1).2.2.2.2.2.2.2.2.2.2.2.2.2.2.2.2.2.2.2.2.2.2.2.2.2.2.2.2.2.2.2.2.2.2.2.1) rfl
theorem c1_32 {D : va_G} {cA : Nat → ClassId} {B : Nat} {g : Nat → va_E} {H : Heap} (hE : EH D B 150 g H) (h11 : PK11 cA B g 0 1) : va_at D gCl (rho B 32, wCell (rho B) cA M1 32) H := at_to hE (i := 96) (by decide) ((h11.2.2.2.2.2.2.2.1).2.2.2.2.2.2.2.2.2.2.2.2.2.2.2.2.2.2.2.2.2.2.2.2.2.2.2.2.2.2.2.2.2.2.2.2.2.2.1) rfl
theorem c1_33 {D : va_G} {cA : Nat → ClassId} {B : Nat} {g : Nat → va_E} {H : Heap} (hE : EH D B 150 g H) (h11 : PK11 cA B g 0 1) : va_at D gCl (rho B 33, wCell (rho B) cA M1 33) H := at_to hE (i := 97) (by decide) ((h11.2.2.2.2.2.2.2.1).2.2.2.2.2.2.2.2.2.2.2.2.2.2.2.2.2.2.2.2.2.2.2.2.2.2.2.2.2.2.2.2.2.2.2.2.2.2.2.1) rfl
theorem c1_34 {D : va_G} {cA : Nat → ClassId} {B : Nat} {g : Nat → va_E} {H : Heap} (hE : EH D B 150 g H) (h11 : PK11 cA B g 0 1) : va_at D gCl (rho B 34, wCell (rho B) cA M1 34) H := at_to hE (i := 100) (by decide) ((h11.2.2.2.2.2.2.2.1).2.2.2.2.2.2.2.2.2.2.2.2.2.2.2.2.2.2.2.2.2.2.2.2.2.2.2.2.2.2.2.2.2.2.2.2.2.2.2.2.2.2.1) rfl
theorem c1_35 {D : va_G} {cA : Nat → ClassId} {B : Nat} {g : Nat → va_E} {H : Heap} (hE : EH D B 150 g H) (h11 : PK11 cA B g 0 1) : va_at D gCl (rho B 35, wCell (rho B) cA M1 35) H := at_to hE (i := 101) (by decide) ((h11.2.2.2.2.2.2.2.1).2.2.2.2.2.2.2.2.2.2.2.2.2.2.2.2.2.2.2.2.2.2.2.2.2.2.2.2.2.2.2.2.2.2.2.2.2.2.2.2.2.2.2.1) rfl
theorem c1_36 {D : va_G} {cA : Nat → ClassId} {B : Nat} {g : Nat → va_E} {H : Heap} (hE : EH D B 150 g H) (h11 : PK11 cA B g 0 1) : va_at D gCl (rho B 36, wCell (rho B) cA M1 36) H := at_to hE (i := 104) (by decide) ((h11.2.2.2.2.2.2.2.1).2.2.2.2.2.2.2.2.2.2.2.2.2.2.2.2.2.2.2.2.2.2.2.2.2.2.2.2.2.2.2.2.2.2.2.2.2.2.2.2.2.2.2.2.2.2.1) rfl
theorem c1_37 {D : va_G} {cA : Nat → ClassId} {B : Nat} {g : Nat → va_E} {H : Heap} (hE : EH D B 150 g H) (h11 : PK11 cA B g 0 1) : va_at D gCl (rho B 37, wCell (rho B) cA M1 37) H := at_to hE (i := 105) (by decide) ((h11.2.2.2.2.2.2.2.1).2.2.2.2.2.2.2.2.2.2.2.2.2.2.2.2.2.2.2.2.2.2.2.2.2.2.2.2.2.2.2.2.2.2.2.2.2.2.2.2.2.2.2.2.2.2.2.1) rfl
theorem c1_38 {D : va_G} {cA : Nat → ClassId} {B : Nat} {g : Nat → va_E} {H : Heap} (hE : EH D B 150 g H) (h11 : PK11 cA B g 0 1) : va_at D gCl (rho B 38, wCell (rho B) cA M1 38) H := at_to hE (i := 108) (by decide) ((h11.2.2.2.2.2.2.2.1).2.2.2.2.2.2.2.2.2.2.2.2.2.2.2.2.2.2.2.2.2.2.2.2.2.2.2.2.2.2.2.2.2.2.2.2.2.2.2.2.2.2.2.2.2.2.2.2.2.2.1) rfl
theorem c1_39 {D : va_G} {cA : Nat → ClassId} {B : Nat} {g : Nat → va_E} {H : Heap} (hE : EH D B 150 g H) (h11 : PK11 cA B g 0 1) : va_at D gCl (rho B 39, wCell (rho B) cA M1 39) H := at_to hE (i := 109) (by decide) ((h11.2.2.2.2.2.2.2.1).2.2.2.2.2.2.2.2.2.2.2.2.2.2.2.2.2.2.2.2.2.2.2.2.2.2.2.2.2.2.2.2.2.2.2.2.2.2.2.2.2.2.2.2.2.2.2.2.2.2.2) rfl
theorem c1_40 {D : va_G} {cA : Nat → ClassId} {B : Nat} {g : Nat → va_E} {H : Heap} (hE : EH D B 150 g H) (h11 : PK11 cA B g 0 1) : va_at D gCl (rho B 40, wCell (rho B) cA M1 40) H := at_to hE (i := 111) (by decide) ((h11.2.2.2.2.2.2.2.2.1).2.1) rfl
theorem c1_41 {D : va_G} {cA : Nat → ClassId} {B : Nat} {g : Nat → va_E} {H : Heap} (hE : EH D B 150 g H) (h11 : PK11 cA B g 0 1) : va_at D gCl (rho B 41, wCell (rho B) cA M1 41) H := at_to hE (i := 112) (by decide) ((h11.2.2.2.2.2.2.2.2.1).2.2.1) rfl
theorem c1_42 {D : va_G} {cA : Nat → ClassId} {B : Nat} {g : Nat → va_E} {H : Heap} (hE : EH D B 150 g H) (h11 : PK11 cA B g 0 1) : va_at D gCl (rho B 42, wCell (rho B) cA M1 42) H := at_to hE (i := 113) (by decide) ((h11.2.2.2.2.2.2.2.2.1).2.2.2.1) rfl
theorem c1_43 {D : va_G} {cA : Nat → ClassId} {B : Nat} {g : Nat → va_E} {H : Heap} (hE : EH D B 150 g H) (h11 : PK11 cA B g 0 1) : va_at D gCl (rho B 43, wCell (rho B) cA M1 43) H := at_to hE (i := 114) (by decide) ((h11.2.2.2.2.2.2.2.2.1).2.2.2.2.1) rfl
theorem c1_44 {D : va_G} {cA : Nat → ClassId} {B : Nat} {g : Nat → va_E} {H : Heap} (hE : EH D B 150 g H) (h11 : PK11 cA B g 0 1) : va_at D gCl (rho B 44, wCell (rho B) cA M1 44) H := at_to hE (i := 115) (by decide) ((h11.2.2.2.2.2.2.2.2.1).2.2.2.2.2.1) rfl
theorem c1_45 {D : va_G} {cA : Nat → ClassId} {B : Nat} {g : Nat → va_E} {H : Heap} (hE : EH D B 150 g H) (h11 : PK11 cA B g 0 1) : va_at D gCl (rho B 45, wCell (rho B) cA M1 45) H := at_to hE (i := 116) (by decide) ((h11.2.2.2.2.2.2.2.2.1).2.2.2.2.2.2.1) rfl
theorem c1_46 {D : va_G} {cA : Nat → ClassId} {B : Nat} {g : Nat → va_E} {H : Heap} (hE : EH D B 150 g H) (h11 : PK11 cA B g 0 1) : va_at D gCl (rho B 46, wCell (rho B) cA M1 46) H := at_to hE (i := 117) (by decide) ((h11.2.2.2.2.2.2.2.2.1).2.2.2.2.2.2.2.1) rfl
theorem c1_47 {D : va_G} {cA : Nat → ClassId} {B : Nat} {g : Nat → va_E} {H : Heap} (hE : EH D B 150 g H) (h11 : PK11 cA B g 0 1) : va_at D gCl (rho B 47, wCell (rho B) cA M1 47) H := at_to hE (i := 118) (by decide) ((h11.2.2.2.2.2.2.2.2.1).2.2.2.2.2.2.2.2) rfl
theorem c1_48 {D : va_G} {cA : Nat → ClassId} {B : Nat} {g : Nat → va_E} {H : Heap} (hE : EH D B 150 g H) (h11 : PK11 cA B g 0 1) : va_at D gCl (rho B 48, wCell (rho B) cA M1 48) H := at_to hE (i := 139) (by decide) ((h11.2.2.2.2.2.2.2.2.2.1).2.2.2.2.2.2.2.2.2.2.2.2.2.2.2.2.2.2.2.2.1) rfl
theorem c1_49 {D : va_G} {cA : Nat → ClassId} {B : Nat} {g : Nat → va_E} {H : Heap} (hE : EH D B 150 g H) (h11 : PK11 cA B g 0 1) : va_at D gCl (rho B 49, wCell (rho B) cA M1 49) H := at_to hE (i := 140) (by decide) ((h11.2.2.2.2.2.2.2.2.2.1).2.2.2.2.2.2.2.2.2.2.2.2.2.2.2.2.2.2.2.2.2.1) rfl
theorem c1_50 {D : va_G} {cA : Nat → ClassId} {B : Nat} {g : Nat → va_E} {H : Heap} (hE : EH D B 150 g H) (h11 : PK11 cA B g 0 1) : va_at D gCl (rho B 50, wCell (rho B) cA M1 50) H := at_to hE (i := 141) (by decide) ((h11.2.2.2.2.2.2.2.2.2.1).2.2.2.2.2.2.2.2.2.2.2.2.2.2.2.2.2.2.2.2.2.2.1) rfl
theorem c1_51 {D : va_G} {cA : Nat → ClassId} {B : Nat} {g : Nat → va_E} {H : Heap} (hE : EH D B 150 g H) (h11 : PK11 cA B g 0 1) : va_at D gCl (rho B 51, wCell (rho B) cA M1 51) H := at_to hE (i := 142) (by decide) ((h11.2.2.2.2.2.2.2.2.2.1).2.2.2.2.2.2.2.2.2.2.2.2.2.2.2.2.2.2.2.2.2.2.2.1) rfl
theorem c1_52 {D : va_G} {cA : Nat → ClassId} {B : Nat} {g : Nat → va_E} {H : Heap} (hE : EH D B 150 g H) (h11 : PK11 cA B g 0 1) : va_at D gCl (rho B 52, wCell (rho B) cA M1 52) H := at_to hE (i := 143) (by decide) ((h11.2.2.2.2.2.2.2.2.2.1).2.2.2.2.2.2.2.2.2.2.2.2.2.2.2.2.2.2.2.2.2.2.2.2.1) rfl
theorem c1_53 {D : va_G} {cA : Nat → ClassId} {B : Nat} {g : Nat → va_E} {H : Heap} (hE : EH D B 150 g H) (h11 : PK11 cA B g 0 1) : va_at D gCl (rho B 53, wCell (rho B) cA M1 53) H := at_to hE (i := 144) (by decide) ((h11.2.2.2.2.2.2.2.2.2.1).2.2.2.2.2.2.2.2.2.2.2.2.2.2.2.2.2.2.2.2.2.2.2.2.2) rfl
theorem c1_54 {D : va_G} {cA : Nat → ClassId} {B : Nat} {g : Nat → va_E} {H : Heap} (hE : EH D B 150 g H) (h11 : PK11 cA B g 0 1) : va_at D gCl (rho B 54, wCell (rho B) cA M1 54) H := at_to hE (i := 39) (by decide) ((h11.2.2.2.2.2.1).1) rfl
theorem c1_55 {D : va_G} {cA : Nat → ClassId} {B : Nat} {g : Nat → va_E} {H : Heap} (hE : EH D B 150 g H) (h11 : PK11 cA B g 0 1) : va_at D gCl (rho B 55, wCell (rho B) cA M1 55) H := at_to hE (i := 40) (by decide) ((h11.2.2.2.2.2.1).2.1) rfl
theorem c1_56 {D : va_G} {cA : Nat → ClassId} {B : Nat} {g : Nat → va_E} {H : Heap} (hE : EH D B 150 g H) (h11 : PK11 cA B g 0 1) : va_at D gCl (rho B 56, wCell (rho B) cA M1 56) H := at_to hE (i := 41) (by decide) ((h11.2.2.2.2.2.1).2.2.1) rfl
theorem c1_57 {D : va_G} {cA : Nat → ClassId} {B : Nat} {g : Nat → va_E} {H : Heap} (hE : EH D B 150 g H) (h11 : PK11 cA B g 0 1) : va_at D gCl (rho B 57, wCell (rho B) cA M1 57) H := at_to hE (i := 42) (by decide) ((h11.2.2.2.2.2.1).2.2.2.1) rfl
theorem c1_58 {D : va_G} {cA : Nat → ClassId} {B : Nat} {g : Nat → va_E} {H : Heap} (hE : EH D B 150 g H) (h11 : PK11 cA B g 0 1) : va_at D gCl (rho B 58, wCell (rho B) cA M1 58) H := at_to hE (i := 43) (by decide) ((h11.2.2.2.2.2.1).2.2.2.2.1) rfl
theorem c1_59 {D : va_G} {cA : Nat → ClassId} {B : Nat} {g : Nat → va_E} {H : Heap} (hE : EH D B 150 g H) (h11 : PK11 cA B g 0 1) : va_at D gCl (rho B 59, wCell (rho B) cA M1 59) H := at_to hE (i := 44) (by decide) ((h11.2.2.2.2.2.1).2.2.2.2.2.1) rfl
theorem c1_60 {D : va_G} {cA : Nat → ClassId} {B : Nat} {g : Nat → va_E} {H : Heap} (hE : EH D B 150 g H) (h11 : PK11 cA B g 0 1) : va_at D gCl (rho B 60, wCell (rho B) cA M1 60) H := at_to hE (i := 45) (by decide) ((h11.2.2.2.2.2.1).2.2.2.2.2.2.1) rfl
theorem c1_61 {D : va_G} {cA : Nat → ClassId} {B : Nat} {g : Nat → va_E} {H : Heap} (hE : EH D B 150 g H) (h11 : PK11 cA B g 0 1) : va_at D gCl (rho B 61, wCell (rho B) cA M1 61) H := at_to hE (i := 46) (by decide) ((h11.2.2.2.2.2.1).2.2.2.2.2.2.2.1) rfl
theorem c1_62 {D : va_G} {cA : Nat → ClassId} {B : Nat} {g : Nat → va_E} {H : Heap} (hE : EH D B 150 g H) (h11 : PK11 cA B g 0 1) : va_at D gCl (rho B 62, wCell (rho B) cA M1 62) H := at_to hE (i := 47) (by decide) ((h11.2.2.2.2.2.1).2.2.2.2.2.2.2.2) rfl
theorem c1_63 {D : va_G} {cA : Nat → ClassId} {B : Nat} {g : Nat → va_E} {H : Heap} (hE : EH D B 150 g H) (h11 : PK11 cA B g 0 1) : va_at D gCl (rho B 63, wCell (rho B) cA M1 63) H := at_to hE (i := 48) (by decide) ((h11.2.2.2.2.2.2.1).1) rfl
theorem c1_64 {D : va_G} {cA : Nat → ClassId} {B : Nat} {g : Nat → va_E} {H : Heap} (hE : EH D B 150 g H) (h11 : PK11 cA B g 0 1) : va_at D gCl (rho B 64, wCell (rho B) cA M1 64) H := at_to hE (i := 49) (by decide) ((h11.2.2.2.2.2.2.1).2.1) rfl
theorem c1_65 {D : va_G} {cA : Nat → ClassId} {B : Nat} {g : Nat → va_E} {H : Heap} (hE : EH D B 150 g H) (h11 : PK11 cA B g 0 1) : va_at D gCl (rho B 65, wCell (rho B) cA M1 65) H := at_to hE (i := 50) (by decide) ((h11.2.2.2.2.2.2.1).2.2.1) rfl
theorem c1_66 {D : va_G} {cA : Nat → ClassId} {B : Nat} {g : Nat → va_E} {H : Heap} (hE : EH D B 150 g H) (h11 : PK11 cA B g 0 1) : va_at D gCl (rho B 66, wCell (rho B) cA M1 66) H := at_to hE (i := 51) (by decide) ((h11.2.2.2.2.2.2.1).2.2.2.1) rfl
theorem c1_67 {D : va_G} {cA : Nat → ClassId} {B : Nat} {g : Nat → va_E} {H : Heap} (hE : EH D B 150 g H) (h11 : PK11 cA B g 0 1) : va_at D gCl (rho B 67, wCell (rho B) cA M1 67) H := at_to hE (i := 52) (by decide) ((h11.2.2.2.2.2.2.1).2.2.2.2.1) rfl
theorem c1_68 {D : va_G} {cA : Nat → ClassId} {B : Nat} {g : Nat → va_E} {H : Heap} (hE : EH D B 150 g H) (h11 : PK11 cA B g 0 1) : va_at D gCl (rho B 68, wCell (rho B) cA M1 68) H := at_to hE (i := 53) (by decide) ((h11.2.2.2.2.2.2.1).2.2.2.2.2.1) rfl
theorem c1_69 {D : va_G} {cA : Nat → ClassId} {B : Nat} {g : Nat → va_E} {H : Heap} (hE : EH D B 150 g H) (h11 : PK11 cA B g 0 1) : va_at D gCl (rho B 69, wCell (rho B) cA M1 69) H := at_to hE (i := 54) (by decide) ((h11.2.2.2.2.2.2.1).2.2.2.2.2.2.1) rfl
theorem c1_70 {D : va_G} {cA : Nat → ClassId} {B : Nat} {g : Nat → va_E} {H : Heap} (hE : EH D B 150 g H) (h11 : PK11 cA B g 0 1) : va_at D gCl (rho B 70, wCell (rho B) cA M1 70) H := at_to hE (i := 55) (by decide) ((h11.2.2.2.2.2.2.1).2.2.2.2.2.2.2.1) rfl
theorem c1_71 {D : va_G} {cA : Nat → ClassId} {B : Nat} {g : Nat → va_E} {H : Heap} (hE : EH D B 150 g H) (h11 : PK11 cA B g 0 1) : va_at D gCl (rho B 71, wCell (rho B) cA M1 71) H := at_to hE (i := 56) (by decide) ((h11.2.2.2.2.2.2.1).2.2.2.2.2.2.2.2) rfl
theorem c1_72 {D : va_G} {cA : Nat → ClassId} {B : Nat} {g : Nat → va_E} {H : Heap} (hE : EH D B 150 g H) (h11 : PK11 cA B g 0 1) : va_at D gCl (rho B 72, wCell (rho B) cA M1 72) H := at_to hE (i := 69) (by decide) ((h11.2.2.2.2.2.2.2.1).2.2.2.2.2.2.2.2.2.2.2.1) rfl
theorem c1_73 {D : va_G} {cA : Nat → ClassId} {B : Nat} {g : Nat → va_E} {H : Heap} (hE : EH D B 150 g H) (h11 : PK11 cA B g 0 1) : va_at D gCl (rho B 73, wCell (rho B) cA M1 73) H := at_toA hE (i := 70) (n := 6) (f' := fun j => some (rho B (wRa 73 j))) (by decide) ((h11.2.2.2.2.2.2.2.1).2.2.2.2.2.2.2.2.2.2.2.2.1) (fun j hj => by
  match j, hj with
  | 0, _ => rfl
  | 1, _ => rfl
  | 2, _ => rfl
  | 3, _ => rfl
  | 4, _ => rfl
  | 5, _ => rfl
  | q + 6, h => exact absurd h (by omega))
theorem c1_74 {D : va_G} {cA : Nat → ClassId} {B : Nat} {g : Nat → va_E} {H : Heap} (hE : EH D B 150 g H) (h11 : PK11 cA B g 0 1) : va_at D gCl (rho B 74, wCell (rho B) cA M1 74) H := at_to hE (i := 77) (by decide) ((h11.2.2.2.2.2.2.2.1).2.2.2.2.2.2.2.2.2.2.2.2.2.2.2.2.2.2.2.1) rfl
theorem c1_75 {D : va_G} {cA : Nat → ClassId} {B : Nat} {g : Nat → va_E} {H : Heap} (hE : EH D B 150 g H) (h11 : PK11 cA B g 0 1) : va_at D gCl (rho B 75, wCell (rho B) cA M1 75) H := at_to hE (i := 71) (by decide) ((h11.2.2.2.2.2.2.2.1).2.2.2.2.2.2.2.2.2.2.2.2.2.1) rfl
theorem c1_76 {D : va_G} {cA : Nat → ClassId} {B : Nat} {g : Nat → va_E} {H : Heap} (hE : EH D B 150 g H) (h11 : PK11 cA B g 0 1) : va_at D gCl (rho B 76, wCell (rho B) cA M1 76) H := at_to hE (i := 72) (by decide) ((h11.2.2.2.2.2.2.2.1).2.2.2.2.2.2.2.2.2.2.2.2.2.2.1) rfl
theorem c1_77 {D : va_G} {cA : Nat → ClassId} {B : Nat} {g : Nat → va_E} {H : Heap} (hE : EH D B 150 g H) (h11 : PK11 cA B g 0 1) : va_at D gCl (rho B 77, wCell (rho B) cA M1 77) H := at_to hE (i := 73) (by decide) ((h11.2.2.2.2.2.2.2.1).2.2.2.2.2.2.2.2.2.2.2.2.2.2.2.1) rfl
theorem c1_78 {D : va_G} {cA : Nat → ClassId} {B : Nat} {g : Nat → va_E} {H : Heap} (hE : EH D B 150 g H) (h11 : PK11 cA B g 0 1) : va_at D gCl (rho B 78, wCell (rho B) cA M1 78) H := at_to hE (i := 74) (by decide) ((h11.2.2.2.2.2.2.2.1).2.2.2.2.2.2.2.2.2.2.2.2.2.2.2.2.1) rfl
theorem c1_79 {D : va_G} {cA : Nat → ClassId} {B : Nat} {g : Nat → va_E} {H : Heap} (hE : EH D B 150 g H) (h11 : PK11 cA B g 0 1) : va_at D gCl (rho B 79, wCell (rho B) cA M1 79) H := at_to hE (i := 75) (by decide) ((h11.2.2.2.2.2.2.2.1).2.2.2.2.2.2.2.2.2.2.2.2.2.2.2.2.2.1) rfl
theorem c1_80 {D : va_G} {cA : Nat → ClassId} {B : Nat} {g : Nat → va_E} {H : Heap} (hE : EH D B 150 g H) (h11 : PK11 cA B g 0 1) : va_at D gCl (rho B 80, wCell (rho B) cA M1 80) H := at_to hE (i := 76) (by decide) ((h11.2.2.2.2.2.2.2.1).2.2.2.2.2.2.2.2.2.2.2.2.2.2.2.2.2.2.1) rfl
theorem c1_81 {D : va_G} {cA : Nat → ClassId} {B : Nat} {g : Nat → va_E} {H : Heap} (hE : EH D B 150 g H) (h11 : PK11 cA B g 0 1) : va_at D gCl (rho B 81, wCell (rho B) cA M1 81) H := at_to hE (i := 128) (by decide) ((h11.2.2.2.2.2.2.2.2.2.1).2.2.2.2.2.2.2.2.2.1) rfl
theorem c1_82 {D : va_G} {cA : Nat → ClassId} {B : Nat} {g : Nat → va_E} {H : Heap} (hE : EH D B 150 g H) (h11 : PK11 cA B g 0 1) : va_at D gCl (rho B 82, wCell (rho B) cA M1 82) H := at_toA hE (i := 129) (n := 6) (f' := fun j => some (rho B (wRa 82 j))) (by decide) ((h11.2.2.2.2.2.2.2.2.2.1).2.2.2.2.2.2.2.2.2.2.1) (fun j hj => by
  match j, hj with
  | 0, _ => rfl
  | 1, _ => rfl
  | 2, _ => rfl
  | 3, _ => rfl
  | 4, _ => rfl
  | 5, _ => rfl
  | q + 6, h => exact absurd h (by omega))
theorem c1_83 {D : va_G} {cA : Nat → ClassId} {B : Nat} {g : Nat → va_E} {H : Heap} (hE : EH D B 150 g H) (h11 : PK11 cA B g 0 1) : va_at D gCl (rho B 83, wCell (rho B) cA M1 83) H := at_to hE (i := 136) (by decide) ((h11.2.2.2.2.2.2.2.2.2.1).2.2.2.2.2.2.2.2.2.2.2.2.2.2.2.2.2.1) rfl
theorem c1_84 {D : va_G} {cA : Nat → ClassId} {B : Nat} {g : Nat → va_E} {H : Heap} (hE : EH D B 150 g H) (h11 : PK11 cA B g 0 1) : va_at D gCl (rho B 84, wCell (rho B) cA M1 84) H := at_to hE (i := 130) (by decide) ((h11.2.2.2.2.2.2.2.2.2.1).2.2.2.2.2.2.2.2.2.2.2.1) rfl
theorem c1_85 {D : va_G} {cA : Nat → ClassId} {B : Nat} {g : Nat → va_E} {H : Heap} (hE : EH D B 150 g H) (h11 : PK11 cA B g 0 1) : va_at D gCl (rho B 85, wCell (rho B) cA M1 85) H := at_to hE (i := 131) (by decide) ((h11.2.2.2.2.2.2.2.2.2.1).2.2.2.2.2.2.2.2.2.2.2.2.1) rfl
theorem c1_86 {D : va_G} {cA : Nat → ClassId} {B : Nat} {g : Nat → va_E} {H : Heap} (hE : EH D B 150 g H) (h11 : PK11 cA B g 0 1) : va_at D gCl (rho B 86, wCell (rho B) cA M1 86) H := at_to hE (i := 132) (by decide) ((h11.2.2.2.2.2.2.2.2.2.1).2.2.2.2.2.2.2.2.2.2.2.2.2.1) rfl
theorem c1_87 {D : va_G} {cA : Nat → ClassId} {B : Nat} {g : Nat → va_E} {H : Heap} (hE : EH D B 150 g H) (h11 : PK11 cA B g 0 1) : va_at D gCl (rho B 87, wCell (rho B) cA M1 87) H := at_to hE (i := 133) (by decide) ((h11.2.2.2.2.2.2.2.2.2.1).2.2.2.2.2.2.2.2.2.2.2.2.2.2.1) rfl
theorem c1_88 {D : va_G} {cA : Nat → ClassId} {B : Nat} {g : Nat → va_E} {H : Heap} (hE : EH D B 150 g H) (h11 : PK11 cA B g 0 1) : va_at D gCl (rho B 88, wCell (rho B) cA M1 88) H := at_to hE (i := 134) (by decide) ((h11.2.2.2.2.2.2.2.2.2.1).2.2.2.2.2.2.2.2.2.2.2.2.2.2.2.1) rfl
theorem c1_89 {D : va_G} {cA : Nat → ClassId} {B : Nat} {g : Nat → va_E} {H : Heap} (hE : EH D B 150 g H) (h11 : PK11 cA B g 0 1) : va_at D gCl (rho B 89, wCell (rho B) cA M1 89) H := at_to hE (i := 135) (by decide) ((h11.2.2.2.2.2.2.2.2.2.1).2.2.2.2.2.2.2.2.2.2.2.2.2.2.2.2.1) rfl
theorem c1_90 {D : va_G} {cA : Nat → ClassId} {B : Nat} {g : Nat → va_E} {H : Heap} (hE : EH D B 150 g H) (h11 : PK11 cA B g 0 1) : va_at D gCl (rho B 90, wCell (rho B) cA M1 90) H := at_to hE (i := 1) (by decide) ((h11.2.2.1).1) rfl
theorem c1_91 {D : va_G} {cA : Nat → ClassId} {B : Nat} {g : Nat → va_E} {H : Heap} (hE : EH D B 150 g H) (h11 : PK11 cA B g 0 1) : va_at D gCl (rho B 91, wCell (rho B) cA M1 91) H := at_to hE (i := 13) (by decide) ((h11.2.2.2.1).2.1) rfl
theorem c1_92 {D : va_G} {cA : Nat → ClassId} {B : Nat} {g : Nat → va_E} {H : Heap} (hE : EH D B 150 g H) (h11 : PK11 cA B g 0 1) : va_at D gCl (rho B 92, wCell (rho B) cA M1 92) H := at_to hE (i := 14) (by decide) ((h11.2.2.2.1).2.2) rfl
theorem c1_93 {D : va_G} {cA : Nat → ClassId} {B : Nat} {g : Nat → va_E} {H : Heap} (hE : EH D B 150 g H) (h11 : PK11 cA B g 0 1) : va_at D gCl (rho B 93, wCell (rho B) cA M1 93) H := at_to hE (i := 12) (by decide) ((h11.2.2.2.1).1) rfl
theorem c1_94 {D : va_G} {cA : Nat → ClassId} {B : Nat} {g : Nat → va_E} {H : Heap} (hE : EH D B 150 g H) (h11 : PK11 cA B g 0 1) : va_at D gCl (rho B 94, wCell (rho B) cA M1 94) H := at_to hE (i := 16) (by decide) ((h11.2.2.2.2.1).2.1) rfl
theorem c1_95 {D : va_G} {cA : Nat → ClassId} {B : Nat} {g : Nat → va_E} {H : Heap} (hE : EH D B 150 g H) (h11 : PK11 cA B g 0 1) : va_at D gCl (rho B 95, wCell (rho B) cA M1 95) H := at_to hE (i := 17) (by decide) ((h11.2.2.2.2.1).2.2.1) rfl
theorem c1_96 {D : va_G} {cA : Nat → ClassId} {B : Nat} {g : Nat → va_E} {H : Heap} (hE : EH D B 150 g H) (h11 : PK11 cA B g 0 1) : va_at D gCl (rho B 96, wCell (rho B) cA M1 96) H := at_to hE (i := 19) (by decide) ((h11.2.2.2.2.1).2.2.2.2.1) rfl
theorem c1_97 {D : va_G} {cA : Nat → ClassId} {B : Nat} {g : Nat → va_E} {H : Heap} (hE : EH D B 150 g H) (h11 : PK11 cA B g 0 1) : va_at D gCl (rho B 97, wCell (rho B) cA M1 97) H := at_to hE (i := 20) (by decide) ((h11.2.2.2.2.1).2.2.2.2.2.1) rfl
theorem c1_98 {D : va_G} {cA : Nat → ClassId} {B : Nat} {g : Nat → va_E} {H : Heap} (hE : EH D B 150 g H) (h11 : PK11 cA B g 0 1) : va_at D gCl (rho B 98, wCell (rho B) cA M1 98) H := at_to hE (i := 21) (by decide) ((h11.2.2.2.2.1).2.2.2.2.2.2.1) rfl
theorem c1_99 {D : va_G} {cA : Nat → ClassId} {B : Nat} {g : Nat → va_E} {H : Heap} (hE : EH D B 150 g H) (h11 : PK11 cA B g 0 1) : va_at D gCl (rho B 99, wCell (rho B) cA M1 99) H := at_to hE (i := 22) (by decide) ((h11.2.2.2.2.1).2.2.2.2.2.2.2.1) rfl
theorem c1_100 {D : va_G} {cA : Nat → ClassId} {B : Nat} {g : Nat → va_E} {H : Heap} (hE : EH D B 150 g H) (h11 : PK11 cA B g 0 1) : va_at D gCl (rho B 100, wCell (rho B) cA M1 100) H := at_to hE (i := 23) (by decide) ((h11.2.2.2.2.1).2.2.2.2.2.2.2.2.1) rfl
theorem c1_101 {D : va_G} {cA : Nat → ClassId} {B : Nat} {g : Nat → va_E} {H : Heap} (hE : EH D B 150 g H) (h11 : PK11 cA B g 0 1) : va_at D gCl (rho B 101, wCell (rho B) cA M1 101) H := at_to hE (i := 24) (by decide) ((h11.2.2.2.2.1).2.2.2.2.2.2.2.2.2.1) rfl
theorem c1_102 {D : va_G} {cA : Nat → ClassId} {B : Nat} {g : Nat → va_E} {H : Heap} (hE : EH D B 150 g H) (h11 : PK11 cA B g 0 1) : va_at D gCl (rho B 102, wCell (rho B) cA M1 102) H := at_to hE (i := 25) (by decide) ((h11.2.2.2.2.1).2.2.2.2.2.2.2.2.2.2.1) rfl
theorem c1_103 {D : va_G} {cA : Nat → ClassId} {B : Nat} {g : Nat → va_E} {H : Heap} (hE : EH D B 150 g H) (h11 : PK11 cA B g 0 1) : va_at D gCl (rho B 103, wCell (rho B) cA M1 103) H := at_to hE (i := 26) (by decide) ((h11.2.2.2.2.1).2.2.2.2.2.2.2.2.2.2.2.1) rfl
theorem c1_104 {D : va_G} {cA : Nat → ClassId} {B : Nat} {g : Nat → va_E} {H : Heap} (hE : EH D B 150 g H) (h11 : PK11 cA B g 0 1) : va_at D gCl (rho B 104, wCell (rho B) cA M1 104) H := at_to hE (i := 27) (by decide) ((h11.2.2.2.2.1).2.2.2.2.2.2.2.2.2.2.2.2.1) rfl
theorem c1_105 {D : va_G} {cA : Nat → ClassId} {B : Nat} {g : Nat → va_E} {H : Heap} (hE : EH D B 150 g H) (h11 : PK11 cA B g 0 1) : va_at D gCl (rho B 105, wCell (rho B) cA M1 105) H := at_to hE (i := 28) (by decide) ((h11.2.2.2.2.1).2.2.2.2.2.2.2.2.2.2.2.2.2.1) rfl
theorem c1_106 {D : va_G} {cA : Nat → ClassId} {B : Nat} {g : Nat → va_E} {H : Heap} (hE : EH D B 150 g H) (h11 : PK11 cA B g 0 1) : va_at D gCl (rho B 106, wCell (rho B) cA M1 106) H := at_to hE (i := 29) (by decide) ((h11.2.2.2.2.1).2.2.2.2.2.2.2.2.2.2.2.2.2.2.1) rfl
theorem c1_107 {D : va_G} {cA : Nat → ClassId} {B : Nat} {g : Nat → va_E} {H : Heap} (hE : EH D B 150 g H) (h11 : PK11 cA B g 0 1) : va_at D gCl (rho B 107, wCell (rho B) cA M1 107) H := at_to hE (i := 30) (by decide) ((h11.2.2.2.2.1).2.2.2.2.2.2.2.2.2.2.2.2.2.2.2.1) rfl
theorem c1_108 {D : va_G} {cA : Nat → ClassId} {B : Nat} {g : Nat → va_E} {H : Heap} (hE : EH D B 150 g H) (h11 : PK11 cA B g 0 1) : va_at D gCl (rho B 108, wCell (rho B) cA M1 108) H := at_to hE (i := 31) (by decide) ((h11.2.2.2.2.1).2.2.2.2.2.2.2.2.2.2.2.2.2.2.2.2.1) rfl
theorem c1_109 {D : va_G} {cA : Nat → ClassId} {B : Nat} {g : Nat → va_E} {H : Heap} (hE : EH D B 150 g H) (h11 : PK11 cA B g 0 1) : va_at D gCl (rho B 109, wCell (rho B) cA M1 109) H := at_to hE (i := 32) (by decide) ((h11.2.2.2.2.1).2.2.2.2.2.2.2.2.2.2.2.2.2.2.2.2.2.1) rfl
theorem c1_110 {D : va_G} {cA : Nat → ClassId} {B : Nat} {g : Nat → va_E} {H : Heap} (hE : EH D B 150 g H) (h11 : PK11 cA B g 0 1) : va_at D gCl (rho B 110, wCell (rho B) cA M1 110) H := at_to hE (i := 33) (by decide) ((h11.2.2.2.2.1).2.2.2.2.2.2.2.2.2.2.2.2.2.2.2.2.2.2.1) rfl
theorem c1_111 {D : va_G} {cA : Nat → ClassId} {B : Nat} {g : Nat → va_E} {H : Heap} (hE : EH D B 150 g H) (h11 : PK11 cA B g 0 1) : va_at D gCl (rho B 111, wCell (rho B) cA M1 111) H := at_to hE (i := 34) (by decide) ((h11.2.2.2.2.1).2.2.2.2.2.2.2.2.2.2.2.2.2.2.2.2.2.2.2.1) rfl
theorem c1_112 {D : va_G} {cA : Nat → ClassId} {B : Nat} {g : Nat → va_E} {H : Heap} (hE : EH D B 150 g H) (h11 : PK11 cA B g 0 1) : va_at D gCl (rho B 112, wCell (rho B) cA M1 112) H := at_to hE (i := 35) (by decide) ((h11.2.2.2.2.1).2.2.2.2.2.2.2.2.2.2.2.2.2.2.2.2.2.2.2.2.1) rfl
theorem c1_113 {D : va_G} {cA : Nat → ClassId} {B : Nat} {g : Nat → va_E} {H : Heap} (hE : EH D B 150 g H) (h11 : PK11 cA B g 0 1) : va_at D gCl (rho B 113, wCell (rho B) cA M1 113) H := at_to hE (i := 36) (by decide) ((h11.2.2.2.2.1).2.2.2.2.2.2.2.2.2.2.2.2.2.2.2.2.2.2.2.2.2.1) rfl
theorem c1_114 {D : va_G} {cA : Nat → ClassId} {B : Nat} {g : Nat → va_E} {H : Heap} (hE : EH D B 150 g H) (h11 : PK11 cA B g 0 1) : va_at D gCl (rho B 114, wCell (rho B) cA M1 114) H := at_to hE (i := 37) (by decide) ((h11.2.2.2.2.1).2.2.2.2.2.2.2.2.2.2.2.2.2.2.2.2.2.2.2.2.2.2.1) rfl
theorem c1_115 {D : va_G} {cA : Nat → ClassId} {B : Nat} {g : Nat → va_E} {H : Heap} (hE : EH D B 150 g H) (h11 : PK11 cA B g 0 1) : va_at D gCl (rho B 115, wCell (rho B) cA M1 115) H := at_to hE (i := 38) (by decide) ((h11.2.2.2.2.1).2.2.2.2.2.2.2.2.2.2.2.2.2.2.2.2.2.2.2.2.2.2.2) rfl
theorem c1_116 {D : va_G} {cA : Nat → ClassId} {B : Nat} {g : Nat → va_E} {H : Heap} (hE : EH D B 150 g H) (h11 : PK11 cA B g 0 1) : va_at D gCl (rho B 116, wCell (rho B) cA M1 116) H := at_toA hE (i := 18) (n := 20) (f' := fun j => some (rho B (wRa 116 j))) (by decide) ((h11.2.2.2.2.1).2.2.2.1) (fun j hj => by
  match j, hj with
  | 0, _ => rfl
  | 1, _ => rfl
  | 2, _ => rfl
  | 3, _ => rfl
  | 4, _ => rfl
  | 5, _ => rfl
  | 6, _ => rfl
  | 7, _ => rfl
  | 8, _ => rfl
  | 9, _ => rfl
  | 10, _ => rfl
  | 11, _ => rfl
  | 12, _ => rfl
  | 13, _ => rfl
  | 14, _ => rfl
  | 15, _ => rfl
  | 16, _ => rfl
  | 17, _ => rfl
  | 18, _ => rfl
  | 19, _ => rfl
  | q + 20, h => exact absurd h (by omega))
theorem c1_117 {D : va_G} {cA : Nat → ClassId} {B : Nat} {g : Nat → va_E} {H : Heap} (hE : EH D B 150 g H) (h11 : PK11 cA B g 0 1) : va_at D gCl (rho B 117, wCell (rho B) cA M1 117) H := at_to hE (i := 15) (by decide) ((h11.2.2.2.2.1).1) rfl
theorem c1_118 {D : va_G} {cA : Nat → ClassId} {B : Nat} {g : Nat → va_E} {H : Heap} (hE : EH D B 150 g H) (h11 : PK11 cA B g 0 1) : va_at D gCl (rho B 118, wCell (rho B) cA M1 118) H := at_to hE (i := 60) (by decide) ((h11.2.2.2.2.2.2.2.1).2.2.1) (congrArg (fun q : Nat → Int32 => (.inl (cA 1, (7, .inl q)) : va_E)) (funext fun k => (ite32 (p := k = 0) (1) 0).symm))
theorem c1_119 {D : va_G} {cA : Nat → ClassId} {B : Nat} {g : Nat → va_E} {H : Heap} (hE : EH D B 150 g H) (h11 : PK11 cA B g 0 1) : va_at D gCl (rho B 119, wCell (rho B) cA M1 119) H := at_to hE (i := 61) (by decide) ((h11.2.2.2.2.2.2.2.1).2.2.2.1) rfl
theorem c1_120 {D : va_G} {cA : Nat → ClassId} {B : Nat} {g : Nat → va_E} {H : Heap} (hE : EH D B 150 g H) (h11 : PK11 cA B g 0 1) : va_at D gCl (rho B 120, wCell (rho B) cA M1 120) H := at_to hE (i := 62) (by decide) ((h11.2.2.2.2.2.2.2.1).2.2.2.2.1) rfl
theorem c1_121 {D : va_G} {cA : Nat → ClassId} {B : Nat} {g : Nat → va_E} {H : Heap} (hE : EH D B 150 g H) (h11 : PK11 cA B g 0 1) : va_at D gCl (rho B 121, wCell (rho B) cA M1 121) H := at_to hE (i := 63) (by decide) ((h11.2.2.2.2.2.2.2.1).2.2.2.2.2.1) rfl
theorem c1_122 {D : va_G} {cA : Nat → ClassId} {B : Nat} {g : Nat → va_E} {H : Heap} (hE : EH D B 150 g H) (h11 : PK11 cA B g 0 1) : va_at D gCl (rho B 122, wCell (rho B) cA M1 122) H := at_to hE (i := 64) (by decide) ((h11.2.2.2.2.2.2.2.1).2.2.2.2.2.2.1) rfl
theorem c1_123 {D : va_G} {cA : Nat → ClassId} {B : Nat} {g : Nat → va_E} {H : Heap} (hE : EH D B 150 g H) (h11 : PK11 cA B g 0 1) : va_at D gCl (rho B 123, wCell (rho B) cA M1 123) H := at_to hE (i := 65) (by decide) ((h11.2.2.2.2.2.2.2.1).2.2.2.2.2.2.2.1) rfl
theorem c1_124 {D : va_G} {cA : Nat → ClassId} {B : Nat} {g : Nat → va_E} {H : Heap} (hE : EH D B 150 g H) (h11 : PK11 cA B g 0 1) : va_at D gCl (rho B 124, wCell (rho B) cA M1 124) H := at_to hE (i := 66) (by decide) ((h11.2.2.2.2.2.2.2.1).2.2.2.2.2.2.2.2.1) rfl
theorem c1_125 {D : va_G} {cA : Nat → ClassId} {B : Nat} {g : Nat → va_E} {H : Heap} (hE : EH D B 150 g H) (h11 : PK11 cA B g 0 1) : va_at D gCl (rho B 125, wCell (rho B) cA M1 125) H := at_toA hE (i := 59) (n := 7) (f' := fun j => some (rho B (wRa 125 j))) (by decide) ((h11.2.2.2.2.2.2.2.1).2.1) (fun j hj => by
  match j, hj with
  | 0, _ => rfl
  | 1, _ => rfl
  | 2, _ => rfl
  | 3, _ => rfl
  | 4, _ => rfl
  | 5, _ => rfl
  | 6, _ => rfl
  | q + 7, h => exact absurd h (by omega))
theorem c1_126 {D : va_G} {cA : Nat → ClassId} {B : Nat} {g : Nat → va_E} {H : Heap} (hE : EH D B 150 g H) (h11 : PK11 cA B g 0 1) : va_at D gCl (rho B 126, wCell (rho B) cA M1 126) H := at_to hE (i := 67) (by decide) ((h11.2.2.2.2.2.2.2.1).2.2.2.2.2.2.2.2.2.1) rfl
theorem c1_127 {D : va_G} {cA : Nat → ClassId} {B : Nat} {g : Nat → va_E} {H : Heap} (hE : EH D B 150 g H) (h11 : PK11 cA B g 0 1) : va_at D gCl (rho B 127, wCell (rho B) cA M1 127) H := at_to hE (i := 68) (by decide) ((h11.2.2.2.2.2.2.2.1).2.2.2.2.2.2.2.2.2.2.1) rfl
theorem c1_128 {D : va_G} {cA : Nat → ClassId} {B : Nat} {g : Nat → va_E} {H : Heap} (hE : EH D B 150 g H) (h11 : PK11 cA B g 0 1) : va_at D gCl (rho B 128, wCell (rho B) cA M1 128) H := at_toA hE (i := 78) (n := 7) (f' := fun j => some (rho B (wRa 128 j))) (by decide) ((h11.2.2.2.2.2.2.2.1).2.2.2.2.2.2.2.2.2.2.2.2.2.2.2.2.2.2.2.2.1) (fun j hj => by
  match j, hj with
  | 0, _ => rfl
  | 1, _ => rfl
  | 2, _ => rfl
  | 3, _ => rfl
  | 4, _ => rfl
  | 5, _ => rfl
  | 6, _ => rfl
  | q + 7, h => exact absurd h (by omega))
theorem c1_129 {D : va_G} {cA : Nat → ClassId} {B : Nat} {g : Nat → va_E} {H : Heap} (hE : EH D B 150 g H) (h11 : PK11 cA B g 0 1) : va_at D gCl (rho B 129, wCell (rho B) cA M1 129) H := at_toA hE (i := 79) (n := 7) (f' := fun j => some (rho B (wRa 129 j))) (by decide) ((h11.2.2.2.2.2.2.2.1).2.2.2.2.2.2.2.2.2.2.2.2.2.2.2.2.2.2.2.2.2.1) (fun j hj => by
  match j, hj with
  | 0, _ => rfl
  | 1, _ => rfl
  | 2, _ => rfl
  | 3, _ => rfl
  | 4, _ => rfl
  | 5, _ => rfl
  | 6, _ => rfl
  | q + 7, h => exact absurd h (by omega))
theorem c1_130 {D : va_G} {cA : Nat → ClassId} {B : Nat} {g : Nat → va_E} {H : Heap} (hE : EH D B 150 g H) (h11 : PK11 cA B g 0 1) : va_at D gCl (rho B 130, wCell (rho B) cA M1 130) H := at_to hE (i := 58) (by decide) ((h11.2.2.2.2.2.2.2.1).1) rfl
theorem c1_131 {D : va_G} {cA : Nat → ClassId} {B : Nat} {g : Nat → va_E} {H : Heap} (hE : EH D B 150 g H) (h11 : PK11 cA B g 0 1) : va_at D gCl (rho B 131, wCell (rho B) cA M1 131) H := at_to hE (i := 110) (by decide) ((h11.2.2.2.2.2.2.2.2.1).1) rfl
theorem c1_132 {D : va_G} {cA : Nat → ClassId} {B : Nat} {g : Nat → va_E} {H : Heap} (hE : EH D B 150 g H) (h11 : PK11 cA B g 0 1) : va_at D gCl (rho B 132, wCell (rho B) cA M1 132) H := at_to hE (i := 120) (by decide) ((h11.2.2.2.2.2.2.2.2.2.1).2.1) rfl
theorem c1_133 {D : va_G} {cA : Nat → ClassId} {B : Nat} {g : Nat → va_E} {H : Heap} (hE : EH D B 150 g H) (h11 : PK11 cA B g 0 1) : va_at D gCl (rho B 133, wCell (rho B) cA M1 133) H := at_to hE (i := 121) (by decide) ((h11.2.2.2.2.2.2.2.2.2.1).2.2.1) (congrArg (fun q : Nat → Int32 => (.inl (cA 1, (4, .inl q)) : va_E)) (funext fun k => (ite32 (p := k < 4) (1) 0).symm))
theorem c1_134 {D : va_G} {cA : Nat → ClassId} {B : Nat} {g : Nat → va_E} {H : Heap} (hE : EH D B 150 g H) (h11 : PK11 cA B g 0 1) : va_at D gCl (rho B 134, wCell (rho B) cA M1 134) H := at_to hE (i := 123) (by decide) ((h11.2.2.2.2.2.2.2.2.2.1).2.2.2.2.1) rfl
theorem c1_135 {D : va_G} {cA : Nat → ClassId} {B : Nat} {g : Nat → va_E} {H : Heap} (hE : EH D B 150 g H) (h11 : PK11 cA B g 0 1) : va_at D gCl (rho B 135, wCell (rho B) cA M1 135) H := at_to hE (i := 124) (by decide) ((h11.2.2.2.2.2.2.2.2.2.1).2.2.2.2.2.1) rfl
theorem c1_136 {D : va_G} {cA : Nat → ClassId} {B : Nat} {g : Nat → va_E} {H : Heap} (hE : EH D B 150 g H) (h11 : PK11 cA B g 0 1) : va_at D gCl (rho B 136, wCell (rho B) cA M1 136) H := at_to hE (i := 125) (by decide) ((h11.2.2.2.2.2.2.2.2.2.1).2.2.2.2.2.2.1) rfl
theorem c1_137 {D : va_G} {cA : Nat → ClassId} {B : Nat} {g : Nat → va_E} {H : Heap} (hE : EH D B 150 g H) (h11 : PK11 cA B g 0 1) : va_at D gCl (rho B 137, wCell (rho B) cA M1 137) H := at_to hE (i := 126) (by decide) ((h11.2.2.2.2.2.2.2.2.2.1).2.2.2.2.2.2.2.1) rfl
theorem c1_138 {D : va_G} {cA : Nat → ClassId} {B : Nat} {g : Nat → va_E} {H : Heap} (hE : EH D B 150 g H) (h11 : PK11 cA B g 0 1) : va_at D gCl (rho B 138, wCell (rho B) cA M1 138) H := at_toA hE (i := 122) (n := 4) (f' := fun j => some (rho B (wRa 138 j))) (by decide) ((h11.2.2.2.2.2.2.2.2.2.1).2.2.2.1) (fun j hj => by
  match j, hj with
  | 0, _ => rfl
  | 1, _ => rfl
  | 2, _ => rfl
  | 3, _ => rfl
  | q + 4, h => exact absurd h (by omega))
theorem c1_139 {D : va_G} {cA : Nat → ClassId} {B : Nat} {g : Nat → va_E} {H : Heap} (hE : EH D B 150 g H) (h11 : PK11 cA B g 0 1) : va_at D gCl (rho B 139, wCell (rho B) cA M1 139) H := at_to hE (i := 127) (by decide) ((h11.2.2.2.2.2.2.2.2.2.1).2.2.2.2.2.2.2.2.1) rfl
theorem c1_140 {D : va_G} {cA : Nat → ClassId} {B : Nat} {g : Nat → va_E} {H : Heap} (hE : EH D B 150 g H) (h11 : PK11 cA B g 0 1) : va_at D gCl (rho B 140, wCell (rho B) cA M1 140) H := at_to hE (i := 137) (by decide) ((h11.2.2.2.2.2.2.2.2.2.1).2.2.2.2.2.2.2.2.2.2.2.2.2.2.2.2.2.2.1) rfl
theorem c1_141 {D : va_G} {cA : Nat → ClassId} {B : Nat} {g : Nat → va_E} {H : Heap} (hE : EH D B 150 g H) (h11 : PK11 cA B g 0 1) : va_at D gCl (rho B 141, wCell (rho B) cA M1 141) H := at_to hE (i := 138) (by decide) ((h11.2.2.2.2.2.2.2.2.2.1).2.2.2.2.2.2.2.2.2.2.2.2.2.2.2.2.2.2.2.1) rfl
theorem c1_142 {D : va_G} {cA : Nat → ClassId} {B : Nat} {g : Nat → va_E} {H : Heap} (hE : EH D B 150 g H) (h11 : PK11 cA B g 0 1) : va_at D gCl (rho B 142, wCell (rho B) cA M1 142) H := at_to hE (i := 119) (by decide) ((h11.2.2.2.2.2.2.2.2.2.1).1) rfl
theorem c1_143 {D : va_G} {cA : Nat → ClassId} {B : Nat} {g : Nat → va_E} {H : Heap} (hE : EH D B 150 g H) (h11 : PK11 cA B g 0 1) : va_at D gCl (rho B 143, wCell (rho B) cA M1 143) H := at_to hE (i := 145) (by decide) ((h11.2.2.2.2.2.2.2.2.2.2.1)) rfl
theorem c1_144 {D : va_G} {cA : Nat → ClassId} {B : Nat} {g : Nat → va_E} {H : Heap} (hE : EH D B 150 g H) (h11 : PK11 cA B g 0 1) : va_at D gCl (rho B 144, wCell (rho B) cA M1 144) H := at_to hE (i := 147) (by decide) ((h11.2.2.2.2.2.2.2.2.2.2.2).2.1) rfl
theorem c1_145 {D : va_G} {cA : Nat → ClassId} {B : Nat} {g : Nat → va_E} {H : Heap} (hE : EH D B 150 g H) (h11 : PK11 cA B g 0 1) : va_at D gCl (rho B 145, wCell (rho B) cA M1 145) H := at_to hE (i := 148) (by decide) ((h11.2.2.2.2.2.2.2.2.2.2.2).2.2.1) rfl
theorem c1_146 {D : va_G} {cA : Nat → ClassId} {B : Nat} {g : Nat → va_E} {H : Heap} (hE : EH D B 150 g H) (h11 : PK11 cA B g 0 1) : va_at D gCl (rho B 146, wCell (rho B) cA M1 146) H := at_to hE (i := 149) (by decide) ((h11.2.2.2.2.2.2.2.2.2.2.2).2.2.2) rfl
theorem c1_147 {D : va_G} {cA : Nat → ClassId} {B : Nat} {g : Nat → va_E} {H : Heap} (hE : EH D B 150 g H) (h11 : PK11 cA B g 0 1) : va_at D gCl (rho B 147, wCell (rho B) cA M1 147) H := at_to hE (i := 146) (by decide) ((h11.2.2.2.2.2.2.2.2.2.2.2).1) rfl
theorem c1_148 {D : va_G} {cA : Nat → ClassId} {B : Nat} {g : Nat → va_E} {H : Heap} (hE : EH D B 150 g H) (h11 : PK11 cA B g 0 1) : va_at D gCl (rho B 148, wCell (rho B) cA M1 148) H := at_to hE (i := 57) (by decide) (h11.2.1) (congrArg (fun q : Nat → Int32 => (.inl (cA 1, (6, .inl q)) : va_E)) (funext fun k => by
  show (if k < 6 then (-1 : Int32) else 0) = Int32.ofInt (if k < 6 then -1 else 0)
  split <;> decide))
theorem c1_149 {D : va_G} {cA : Nat → ClassId} {B : Nat} {g : Nat → va_E} {H : Heap} (hE : EH D B 150 g H) (h11 : PK11 cA B g 0 1) : va_at D gCl (rho B 149, wCell (rho B) cA M1 149) H := at_to hE (i := 0) (by decide) (h11.1) rfl
def wl_0 : List Nat := [0, 1, 2, 3, 4, 5, 6, 7, 8, 9, 10, 11, 12, 13, 14, 15]
theorem wa_0 {D : va_G} {cA : Nat → ClassId} {B : Nat} {g : Nat → va_E} {H : Heap} (hE : EH D B 150 g H) (h11 : PK11 cA B g 0 1) : ∀ n ∈ wl_0, va_at D gCl (rho B n, wCell (rho B) cA M1 n) H := List.forall_mem_cons.mpr ⟨c1_0 hE h11, List.forall_mem_cons.mpr ⟨c1_1 hE h11, List.forall_mem_cons.mpr ⟨c1_2 hE h11, List.forall_mem_cons.mpr ⟨c1_3 hE h11, List.forall_mem_cons.mpr ⟨c1_4 hE h11, List.forall_mem_cons.mpr ⟨c1_5 hE h11, List.forall_mem_cons.mpr ⟨c1_6 hE h11, List.forall_mem_cons.mpr ⟨c1_7 hE h11, List.forall_mem_cons.mpr ⟨c1_8 hE h11, List.forall_mem_cons.mpr ⟨c1_9 hE h11, List.forall_mem_cons.mpr ⟨c1_10 hE h11, List.forall_mem_cons.mpr ⟨c1_11 hE h11, List.forall_mem_cons.mpr ⟨c1_12 hE h11, List.forall_mem_cons.mpr ⟨c1_13 hE h11, List.forall_mem_cons.mpr ⟨c1_14 hE h11, List.forall_mem_cons.mpr ⟨c1_15 hE h11, fun _ h => absurd h List.not_mem_nil⟩⟩⟩⟩⟩⟩⟩⟩⟩⟩⟩⟩⟩⟩⟩⟩
def wl_1 : List Nat := [16, 17, 18, 19, 20, 21, 22, 23, 24, 25, 26, 27, 28, 29, 30, 31]
theorem wa_1 {D : va_G} {cA : Nat → ClassId} {B : Nat} {g : Nat → va_E} {H : Heap} (hE : EH D B 150 g H) (h11 : PK11 cA B g 0 1) : ∀ n ∈ wl_1, va_at D gCl (rho B n, wCell (rho B) cA M1 n) H := List.forall_mem_cons.mpr ⟨c1_16 hE h11, List.forall_mem_cons.mpr ⟨c1_17 hE h11, List.forall_mem_cons.mpr ⟨c1_18 hE h11, List.forall_mem_cons.mpr ⟨c1_19 hE h11, List.forall_mem_cons.mpr ⟨c1_20 hE h11, List.forall_mem_cons.mpr ⟨c1_21 hE h11, List.forall_mem_cons.mpr ⟨c1_22 hE h11, List.forall_mem_cons.mpr ⟨c1_23 hE h11, List.forall_mem_cons.mpr ⟨c1_24 hE h11, List.forall_mem_cons.mpr ⟨c1_25 hE h11, List.forall_mem_cons.mpr ⟨c1_26 hE h11, List.forall_mem_cons.mpr ⟨c1_27 hE h11, List.forall_mem_cons.mpr ⟨c1_28 hE h11, List.forall_mem_cons.mpr ⟨c1_29 hE h11, List.forall_mem_cons.mpr ⟨c1_30 hE h11, List.forall_mem_cons.mpr ⟨c1_31 hE h11, fun _ h => absurd h List.not_mem_nil⟩⟩⟩⟩⟩⟩⟩⟩⟩⟩⟩⟩⟩⟩⟩⟩
def wl_2 : List Nat := [32, 33, 34, 35, 36, 37, 38, 39, 40, 41, 42, 43, 44, 45, 46, 47]
theorem wa_2 {D : va_G} {cA : Nat → ClassId} {B : Nat} {g : Nat → va_E} {H : Heap} (hE : EH D B 150 g H) (h11 : PK11 cA B g 0 1) : ∀ n ∈ wl_2, va_at D gCl (rho B n, wCell (rho B) cA M1 n) H := List.forall_mem_cons.mpr ⟨c1_32 hE h11, List.forall_mem_cons.mpr ⟨c1_33 hE h11, List.forall_mem_cons.mpr ⟨c1_34 hE h11, List.forall_mem_cons.mpr ⟨c1_35 hE h11, List.forall_mem_cons.mpr ⟨c1_36 hE h11, List.forall_mem_cons.mpr ⟨c1_37 hE h11, List.forall_mem_cons.mpr ⟨c1_38 hE h11, List.forall_mem_cons.mpr ⟨c1_39 hE h11, List.forall_mem_cons.mpr ⟨c1_40 hE h11, List.forall_mem_cons.mpr ⟨c1_41 hE h11, List.forall_mem_cons.mpr ⟨c1_42 hE h11, List.forall_mem_cons.mpr ⟨c1_43 hE h11, List.forall_mem_cons.mpr ⟨c1_44 hE h11, List.forall_mem_cons.mpr ⟨c1_45 hE h11, List.forall_mem_cons.mpr ⟨c1_46 hE h11, List.forall_mem_cons.mpr ⟨c1_47 hE h11, fun _ h => absurd h List.not_mem_nil⟩⟩⟩⟩⟩⟩⟩⟩⟩⟩⟩⟩⟩⟩⟩⟩
def wl_3 : List Nat := [48, 49, 50, 51, 52, 53, 54, 55, 56, 57, 58, 59, 60, 61, 62, 63]
theorem wa_3 {D : va_G} {cA : Nat → ClassId} {B : Nat} {g : Nat → va_E} {H : Heap} (hE : EH D B 150 g H) (h11 : PK11 cA B g 0 1) : ∀ n ∈ wl_3, va_at D gCl (rho B n, wCell (rho B) cA M1 n) H := List.forall_mem_cons.mpr ⟨c1_48 hE h11, List.forall_mem_cons.mpr ⟨c1_49 hE h11, List.forall_mem_cons.mpr ⟨c1_50 hE h11, List.forall_mem_cons.mpr ⟨c1_51 hE h11, List.forall_mem_cons.mpr ⟨c1_52 hE h11, List.forall_mem_cons.mpr ⟨c1_53 hE h11, List.forall_mem_cons.mpr ⟨c1_54 hE h11, List.forall_mem_cons.mpr ⟨c1_55 hE h11, List.forall_mem_cons.mpr ⟨c1_56 hE h11, List.forall_mem_cons.mpr ⟨c1_57 hE h11, List.forall_mem_cons.mpr ⟨c1_58 hE h11, List.forall_mem_cons.mpr ⟨c1_59 hE h11, List.forall_mem_cons.mpr ⟨c1_60 hE h11, List.forall_mem_cons.mpr ⟨c1_61 hE h11, List.forall_mem_cons.mpr ⟨c1_62 hE h11, List.forall_mem_cons.mpr ⟨c1_63 hE h11, fun _ h => absurd h List.not_mem_nil⟩⟩⟩⟩⟩⟩⟩⟩⟩⟩⟩⟩⟩⟩⟩⟩
def wl_4 : List Nat := [64, 65, 66, 67, 68, 69, 70, 71, 72, 73, 74, 75, 76, 77, 78, 79]
theorem wa_4 {D : va_G} {cA : Nat → ClassId} {B : Nat} {g : Nat → va_E} {H : Heap} (hE : EH D B 150 g H) (h11 : PK11 cA B g 0 1) : ∀ n ∈ wl_4, va_at D gCl (rho B n, wCell (rho B) cA M1 n) H := List.forall_mem_cons.mpr ⟨c1_64 hE h11, List.forall_mem_cons.mpr ⟨c1_65 hE h11, List.forall_mem_cons.mpr ⟨c1_66 hE h11, List.forall_mem_cons.mpr ⟨c1_67 hE h11, List.forall_mem_cons.mpr ⟨c1_68 hE h11, List.forall_mem_cons.mpr ⟨c1_69 hE h11, List.forall_mem_cons.mpr ⟨c1_70 hE h11, List.forall_mem_cons.mpr ⟨c1_71 hE h11, List.forall_mem_cons.mpr ⟨c1_72 hE h11, List.forall_mem_cons.mpr ⟨c1_73 hE h11, List.forall_mem_cons.mpr ⟨c1_74 hE h11, List.forall_mem_cons.mpr ⟨c1_75 hE h11, List.forall_mem_cons.mpr ⟨c1_76 hE h11, List.forall_mem_cons.mpr ⟨c1_77 hE h11, List.forall_mem_cons.mpr ⟨c1_78 hE h11, List.forall_mem_cons.mpr ⟨c1_79 hE h11, fun _ h => absurd h List.not_mem_nil⟩⟩⟩⟩⟩⟩⟩⟩⟩⟩⟩⟩⟩⟩⟩⟩
def wl_5 : List Nat := [80, 81, 82, 83, 84, 85, 86, 87, 88, 89, 90, 91, 92, 93, 94, 95]
theorem wa_5 {D : va_G} {cA : Nat → ClassId} {B : Nat} {g : Nat → va_E} {H : Heap} (hE : EH D B 150 g H) (h11 : PK11 cA B g 0 1) : ∀ n ∈ wl_5, va_at D gCl (rho B n, wCell (rho B) cA M1 n) H := List.forall_mem_cons.mpr ⟨c1_80 hE h11, List.forall_mem_cons.mpr ⟨c1_81 hE h11, List.forall_mem_cons.mpr ⟨c1_82 hE h11, List.forall_mem_cons.mpr ⟨c1_83 hE h11, List.forall_mem_cons.mpr ⟨c1_84 hE h11, List.forall_mem_cons.mpr ⟨c1_85 hE h11, List.forall_mem_cons.mpr ⟨c1_86 hE h11, List.forall_mem_cons.mpr ⟨c1_87 hE h11, List.forall_mem_cons.mpr ⟨c1_88 hE h11, List.forall_mem_cons.mpr ⟨c1_89 hE h11, List.forall_mem_cons.mpr ⟨c1_90 hE h11, List.forall_mem_cons.mpr ⟨c1_91 hE h11, List.forall_mem_cons.mpr ⟨c1_92 hE h11, List.forall_mem_cons.mpr ⟨c1_93 hE h11, List.forall_mem_cons.mpr ⟨c1_94 hE h11, List.forall_mem_cons.mpr ⟨c1_95 hE h11, fun _ h => absurd h List.not_mem_nil⟩⟩⟩⟩⟩⟩⟩⟩⟩⟩⟩⟩⟩⟩⟩⟩
def wl_6 : List Nat := [96, 97, 98, 99, 100, 101, 102, 103, 104, 105, 106, 107, 108, 109, 110, 111]
theorem wa_6 {D : va_G} {cA : Nat → ClassId} {B : Nat} {g : Nat → va_E} {H : Heap} (hE : EH D B 150 g H) (h11 : PK11 cA B g 0 1) : ∀ n ∈ wl_6, va_at D gCl (rho B n, wCell (rho B) cA M1 n) H := List.forall_mem_cons.mpr ⟨c1_96 hE h11, List.forall_mem_cons.mpr ⟨c1_97 hE h11, List.forall_mem_cons.mpr ⟨c1_98 hE h11, List.forall_mem_cons.mpr ⟨c1_99 hE h11, List.forall_mem_cons.mpr ⟨c1_100 hE h11, List.forall_mem_cons.mpr ⟨c1_101 hE h11, List.forall_mem_cons.mpr ⟨c1_102 hE h11, List.forall_mem_cons.mpr ⟨c1_103 hE h11, List.forall_mem_cons.mpr ⟨c1_104 hE h11, List.forall_mem_cons.mpr ⟨c1_105 hE h11, List.forall_mem_cons.mpr ⟨c1_106 hE h11, List.forall_mem_cons.mpr ⟨c1_107 hE h11, List.forall_mem_cons.mpr ⟨c1_108 hE h11, List.forall_mem_cons.mpr ⟨c1_109 hE h11, List.forall_mem_cons.mpr ⟨c1_110 hE h11, List.forall_mem_cons.mpr ⟨c1_111 hE h11, fun _ h => absurd h List.not_mem_nil⟩⟩⟩⟩⟩⟩⟩⟩⟩⟩⟩⟩⟩⟩⟩⟩
def wl_7 : List Nat := [112, 113, 114, 115, 116, 117, 118, 119, 120, 121, 122, 123, 124, 125, 126, 127]
theorem wa_7 {D : va_G} {cA : Nat → ClassId} {B : Nat} {g : Nat → va_E} {H : Heap} (hE : EH D B 150 g H) (h11 : PK11 cA B g 0 1) : ∀ n ∈ wl_7, va_at D gCl (rho B n, wCell (rho B) cA M1 n) H := List.forall_mem_cons.mpr ⟨c1_112 hE h11, List.forall_mem_cons.mpr ⟨c1_113 hE h11, List.forall_mem_cons.mpr ⟨c1_114 hE h11, List.forall_mem_cons.mpr ⟨c1_115 hE h11, List.forall_mem_cons.mpr ⟨c1_116 hE h11, List.forall_mem_cons.mpr ⟨c1_117 hE h11, List.forall_mem_cons.mpr ⟨c1_118 hE h11, List.forall_mem_cons.mpr ⟨c1_119 hE h11, List.forall_mem_cons.mpr ⟨c1_120 hE h11, List.forall_mem_cons.mpr ⟨c1_121 hE h11, List.forall_mem_cons.mpr ⟨c1_122 hE h11, List.forall_mem_cons.mpr ⟨c1_123 hE h11, List.forall_mem_cons.mpr ⟨c1_124 hE h11, List.forall_mem_cons.mpr ⟨c1_125 hE h11, List.forall_mem_cons.mpr ⟨c1_126 hE h11, List.forall_mem_cons.mpr ⟨c1_127 hE h11, fun _ h => absurd h List.not_mem_nil⟩⟩⟩⟩⟩⟩⟩⟩⟩⟩⟩⟩⟩⟩⟩⟩
def wl_8 : List Nat := [128, 129, 130, 131, 132, 133, 134, 135, 136, 137, 138, 139, 140, 141, 142, 143]
theorem wa_8 {D : va_G} {cA : Nat → ClassId} {B : Nat} {g : Nat → va_E} {H : Heap} (hE : EH D B 150 g H) (h11 : PK11 cA B g 0 1) : ∀ n ∈ wl_8, va_at D gCl (rho B n, wCell (rho B) cA M1 n) H := List.forall_mem_cons.mpr ⟨c1_128 hE h11, List.forall_mem_cons.mpr ⟨c1_129 hE h11, List.forall_mem_cons.mpr ⟨c1_130 hE h11, List.forall_mem_cons.mpr ⟨c1_131 hE h11, List.forall_mem_cons.mpr ⟨c1_132 hE h11, List.forall_mem_cons.mpr ⟨c1_133 hE h11, List.forall_mem_cons.mpr ⟨c1_134 hE h11, List.forall_mem_cons.mpr ⟨c1_135 hE h11, List.forall_mem_cons.mpr ⟨c1_136 hE h11, List.forall_mem_cons.mpr ⟨c1_137 hE h11, List.forall_mem_cons.mpr ⟨c1_138 hE h11, List.forall_mem_cons.mpr ⟨c1_139 hE h11, List.forall_mem_cons.mpr ⟨c1_140 hE h11, List.forall_mem_cons.mpr ⟨c1_141 hE h11, List.forall_mem_cons.mpr ⟨c1_142 hE h11, List.forall_mem_cons.mpr ⟨c1_143 hE h11, fun _ h => absurd h List.not_mem_nil⟩⟩⟩⟩⟩⟩⟩⟩⟩⟩⟩⟩⟩⟩⟩⟩
def wl_9 : List Nat := [144, 145, 146, 147, 148, 149]
theorem wa_9 {D : va_G} {cA : Nat → ClassId} {B : Nat} {g : Nat → va_E} {H : Heap} (hE : EH D B 150 g H) (h11 : PK11 cA B g 0 1) : ∀ n ∈ wl_9, va_at D gCl (rho B n, wCell (rho B) cA M1 n) H := List.forall_mem_cons.mpr ⟨c1_144 hE h11, List.forall_mem_cons.mpr ⟨c1_145 hE h11, List.forall_mem_cons.mpr ⟨c1_146 hE h11, List.forall_mem_cons.mpr ⟨c1_147 hE h11, List.forall_mem_cons.mpr ⟨c1_148 hE h11, List.forall_mem_cons.mpr ⟨c1_149 hE h11, fun _ h => absurd h List.not_mem_nil⟩⟩⟩⟩⟩⟩
def wl_all : List Nat := wl_0 ++ (wl_1 ++ (wl_2 ++ (wl_3 ++ (wl_4 ++ (wl_5 ++ (wl_6 ++ (wl_7 ++ (wl_8 ++ (wl_9)))))))))
theorem wl_in : ∀ n, n < 150 → n ∈ wl_all := by decide +kernel
theorem first_P {D : va_G} {cA : Nat → ClassId} {B : Nat} {g : Nat → va_E} {H : Heap} (hE : EH D B 150 g H) (h11 : PK11 cA B g 0 1) : va_P D gCl (wWs (rho B) cA M1) H := by
  have h : ∀ n ∈ wl_all, va_at D gCl (rho B n, wCell (rho B) cA M1 n) H := List.forall_mem_append.mpr ⟨wa_0 hE h11, List.forall_mem_append.mpr ⟨wa_1 hE h11, List.forall_mem_append.mpr ⟨wa_2 hE h11, List.forall_mem_append.mpr ⟨wa_3 hE h11, List.forall_mem_append.mpr ⟨wa_4 hE h11, List.forall_mem_append.mpr ⟨wa_5 hE h11, List.forall_mem_append.mpr ⟨wa_6 hE h11, List.forall_mem_append.mpr ⟨wa_7 hE h11, List.forall_mem_append.mpr ⟨wa_8 hE h11, wa_9 hE h11⟩⟩⟩⟩⟩⟩⟩⟩⟩
  intro k q hq
  by_cases hk : k < 150
  · rw [wWs_at hk] at hq
    cases hq
    exact h k (wl_in k hk)
  · exfalso
    rw [List.getElem?_eq_none (by simp [wWs]; omega)] at hq
    cases hq
theorem first_D {cA : Nat → ClassId} {B : Nat} {M : Mem} {A : Nat → Prop} (hA : ∀ q : Nat, B ≤ q → A q) : va_D A (wWs (rho B) cA M) := by
  have hlt : ∀ (k : Nat) (q : Nat × va_E), (wWs (rho B) cA M)[k]? = some q → k < 150 ∧ q.1 = B + ord k := fun k q hq => by
    by_cases hk : k < 150
    · rw [wWs_at hk] at hq
      cases hq
      exact ⟨hk, rfl⟩
    · exfalso
      rw [List.getElem?_eq_none (by simp [wWs]; omega)] at hq
      cases hq
  refine ⟨fun i j p q hp hq he => ?_, fun k q hq => ?_⟩
  · obtain ⟨h1, h2⟩ := hlt i p hp
    obtain ⟨h3, h4⟩ := hlt j q hq
    exact ord_inj h1 h3 (by omega)
  · obtain ⟨h1, h2⟩ := hlt k q hq
    exact hA _ (by omega)
