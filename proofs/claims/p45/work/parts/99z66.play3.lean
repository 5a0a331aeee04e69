/-! The play: it ends; nobody waits too long for ever. -/
def sumN (f : Nat → Int) : Nat → Int
  | 0 => 0
  | k + 1 => sumN f k + f k
theorem sumN_congr {f g : Nat → Int} : ∀ n, (∀ k, k < n → f k = g k) → sumN f n = sumN g n
  | 0, _ => rfl
  | n + 1, h => by
    show sumN f n + f n = sumN g n + g n
    rw [sumN_congr n (fun k hk => h k (by omega)), h n (by omega)]
theorem sumN_le {f g : Nat → Int} : ∀ n, (∀ k, k < n → f k ≤ g k) → sumN f n ≤ sumN g n
  | 0, _ => Int.le_refl 0
  | n + 1, h => by
    have h1 := sumN_le n (fun k hk => h k (by omega))
    have h2 := h n (by omega)
    show sumN f n + f n ≤ sumN g n + g n
    omega
theorem sumN_lt {f g : Nat → Int} {m : Nat} (hm : f m < g m) : ∀ n, m < n → (∀ k, k < n → f k ≤ g k) → sumN f n + 1 ≤ sumN g n
  | 0, h, _ => absurd h (by omega)
  | n + 1, h, hle => by
    show sumN f n + f n + 1 ≤ sumN g n + g n
    by_cases e : m = n
    · subst e
      have := sumN_le m (fun k hk => hle k (by omega))
      omega
    · have h1 := sumN_lt hm n (by omega) (fun k hk => hle k (by omega))
      have h2 := hle n (by omega)
      omega
theorem sumN_bd {f : Nat → Int} {B : Int} : ∀ n, (∀ k, k < n → 0 ≤ f k ∧ f k ≤ B) → 0 ≤ sumN f n ∧ sumN f n ≤ B * n
  | 0, _ => by simp [sumN]
  | n + 1, h => by
    have h1 := sumN_bd n (fun k hk => h k (by omega))
    have h2 := h n (by omega)
    show 0 ≤ sumN f n + f n ∧ sumN f n + f n ≤ B * ((n + 1 : Nat) : Int)
    rw [show ((n + 1 : Nat) : Int) = (n : Int) + 1 by omega, Int.mul_add, Int.mul_one]
    omega
/-- what is left of a job -/
def rmF (J : Nat → Int) (nx : Nat) (F : Mem) (k : Nat) : Int := if k < nx then (if F 0 k = 3 then F 1 k else 0) else J (4 * k + 1)
def rmn (J : Nat → Int) (x : SG) (k : Nat) : Int := rmF J x.2.2.1 x.2.2.2 k
def remS (n : Nat) (J : Nat → Int) (x : SG) : Int := sumN (rmn J x) n
theorem VJ.mono {n : Nat} {J : Nat → Int} (h : VJ n J) : ∀ (d k : Nat), k + d < n → J (4 * k) ≤ J (4 * (k + d))
  | 0, k, _ => Int.le_refl _
  | d + 1, k, hk => by
    have h1 := h.mono d k (by omega)
    have h2 := h.2.2 (k + d) (by omega)
    rw [show k + (d + 1) = k + d + 1 by omega]
    omega
theorem rmn_r {n : Nat} {J : Nat → Int} {many t : Int} {x : SG} (hV : VJ n J) (h : PVi n many t x) : ∀ k, k < n → 0 ≤ rmn J x k ∧ rmn J x k ≤ 40 := by
  intro k hk
  unfold rmn rmF
  by_cases q : k < x.2.2.1
  · rw [if_pos q]
    by_cases q2 : x.2.2.2 0 k = 3
    · rw [if_pos q2]
      have := h.2.2.2.2.2.1 k ((h.2.2.2.2.1 k q).1.mp q2)
      omega
    · rw [if_neg q2]; omega
  · rw [if_neg q]
    have := (hV.2.1 k hk).2.1
    omega
theorem remS_r {n : Nat} {J : Nat → Int} {many t : Int} {x : SG} (hV : VJ n J) (h : PVi n many t x) : 0 ≤ remS n J x ∧ remS n J x ≤ 960 := by
  have h1 := sumN_bd n (rmn_r hV h)
  have := hV.1
  unfold remS
  omega
theorem rmF_congr {J : Nat → Int} {nx : Nat} {F G : Mem} {k : Nat} (h0 : G 0 k = F 0 k) (h1 : G 1 k = F 1 k) : rmF J nx G k = rmF J nx F k := by
  unfold rmF
  rw [h0, h1]
theorem rmF_off {J : Nat → Int} {nx : Nat} {F : Mem} {k : Nat} (h : k < nx) (h0 : F 0 k ≠ 3) : rmF J nx F k = 0 := by
  unfold rmF
  rw [if_pos h, if_neg h0]
theorem rmF_on {J : Nat → Int} {nx : Nat} {F : Mem} {k : Nat} (h : k < nx) (h0 : F 0 k = 3) : rmF J nx F k = F 1 k := by
  unfold rmF
  rw [if_pos h, if_pos h0]
theorem rmF_new {J : Nat → Int} {nx : Nat} {F : Mem} {k : Nat} (h : ¬ k < nx) : rmF J nx F k = J (4 * k + 1) := by
  unfold rmF
  rw [if_neg h]
theorem sGo_rem {n : Nat} {J : Nat → Int} {many wait t : Int} {x : SG} (hV : VJ n J) (h : PVi n many t x) : remS n J (sGo J wait t x) ≤ remS n J x := by
  refine sumN_le n fun k hk => ?_
  have hr := rmn_r hV h k hk
  obtain ⟨row, srv, nx, F⟩ := x
  show rmF J nx (goF J wait t row F) k ≤ rmF J nx F k
  have hr' : 0 ≤ rmF J nx F k := hr.1
  by_cases q2 : k ∈ row ∧ gonD J wait t F k = true
  · have g0 : goF J wait t row F 0 k = 1 := by unfold goF; rw [if_pos q2]; rfl
    have hk' : k < nx := h.2.2.1 k (List.mem_append_left _ q2.1)
    rw [rmF_off hk' (by rw [g0]; decide)]
    exact hr'
  · have g : ∀ c, goF J wait t row F c k = F c k := fun c => by unfold goF; rw [if_neg q2]
    rw [rmF_congr (g 0) (g 1)]
    exact Int.le_refl _
theorem sIn1_rem {n : Nat} {J : Nat → Int} {cap t : Int} {x : SG} (hV : VJ n J) (hx : x.2.2.1 < n) : remS n J (sIn1 J cap t x) ≤ remS n J x := by
  obtain ⟨row, srv, nx, F⟩ := x
  have hj := (hV.2.1 nx hx).2.1
  refine sumN_le n fun k hk => ?_
  have K : ∀ (v : Int), (v = 3 ∨ v = 2) → rmF J (nx + 1) (upd2 (inF J t nx F) 0 nx v) k ≤ rmF J nx F k := by
    intro v hv
    by_cases e : k = nx
    · subst e
      rw [rmF_new (Nat.lt_irrefl k)]
      rcases hv with rfl | rfl
      · rw [rmF_on (by omega) u2_same]
        unfold inF
        rw [u2_off (by decide), u2_same]
        exact Int.le_refl _
      · rw [rmF_off (by omega) (by rw [u2_same]; decide)]
        omega
    · have g : ∀ c, upd2 (inF J t nx F) 0 nx v c k = F c k := fun c => by
        unfold inF
        rw [u2', if_neg fun z => e z.2, u2', if_neg fun z => e z.2, u2', if_neg fun z => e z.2, u2', if_neg fun z => e z.2]
      rw [rmF_congr (g 0) (g 1)]
      unfold rmF
      by_cases q : k < nx
      · rw [if_pos (show k < nx + 1 by omega), if_pos q]; exact Int.le_refl _
      · rw [if_neg (show ¬ k < nx + 1 by omega), if_neg q]; exact Int.le_refl _
  unfold sIn1
  by_cases q : (row.length : Int) + srv.length < cap
  · rw [if_pos q]; exact K 3 (Or.inl rfl)
  · rw [if_neg q]; exact K 2 (Or.inr rfl)
theorem sIn_rem {n : Nat} {J : Nat → Int} {cap t : Int} (hV : VJ n J) : ∀ (f : Nat) (x : SG), remS n J (sIn n J cap t f x) ≤ remS n J x
  | 0, _ => Int.le_refl _
  | f + 1, x => by
    unfold sIn
    by_cases q : x.2.2.1 < n ∧ J (4 * x.2.2.1) ≤ t
    · rw [if_pos q]; exact Int.le_trans (sIn_rem hV f _) (sIn1_rem hV q.1)
    · rw [if_neg q]; exact Int.le_refl _
theorem sSeat1_rem {n : Nat} {J : Nat → Int} {by_ t : Int} {x : SG} : remS n J (sSeat1 J by_ t x) = remS n J x := by
  refine sumN_congr n fun k hk => ?_
  obtain ⟨row, srv, nx, F⟩ := x
  have hF : ∀ (v c : Nat), c ≠ 2 → (if F 2 v = -1 then upd2 F 2 v t else F) c k = F c k := fun v c hc => by
    by_cases e : F 2 v = -1
    · rw [if_pos e, u2_off hc]
    · rw [if_neg e]
  exact rmF_congr (hF _ 0 (by decide)) (hF _ 1 (by decide))
theorem sSeat_rem {n : Nat} {J : Nat → Int} {many by_ t : Int} : ∀ (f : Nat) (x : SG), remS n J (sSeat J many by_ t f x) = remS n J x
  | 0, _ => rfl
  | f + 1, x => by
    unfold sSeat
    by_cases q : (x.2.1.length : Int) < many ∧ 0 < x.1.length
    · rw [if_pos q, sSeat_rem f, sSeat1_rem]
    · rw [if_neg q]
theorem sumN_dec {f g : Nat → Int} {m : Nat} (hm : f m = g m - 1) : ∀ n, m < n → (∀ k, k < n → k ≠ m → f k = g k) → sumN f n + 1 = sumN g n
  | 0, h, _ => absurd h (by omega)
  | n + 1, h, hle => by
    show sumN f n + f n + 1 = sumN g n + g n
    by_cases e : m = n
    · subst e
      have := sumN_congr m (fun k hk => hle k (by omega) (by omega))
      omega
    · have h1 := sumN_dec hm n (by omega) (fun k hk => hle k (by omega))
      have h2 := hle n (by omega) (by omega)
      omega
/-- a tick of work takes one from each -/
theorem sWk_rem {n : Nat} {J : Nat → Int} {by_ t : Int} : ∀ (L : List Nat) (x : SG), L.Nodup → x.2.2.1 ≤ n → (∀ j, j ∈ L → j < x.2.2.1 ∧ x.2.2.2 0 j = 3 ∧ 1 ≤ x.2.2.2 1 j) → remS n J (sWk by_ t L x) + L.length = remS n J x
  | [], x, _, _, _ => by simp [sWk]
  | j :: L, (row, srv, nx, F), hn, hx, h => by
    obtain ⟨a1, a2, a3⟩ := h j List.mem_cons_self
    obtain ⟨n1, n2⟩ := List.nodup_cons.mp hn
    dsimp only at a1 a2 a3 hx
    have hL : ∀ i, i ∈ L → i ≠ j := fun i hi e => n1 (by rw [← e]; exact hi)
    have e2 : ((j :: L).length : Int) = (L.length : Int) + 1 := by simp
    have step : ∀ (row' srv' : List Nat) (G : Mem), (rmF J nx G j = F 1 j - 1) → (∀ c k, k ≠ j → G c k = F c k) → remS n J (sWk by_ t L (row', srv', nx, G)) + ((j :: L).length : Int) = remS n J (row, srv, nx, F) := by
      intro row' srv' G hG hk
      have ih := sWk_rem (n := n) (J := J) (by_ := by_) (t := t) L (row', srv', nx, G) n2 hx (fun i hi => by
        obtain ⟨b1, b2, b3⟩ := h i (List.mem_cons_of_mem _ hi)
        refine ⟨b1, ?_, ?_⟩
        · show G 0 i = 3
          rw [hk 0 i (hL i hi)]; exact b2
        · show 1 ≤ G 1 i
          rw [hk 1 i (hL i hi)]; exact b3)
      have hd := sumN_dec (f := rmn J (row', srv', nx, G)) (g := rmn J (row, srv, nx, F)) (m := j) (by
        show rmF J nx G j = rmF J nx F j - 1
        rw [hG, rmF_on a1 a2]) n (by omega) (fun k _ e => rmF_congr (hk 0 k e) (hk 1 k e))
      have hd' : remS n J (row', srv', nx, G) + 1 = remS n J (row, srv, nx, F) := hd
      omega
    unfold sWk
    dsimp only
    by_cases q : F 1 j - 1 ≤ 0
    · rw [if_pos q]
      refine step _ _ _ ?_ fun c k e => ?_
      · rw [rmF_off a1 (by rw [u2_off (by decide), u2_same]; decide)]
        omega
      · rw [u2', if_neg fun z => e z.2, u2', if_neg fun z => e z.2, u2', if_neg fun z => e z.2]
    · rw [if_neg q]
      have hG : rmF J nx (upd2 F 1 j (F 1 j - 1)) j = F 1 j - 1 := by
        rw [rmF_on a1 (by rw [u2_off (by decide)]; exact a2), u2_same]
      by_cases q2 : 4 ≤ by_
      · rw [if_pos q2]
        exact step _ _ _ hG fun c k e => by rw [u2', if_neg fun z => e z.2]
      · rw [if_neg q2]
        exact step _ _ _ hG fun c k e => by rw [u2', if_neg fun z => e z.2]
theorem sWork_rem {n : Nat} {J : Nat → Int} {many by_ t : Int} {x : SG} (h : PVi n many t x) : remS n J (sWork by_ t x) + x.2.1.length = remS n J x := by
  obtain ⟨row, srv, nx, F⟩ := x
  obtain ⟨h1, h2, h3, h4, h5, h6, h7, h8, h9⟩ := h
  dsimp only at *
  exact sWk_rem srv (row, [], nx, F) (List.nodup_append.mp h2).2.1 h1 fun j hj => ⟨h3 j (List.mem_append_right _ hj), (h5 j (h3 j (List.mem_append_right _ hj))).1.mpr (List.mem_append_right _ hj), (h6 j (List.mem_append_right _ hj)).1⟩
/-- a free server takes one who waits -/
theorem sSeat_some {n : Nat} {J : Nat → Int} {many by_ t : Int} (hm : 1 ≤ many) : ∀ (f : Nat) (x : SG), 0 < f → PVi n many t x → 0 ≤ t → 0 < x.1.length + x.2.1.length → 0 < (sSeat J many by_ t f x).2.1.length
  | 0, _, h, _, _, _ => absurd h (Nat.lt_irrefl 0)
  | f + 1, x, _, hp, ht, h0 => by
    have K : ∀ (f : Nat) (x : SG), PVi n many t x → 0 < x.2.1.length → 0 < (sSeat J many by_ t f x).2.1.length := by
      intro f
      induction f with
      | zero => intro x _ h; exact h
      | succ f ih =>
        intro x hp h
        unfold sSeat
        by_cases q : (x.2.1.length : Int) < many ∧ 0 < x.1.length
        · rw [if_pos q]
          refine ih _ (sSeat1_pvi ht hp q.2 q.1) ?_
          unfold sSeat1
          dsimp only
          rw [List.length_insertIdx_of_le_length (ipl_le _)]
          omega
        · rw [if_neg q]; exact h
    unfold sSeat
    by_cases q : (x.2.1.length : Int) < many ∧ 0 < x.1.length
    · rw [if_pos q]
      refine K f _ (sSeat1_pvi ht hp q.2 q.1) ?_
      unfold sSeat1
      dsimp only
      rw [List.length_insertIdx_of_le_length (ipl_le _)]
      omega
    · rw [if_neg q]; omega
