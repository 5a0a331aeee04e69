/-! Least rest first: tick by tick. -/
theorem Dm_congr {n : Nat} {r r' s s' : Nat → Int} (h : Dm n r r') (e : ∀ k, k < n → s k = r k) (e' : ∀ k, k < n → s' k = r' k) : Dm n s s' := fun S => by
  obtain ⟨S', p, q⟩ := h S
  refine ⟨S', p, ?_⟩
  have h1 : otS S' s n = otS S' r n := sumN_congr n fun k hk => by rw [e k hk]
  have h2 : otS S s' n = otS S r' n := sumN_congr n fun k hk => by rw [e' k hk]
  rw [h1, h2]
  exact q
def vecS (J : Nat → Int) (a m : Nat) (r : Nat → Int) (k : Nat) : Int := if k < a then r k else if k < m then J (4 * k + 1) else 0
theorem vec_s {J : Nat → Int} {a m : Nat} {r : Nat → Int} (h : a ≤ m) : vecS J a (m + 1) r = sr (vecS J a m r) m (J (4 * m + 1)) := by
  funext k
  by_cases e : k = m
  · subst e
    rw [sr_same]
    unfold vecS
    rw [if_neg (by omega), if_pos (by omega)]
  · rw [sr_ne e]
    unfold vecS
    by_cases q : k < a
    · rw [if_pos q, if_pos q]
    · rw [if_neg q, if_neg q]
      by_cases q2 : k < m
      · rw [if_pos q2, if_pos (by omega)]
      · rw [if_neg q2, if_neg (by omega)]
theorem Dm_vec {n : Nat} {J r r' : Nat → Int} {a : Nat} (hp : ∀ k, k < n → 0 ≤ J (4 * k + 1)) (h : Dm n (vecS J a a r) (vecS J a a r')) : ∀ d, a + d ≤ n → Dm n (vecS J a (a + d) r) (vecS J a (a + d) r')
  | 0, _ => h
  | d + 1, hd => by
    have ih := Dm_vec hp h d (by omega)
    rw [show a + (d + 1) = (a + d) + 1 by omega, vec_s (by omega), vec_s (by omega)]
    have z : ∀ r : Nat → Int, vecS J a (a + d) r (a + d) = 0 := fun r => by
      unfold vecS
      rw [if_neg (by omega), if_neg (by omega)]
    exact Dm_arr ih (by omega) (z r) (z r') (hp _ (by omega))
theorem wk_srv {t by_ : Int} (h : 4 ≤ by_) : ∀ (L : List Nat) (y : SG), (sWk by_ t L y).2.1 = y.2.1
  | [], _ => rfl
  | j :: L, y => by
    unfold sWk
    split
    · exact wk_srv h L _
    · exact wk_srv h L _
theorem at_srv {n : Nat} {J : Nat → Int} {many by_ space wait : Int} (h : 4 ≤ by_) : ∀ t : Nat, (sAt n J many by_ space wait t).2.1 = []
  | 0 => rfl
  | t + 1 => wk_srv h _ _
section SR2
variable {n : Nat} {J : Nat → Int} {t by_ : Int}
theorem sIn_srv {cap : Int} : ∀ (f : Nat) (y : SG), (sIn n J cap t f y).2.1 = y.2.1
  | 0, _ => rfl
  | f + 1, y => by
    unfold sIn
    split
    · rw [sIn_srv f]
      exact (sIn1_F (J := J) (cap := cap) (t := t) (x := y)).2.1
    · rfl
/-- the one who is served under least rest first has the least rest -/
theorem seat5 {y : SG} (hp : PVi n 1 t y) (h0 : y.2.1 = []) (hr : 0 < y.1.length) : ∃ a, (sSeat J 1 5 t 24 y).2.1 = [a] ∧ a ∈ y.1 ∧ ∀ c, 0 < rxS y c → rxS y a ≤ rxS y c := by
  refine ⟨y.1.getD (plc J 5 y.1 y.2.2.2) 0, ?_, ?_, ?_⟩
  · have hc : (y.2.1.length : Int) < 1 ∧ 0 < y.1.length := ⟨by rw [h0]; decide, hr⟩
    have e1 : sSeat J 1 5 t 24 y = sSeat J 1 5 t 23 (sSeat1 J 5 t y) := if_pos hc
    have e2 : (sSeat1 J 5 t y).2.1 = [y.1.getD (plc J 5 y.1 y.2.2.2) 0] := by
      show y.2.1.insertIdx (ipl y.2.1 _ y.2.1.length) _ = _
      rw [h0]
      rfl
    have e3 : sSeat J 1 5 t 23 (sSeat1 J 5 t y) = sSeat1 J 5 t y := if_neg (fun z => by
      have := z.1
      rw [e2] at this
      have this : ((1 : Nat) : Int) < 1 := this
      omega)
    rw [e1, e3, e2]
  · have hpl := plc_lt (J := J) (by_ := 5) (F := y.2.2.2) hr
    rw [getD_lt hpl]
    exact List.getElem_mem _
  · intro c hc
    have hcm := (rx_nn hp c).2.mp hc
    rw [h0, List.append_nil] at hcm
    obtain ⟨p, hp9, e⟩ := List.getElem_of_mem hcm
    have hpl := plc_lt (J := J) (by_ := 5) (F := y.2.2.2) hr
    have ea : plc J 5 y.1 y.2.2.2 = bpl (keyF J 5 y.2.2.2) y.1 (y.1.length - 1) 0 1 := by
      unfold plc
      rw [if_neg (by decide), if_neg (by decide)]
    have hm := bpl_min (kf := keyF J 5 y.2.2.2) (row := y.1) (y.1.length - 1) 0 1 (by omega) hr (fun i hi => by
      have : i = 0 := by omega
      subst this
      exact Or.inr ⟨rfl, Nat.le_refl _⟩) p hp9
    rw [← ea] at hm
    have hk : ∀ j, keyF J 5 y.2.2.2 j = y.2.2.2 1 j := fun j => by
      unfold keyF
      rw [if_neg (by decide), if_neg (by decide)]
    rw [hk, hk, getD_lt hp9, e] at hm
    have ha : y.1.getD (plc J 5 y.1 y.2.2.2) 0 ∈ y.1 ++ y.2.1 := by
      rw [getD_lt hpl]
      exact List.mem_append_left _ (List.getElem_mem _)
    have on : ∀ j, j ∈ y.1 ++ y.2.1 → rxS y j = y.2.2.2 1 j := fun j hj => rx_on (hp.2.2.1 j hj) ((hp.2.2.2.2.1 j (hp.2.2.1 j hj)).1.mpr hj)
    rw [on _ ha, on c (by rw [h0, List.append_nil]; exact hcm)]
    omega
theorem srv1 {z : SG} (hp : PVi n 1 t z) (h : 0 < z.2.1.length) : ∃ b, z.2.1 = [b] := by
  have h1 := hp.2.2.2.2.2.2.2.2
  rcases hz : z.2.1 with _ | ⟨b, _ | ⟨c, l⟩⟩
  · rw [hz] at h; exact absurd h (by decide)
  · exact ⟨b, rfl⟩
  · rw [hz] at h1
    have : (((b :: c :: l).length : Nat) : Int) = (l.length : Int) + 2 := by rw [List.length_cons, List.length_cons]; omega
    omega
theorem rx_work1 {z : SG} {b : Nat} (hp : PVi n 1 t z) (hb : z.2.1 = [b]) : rxS (sWork by_ t z) = sr (rxS z) b (rxS z b - 1) := by
  funext k
  rw [rx_work hp, hb]
  by_cases e : k = b
  · subst e
    rw [if_pos List.mem_cons_self, sr_same]
  · rw [if_neg (fun z => e (List.mem_singleton.mp z)), sr_ne e]
theorem rx_work0 {z : SG} (hp : PVi n 1 t z) (hb : z.2.1 = []) : rxS (sWork by_ t z) = rxS z := by
  funext k
  rw [rx_work hp, hb, if_neg List.not_mem_nil]
theorem perm_seat {f : Nat} {y : SG} (hp : PVi n 1 t y) (ht : 0 ≤ t) (k : Nat) : k ∈ (sSeat J 1 by_ t f y).1 ++ (sSeat J 1 by_ t f y).2.1 ↔ k ∈ y.1 ++ y.2.1 := by
  have h1 := (rx_nn (sSeat_pvi (J := J) (by_ := by_) ht f y hp) k).2
  have h2 := (rx_nn hp k).2
  rw [rx_seat] at h1
  exact h1.symm.trans h2
end SR2
section SR3
variable {n : Nat} {J : Nat → Int}
theorem work_nx {t by_ many : Int} {x : SG} (hp : PVi n many t x) : (sWork by_ t x).2.2.1 = x.2.2.1 :=
  (wk_F (by_ := by_) (t := t) x.2.1 (x.1, [], x.2.2.1, x.2.2.2) (List.nodup_append.mp hp.2.1).2.1 (fun i hi => (hp.2.2.2.2.1 i (hp.2.2.1 i (List.mem_append_right _ hi))).1.mpr (List.mem_append_right _ hi))).1
/-- the middle of a tick -/
theorem mid_rx (hV : VJ n J) {by_ : Int} {t : Nat} {x : SG} (hI : AtI n J 1 t x) : sMid n J 1 by_ 24 999 (t : Int) x = sSeat J 1 by_ t 24 (sIn n J (1 + 24) t 24 x) ∧ (∀ k, rxS (sMid n J 1 by_ 24 999 (t : Int) x) k = vecS J x.2.2.1 (sIn n J (1 + 24) t 24 x).2.2.1 (rxS x) k) ∧ PVi n 1 t (sIn n J (1 + 24) t 24 x) := by
  have e : sMid n J 1 by_ 24 999 (t : Int) x = sSeat J 1 by_ t 24 (sIn n J (1 + 24) t 24 x) := by
    show sSeat J 1 by_ t 24 (sIn n J (1 + 24) t 24 (sGo J 999 t x)) = _
    rw [go_none hV hI]
  refine ⟨e, fun k => ?_, sIn_pvi (by omega) hV _ _ hI.1⟩
  rw [e, rx_seat, in_all hV (by omega) 24 x hI.1 k]
  rfl
theorem nx_le {cap t : Int} : ∀ (g : Nat) (z : SG), z.2.2.1 ≤ (sIn n J cap t g z).2.2.1
  | 0, _ => Nat.le_refl _
  | g + 1, z => by
    unfold sIn
    split
    · have h1 : (sIn1 J cap t z).2.2.1 = z.2.2.1 + 1 := by unfold sIn1; split <;> rfl
      have := nx_le (cap := cap) (t := t) g (sIn1 J cap t z)
      omega
    · exact Nat.le_refl _
theorem srpt_at (hV : VJ n J) {r : Int} : ∀ t : Nat, (sAt n J 1 5 24 999 t).2.2.1 = (sAt n J 1 r 24 999 t).2.2.1 ∧ Dm n (rxS (sAt n J 1 5 24 999 t)) (rxS (sAt n J 1 r 24 999 t)) ∧ numR (rxS (sMid n J 1 5 24 999 (t : Int) (sAt n J 1 5 24 999 t))) n ≤ numR (rxS (sMid n J 1 r 24 999 (t : Int) (sAt n J 1 r 24 999 t))) n := by
  -- a tick
  have tick : ∀ t : Nat, (sAt n J 1 5 24 999 t).2.2.1 = (sAt n J 1 r 24 999 t).2.2.1 → Dm n (rxS (sAt n J 1 5 24 999 t)) (rxS (sAt n J 1 r 24 999 t)) →
      (sIn n J (1 + 24) t 24 (sAt n J 1 5 24 999 t)).2.2.1 = (sIn n J (1 + 24) t 24 (sAt n J 1 r 24 999 t)).2.2.1 ∧ Dm n (rxS (sMid n J 1 5 24 999 (t : Int) (sAt n J 1 5 24 999 t))) (rxS (sMid n J 1 r 24 999 (t : Int) (sAt n J 1 r 24 999 t))) := by
    intro t hn hD
    have h24 := hV.1
    have hIx := at_inv (by_ := 5) (space := 24) (wait := 999) hV (Int.le_refl 1) t
    have hIy := at_inv (by_ := r) (space := 24) (wait := 999) hV (Int.le_refl 1) t
    obtain ⟨ex, mx, px⟩ := mid_rx (by_ := 5) hV hIx
    obtain ⟨ey, my, py⟩ := mid_rx (by_ := r) hV hIy
    have qx := sIn_post (cap := 1 + 24) (t := (t : Int)) hV 24 _ hIx.1.1 (by omega) (fun k hk => by have := hIx.2.1 k hk; omega)
    have qy := sIn_post (cap := 1 + 24) (t := (t : Int)) hV 24 _ hIy.1.1 (by omega) (fun k hk => by have := hIy.2.1 k hk; omega)
    have hnn : (sIn n J (1 + 24) t 24 (sAt n J 1 5 24 999 t)).2.2.1 = (sIn n J (1 + 24) t 24 (sAt n J 1 r 24 999 t)).2.2.1 := by
      rcases Nat.lt_trichotomy (sIn n J (1 + 24) t 24 (sAt n J 1 5 24 999 t)).2.2.1 (sIn n J (1 + 24) t 24 (sAt n J 1 r 24 999 t)).2.2.1 with z | z | z
      · have h1 := qy.1 _ z
        have h2 := qx.2 _ (by have := py.1; omega) (Nat.le_refl _)
        omega
      · exact z
      · have h1 := qx.1 _ z
        have h2 := qy.2 _ (by have := px.1; omega) (Nat.le_refl _)
        omega
    refine ⟨hnn, ?_⟩
    have hge := nx_le (n := n) (J := J) (cap := 1 + 24) (t := (t : Int)) 24 (sAt n J 1 5 24 999 t)
    obtain ⟨d, hd⟩ := Nat.exists_eq_add_of_le hge
    have hle := px.1
    rw [hd] at hle
    have v0 : ∀ x : SG, ∀ k, rxS x k = vecS J x.2.2.1 x.2.2.1 (rxS x) k := fun x k => by
      unfold vecS
      by_cases q : k < x.2.2.1
      · rw [if_pos q]
      · rw [if_neg q, if_neg q]
        unfold rxS
        rw [if_neg (fun z => q z.1)]
    have hv := Dm_vec (J := J) (a := (sAt n J 1 5 24 999 t).2.2.1) (fun k hk => by have := hV.2.1 k hk; unfold jobOk at this; omega) (Dm_congr hD (fun k _ => (v0 _ k).symm) (fun k _ => by rw [hn]; exact (v0 _ k).symm)) d hle
    refine Dm_congr hv (fun k _ => ?_) (fun k _ => ?_)
    · rw [mx k, hd]
    · rw [my k, ← hnn, hd, hn]
  have main : ∀ t : Nat, (sAt n J 1 5 24 999 t).2.2.1 = (sAt n J 1 r 24 999 t).2.2.1 ∧ Dm n (rxS (sAt n J 1 5 24 999 t)) (rxS (sAt n J 1 r 24 999 t)) := by
    intro t
    induction t with
    | zero => exact ⟨rfl, Dm_idle (fun k _ => if_neg (fun z => absurd z.1 (Nat.not_lt_zero k))) (fun k _ => by rw [show rxS (sAt n J 1 r 24 999 0) k = 0 from if_neg (fun z => absurd z.1 (Nat.not_lt_zero k))]; exact Int.le_refl 0)⟩
    | succ t ih =>
      obtain ⟨hnn, hM⟩ := tick t ih.1 ih.2
      have hIx := at_inv (by_ := 5) (space := 24) (wait := 999) hV (Int.le_refl 1) t
      have hIy := at_inv (by_ := r) (space := 24) (wait := 999) hV (Int.le_refl 1) t
      have pmx := mid_pvi (by_ := 5) (space := 24) (wait := 999) (by omega) hV hIx.1
      have pmy := mid_pvi (by_ := r) (space := 24) (wait := 999) (by omega) hV hIy.1
      obtain ⟨ex, mx, px⟩ := mid_rx (by_ := 5) hV hIx
      obtain ⟨ey, my, py⟩ := mid_rx (by_ := r) hV hIy
      have wx := work_nx (by_ := 5) pmx
      have wy := work_nx (by_ := r) pmy
      have sx : (sMid n J 1 5 24 999 (t : Int) (sAt n J 1 5 24 999 t)).2.2.1 = (sIn n J (1 + 24) t 24 (sAt n J 1 5 24 999 t)).2.2.1 := by rw [ex]; exact (seat_F _ _).1
      have sy : (sMid n J 1 r 24 999 (t : Int) (sAt n J 1 r 24 999 t)).2.2.1 = (sIn n J (1 + 24) t 24 (sAt n J 1 r 24 999 t)).2.2.1 := by rw [ey]; exact (seat_F _ _).1
      refine ⟨by show (sWork 5 (t : Int) _).2.2.1 = (sWork r (t : Int) _).2.2.1; rw [wx, wy, sx, sy, hnn], ?_⟩
      show Dm n (rxS (sWork 5 (t : Int) (sMid n J 1 5 24 999 (t : Int) (sAt n J 1 5 24 999 t)))) (rxS (sWork r (t : Int) (sMid n J 1 r 24 999 (t : Int) (sAt n J 1 r 24 999 t))))
      have nnx := fun k (_ : k < n) => (rx_nn pmx k).1
      have nny := fun k (_ : k < n) => (rx_nn pmy k).1
      have hs0 : (sIn n J (1 + 24) t 24 (sAt n J 1 5 24 999 t)).2.1 = [] := by rw [sIn_srv]; exact at_srv (by decide) t
      by_cases hx : 0 < (sIn n J (1 + 24) t 24 (sAt n J 1 5 24 999 t)).1.length
      · obtain ⟨a, e1, a1, a2⟩ := seat5 (J := J) px hs0 hx
        rw [← ex] at e1
        have ea : ∀ k, rxS (sMid n J 1 5 24 999 (t : Int) (sAt n J 1 5 24 999 t)) k = rxS (sIn n J (1 + 24) t 24 (sAt n J 1 5 24 999 t)) k := fun k => by rw [ex]; exact rx_seat 24 _ k
        have ham : a ∈ (sMid n J 1 5 24 999 (t : Int) (sAt n J 1 5 24 999 t)).1 ++ (sMid n J 1 5 24 999 (t : Int) (sAt n J 1 5 24 999 t)).2.1 := List.mem_append_right _ (by rw [e1]; exact List.mem_cons_self)
        have ha0 := (rx_nn pmx a).2.mpr ham
        have han : a < n := by have := pmx.2.2.1 a ham; have := pmx.1; omega
        -- the other one isn't idle
        have hnum := Dm_num hM nnx nny
        have hpos : 0 < numR (rxS (sMid n J 1 5 24 999 (t : Int) (sAt n J 1 5 24 999 t))) n := by
          have h1 := rx_num pmx
          rw [← h1]
          unfold sNum
          rw [e1]
          show 0 < ((_ : Nat) : Int) + ((1 : Nat) : Int)
          omega
        have hty : 0 < (sIn n J (1 + 24) t 24 (sAt n J 1 r 24 999 t)).1.length + (sIn n J (1 + 24) t 24 (sAt n J 1 r 24 999 t)).2.1.length := by
          have h1 : sNum (sIn n J (1 + 24) t 24 (sAt n J 1 r 24 999 t)) = numR (rxS (sIn n J (1 + 24) t 24 (sAt n J 1 r 24 999 t))) n := rx_num py
          have h2 : rxS (sMid n J 1 r 24 999 (t : Int) (sAt n J 1 r 24 999 t)) = rxS (sIn n J (1 + 24) t 24 (sAt n J 1 r 24 999 t)) := by
            funext k
            rw [ey]
            exact rx_seat 24 _ k
          rw [h2, ← h1] at hnum
          unfold sNum at hnum
          omega
        have hsy := sSeat_some (J := J) (by_ := r) (Int.le_refl 1) 24 _ (by decide) py (by omega) hty
        rw [← ey] at hsy
        obtain ⟨b, hb⟩ := srv1 pmy hsy
        have hbm : b ∈ (sMid n J 1 r 24 999 (t : Int) (sAt n J 1 r 24 999 t)).1 ++ (sMid n J 1 r 24 999 (t : Int) (sAt n J 1 r 24 999 t)).2.1 := List.mem_append_right _ (by rw [hb]; exact List.mem_cons_self)
        rw [rx_work1 pmx e1, rx_work1 pmy hb]
        exact Dm_srv hM nnx nny han (by have := pmy.2.2.1 b hbm; have := pmy.1; omega) ha0 ((rx_nn pmy b).2.mpr hbm) (fun c _ hc => by
          rw [ea] at hc ⊢
          rw [ea]
          exact a2 c hc)
      · have z0 : ∀ k, rxS (sMid n J 1 5 24 999 (t : Int) (sAt n J 1 5 24 999 t)) k = 0 := fun k => by
          have h1 := rx_nn px k
          have h2 : rxS (sMid n J 1 5 24 999 (t : Int) (sAt n J 1 5 24 999 t)) k = rxS (sIn n J (1 + 24) t 24 (sAt n J 1 5 24 999 t)) k := by rw [ex]; exact rx_seat 24 _ k
          rw [h2]
          have : ¬ 0 < rxS (sIn n J (1 + 24) t 24 (sAt n J 1 5 24 999 t)) k := fun z => by
            have := h1.2.mp z
            rw [hs0, List.append_nil] at this
            exact hx (List.length_pos_of_mem this)
          omega
        have hwp := tick_at (by_ := r) (space := 24) (wait := 999) (by omega) hV (Int.le_refl 1) hIy
        refine Dm_idle (fun k _ => ?_) (fun k _ => (rx_nn hwp.1 k).1)
        have hsv : (sMid n J 1 5 24 999 (t : Int) (sAt n J 1 5 24 999 t)).2.1 = [] := by
          rcases hz : (sMid n J 1 5 24 999 (t : Int) (sAt n J 1 5 24 999 t)).2.1 with _ | ⟨b, l⟩
          · rfl
          · have := (rx_nn pmx b).2.mpr (List.mem_append_right _ (by rw [hz]; exact List.mem_cons_self))
            rw [z0 b] at this
            exact absurd this (by decide)
        rw [rx_work0 pmx hsv]
        exact z0 k
  intro t
  obtain ⟨a, b⟩ := main t
  obtain ⟨-, hM⟩ := tick t a b
  have hIx := at_inv (by_ := 5) (space := 24) (wait := 999) hV (Int.le_refl 1) t
  have hIy := at_inv (by_ := r) (space := 24) (wait := 999) hV (Int.le_refl 1) t
  exact ⟨a, b, Dm_num hM (fun k _ => (rx_nn (mid_pvi (by_ := 5) (space := 24) (wait := 999) (by omega) hV hIx.1) k).1) (fun k _ => (rx_nn (mid_pvi (by_ := r) (space := 24) (wait := 999) (by omega) hV hIy.1) k).1)⟩
theorem e2_all (hV : VJ n J) : e2P n J := fun r hr T U hT hU => by
  have hTU : T ≤ U := by
    rcases Nat.lt_or_ge U T with z | z
    · exfalso
      have hon := hT.1 U z
      obtain ⟨a, b, -⟩ := srpt_at hV (r := (r : Int)) U
      have hIx := at_inv (by_ := 5) (space := 24) (wait := 999) hV (Int.le_refl 1) U
      have hIy := at_inv (by_ := (r : Int)) (space := 24) (wait := 999) hV (Int.le_refl 1) U
      obtain ⟨q1, q2, q3, q4⟩ := off_all (J := J) hIy.1 hU.2
      have h1 := Dm_num b (fun k _ => (rx_nn hIx.1 k).1) (fun k _ => (rx_nn hIy.1 k).1)
      rw [← rx_num hIx.1, ← rx_num hIy.1] at h1
      unfold sNum at h1
      rw [q2, q3] at h1
      have h1 : ((sAt n J 1 5 24 999 U).1.length : Int) + (sAt n J 1 5 24 999 U).2.1.length ≤ 0 := h1
      rcases hon with w | w
      · omega
      · omega
    · exact z
  rw [← e1_all hV (Int.le_refl 1) T hT, ← e1_all hV (Int.le_refl 1) U hU]
  have h1 : sumN (nmF n J 1 5 24 999) T ≤ sumN (nmF n J 1 (r : Int) 24 999) T := sumN_le T fun t _ => by
    have hIx := at_inv (by_ := 5) (space := 24) (wait := 999) hV (Int.le_refl 1) t
    have hIy := at_inv (by_ := (r : Int)) (space := 24) (wait := 999) hV (Int.le_refl 1) t
    have h3 := (srpt_at hV (r := (r : Int)) t).2.2
    rw [← rx_num (mid_pvi (by_ := 5) (space := 24) (wait := 999) (by omega) hV hIx.1), ← rx_num (mid_pvi (by_ := (r : Int)) (space := 24) (wait := 999) (by omega) hV hIy.1)] at h3
    exact h3
  have h2 : ∀ d, sumN (nmF n J 1 (r : Int) 24 999) T ≤ sumN (nmF n J 1 (r : Int) 24 999) (T + d) := by
    intro d
    induction d with
    | zero => exact Int.le_refl _
    | succ d ih =>
      show _ ≤ sumN (nmF n J 1 (r : Int) 24 999) (T + d) + nmF n J 1 (r : Int) 24 999 (T + d)
      have : 0 ≤ nmF n J 1 (r : Int) 24 999 (T + d) := by unfold nmF sNum; omega
      omega
  have h3 := h2 (U - T)
  rw [show T + (U - T) = U by omega] at h3
  omega
end SR3
