/-! The play: what holds at each tick. -/
theorem sGo_F {J : Nat → Int} {wait t : Int} {x : SG} {j : Nat} : ((sGo J wait t x).2.2.2 0 j = 3 → x.2.2.2 0 j = 3) ∧ (sGo J wait t x).2.2.2 2 j = x.2.2.2 2 j := by
  obtain ⟨row, srv, nx, F⟩ := x
  show (goF J wait t row F 0 j = 3 → F 0 j = 3) ∧ goF J wait t row F 2 j = F 2 j
  by_cases q2 : j ∈ row ∧ gonD J wait t F j = true
  · have g0 : goF J wait t row F 0 j = 1 := by unfold goF; rw [if_pos q2]; rfl
    have g2 : goF J wait t row F 2 j = F 2 j := by unfold goF; rw [if_pos q2]; rfl
    rw [g0, g2]
    exact ⟨fun z => absurd z (by decide), rfl⟩
  · have g : ∀ c, goF J wait t row F c j = F c j := fun c => by unfold goF; rw [if_neg q2]
    rw [g, g]
    exact ⟨id, rfl⟩
theorem sIn1_F {J : Nat → Int} {cap t : Int} {x : SG} : (sIn1 J cap t x).2.2.1 = x.2.2.1 + 1 ∧ (sIn1 J cap t x).2.1 = x.2.1 ∧ ∀ c j, j ≠ x.2.2.1 → (sIn1 J cap t x).2.2.2 c j = x.2.2.2 c j := by
  obtain ⟨row, srv, nx, F⟩ := x
  have g : ∀ (v : Int) c j, j ≠ nx → upd2 (inF J t nx F) 0 nx v c j = F c j := fun v c j e => by
    unfold inF
    rw [u2', if_neg fun z => e z.2, u2', if_neg fun z => e z.2, u2', if_neg fun z => e z.2, u2', if_neg fun z => e z.2]
  unfold sIn1
  by_cases q : (row.length : Int) + srv.length < cap
  · rw [if_pos q]; exact ⟨rfl, rfl, fun c j e => g 3 c j e⟩
  · rw [if_neg q]; exact ⟨rfl, rfl, fun c j e => g 2 c j e⟩
theorem sIn_F {n : Nat} {J : Nat → Int} {cap t : Int} (hV : VJ n J) : ∀ (f : Nat) (x : SG), x.2.2.1 ≤ n → n ≤ x.2.2.1 + f → (∀ k, k < x.2.2.1 → J (4 * k) ≤ t) →
    x.2.2.1 ≤ (sIn n J cap t f x).2.2.1 ∧ (sIn n J cap t f x).2.1 = x.2.1 ∧ (∀ c j, j < x.2.2.1 → (sIn n J cap t f x).2.2.2 c j = x.2.2.2 c j) ∧ (∀ k, k < (sIn n J cap t f x).2.2.1 → J (4 * k) ≤ t) ∧ (∀ k, k < n → (sIn n J cap t f x).2.2.1 ≤ k → t < J (4 * k))
  | 0, x, hx, hf, h => ⟨Nat.le_refl _, rfl, fun _ _ _ => rfl, h, fun k h1 h2 => absurd (show x.2.2.1 ≤ k from h2) (by omega)⟩
  | f + 1, x, hx, hf, h => by
    unfold sIn
    by_cases q : x.2.2.1 < n ∧ J (4 * x.2.2.1) ≤ t
    · rw [if_pos q]
      obtain ⟨e1, e2, e3⟩ := sIn1_F (J := J) (cap := cap) (t := t) (x := x)
      obtain ⟨a1, a2, a3, a4, a5⟩ := sIn_F hV f (sIn1 J cap t x) (by omega) (by omega) (fun k hk => by
        by_cases z : k = x.2.2.1
        · subst z; exact q.2
        · exact h k (by omega))
      refine ⟨by omega, by rw [a2, e2], fun c j hj => ?_, a4, a5⟩
      rw [a3 c j (by omega), e3 c j (by omega)]
    · rw [if_neg q]
      refine ⟨Nat.le_refl _, rfl, fun _ _ _ => rfl, h, fun k h1 h2 => ?_⟩
      have h3 : ¬ J (4 * x.2.2.1) ≤ t := fun z => q ⟨by omega, z⟩
      have h4 := hV.mono (k - x.2.2.1) x.2.2.1 (by omega)
      rw [show x.2.2.1 + (k - x.2.2.1) = k by omega] at h4
      omega
theorem sSeat1_F {J : Nat → Int} {by_ t : Int} {x : SG} (ht : 0 ≤ t) {j : Nat} : (sSeat1 J by_ t x).2.2.1 = x.2.2.1 ∧ (sSeat1 J by_ t x).2.2.2 0 j = x.2.2.2 0 j ∧ ((sSeat1 J by_ t x).2.2.2 2 j = -1 → x.2.2.2 2 j = -1) := by
  obtain ⟨row, srv, nx, F⟩ := x
  have K : ∀ v, (if F 2 v = -1 then upd2 F 2 v t else F) 0 j = F 0 j ∧ ((if F 2 v = -1 then upd2 F 2 v t else F) 2 j = -1 → F 2 j = -1) := by
    intro v
    by_cases e : F 2 v = -1
    · rw [if_pos e, u2_off (by decide)]
      refine ⟨rfl, ?_⟩
      rw [u2']
      by_cases e2 : (2 : Nat) = 2 ∧ j = v
      · rw [if_pos e2]; intro z; omega
      · rw [if_neg e2]; exact id
    · rw [if_neg e]; exact ⟨rfl, id⟩
  exact ⟨rfl, K _⟩
theorem sSeat_F {J : Nat → Int} {many by_ t : Int} (ht : 0 ≤ t) {j : Nat} : ∀ (f : Nat) (x : SG), (sSeat J many by_ t f x).2.2.1 = x.2.2.1 ∧ (sSeat J many by_ t f x).2.2.2 0 j = x.2.2.2 0 j ∧ ((sSeat J many by_ t f x).2.2.2 2 j = -1 → x.2.2.2 2 j = -1)
  | 0, x => ⟨rfl, rfl, id⟩
  | f + 1, x => by
    unfold sSeat
    by_cases q : (x.2.1.length : Int) < many ∧ 0 < x.1.length
    · rw [if_pos q]
      obtain ⟨a1, a2, a3⟩ := sSeat_F ht (j := j) f (sSeat1 J by_ t x)
      obtain ⟨b1, b2, b3⟩ := sSeat1_F (J := J) (by_ := by_) (x := x) ht (j := j)
      exact ⟨a1.trans b1, a2.trans b2, fun z => b3 (a3 z)⟩
    · rw [if_neg q]; exact ⟨rfl, rfl, id⟩
theorem sWk_F {by_ t : Int} {j : Nat} : ∀ (L : List Nat) (x : SG), (sWk by_ t L x).2.2.1 = x.2.2.1 ∧ ((sWk by_ t L x).2.2.2 0 j = 3 → x.2.2.2 0 j = 3) ∧ (sWk by_ t L x).2.2.2 2 j = x.2.2.2 2 j
  | [], x => ⟨rfl, id, rfl⟩
  | i :: L, (row, srv, nx, F) => by
    unfold sWk
    dsimp only
    by_cases q : F 1 i - 1 ≤ 0
    · rw [if_pos q]
      obtain ⟨a1, a2, a3⟩ := sWk_F (by_ := by_) (t := t) (j := j) L (row, srv, nx, upd2 (upd2 (upd2 F 1 i (F 1 i - 1)) 0 i 0) 3 i (t + 1))
      refine ⟨a1, fun z => ?_, a3.trans ?_⟩
      · have h := a2 z
        dsimp only at h
        rw [u2_off (by decide), u2'] at h
        by_cases e : (0 : Nat) = 0 ∧ j = i
        · rw [if_pos e] at h; exact absurd h (by decide)
        · rw [if_neg e, u2_off (by decide)] at h; exact h
      · dsimp only
        rw [u2_off (by decide), u2_off (by decide), u2_off (by decide)]
    · rw [if_neg q]
      by_cases q2 : 4 ≤ by_
      · rw [if_pos q2]
        obtain ⟨a1, a2, a3⟩ := sWk_F (by_ := by_) (t := t) (j := j) L (row ++ [i], srv, nx, upd2 F 1 i (F 1 i - 1))
        refine ⟨a1, fun z => ?_, a3.trans (by dsimp only; rw [u2_off (by decide)])⟩
        have h := a2 z
        dsimp only at h
        rw [u2_off (by decide)] at h
        exact h
      · rw [if_neg q2]
        obtain ⟨a1, a2, a3⟩ := sWk_F (by_ := by_) (t := t) (j := j) L (row, srv ++ [i], nx, upd2 F 1 i (F 1 i - 1))
        refine ⟨a1, fun z => ?_, a3.trans (by dsimp only; rw [u2_off (by decide)])⟩
        have h := a2 z
        dsimp only at h
        rw [u2_off (by decide)] at h
        exact h
/-- what holds as a tick begins -/
def AtI (n : Nat) (J : Nat → Int) (many t : Int) (x : SG) : Prop := PVi n many t x ∧ (∀ k, k < x.2.2.1 → J (4 * k) < t) ∧ (∀ k, k < n → x.2.2.1 ≤ k → t ≤ J (4 * k)) ∧ ∀ j, j < x.2.2.1 → x.2.2.2 0 j = 3 → x.2.2.2 2 j = -1 → t - J (4 * j) + remS n J x ≤ 960
theorem mid_pvi {n : Nat} {J : Nat → Int} {many by_ space wait t : Int} {x : SG} (ht : 0 ≤ t) (hV : VJ n J) (h : PVi n many t x) : PVi n many t (sMid n J many by_ space wait t x) := sSeat_pvi ht _ _ (sIn_pvi ht hV _ _ (sGo_pvi ht h))
theorem mem_len {l : List Nat} {j : Nat} (h : j ∈ l) : 0 < l.length := List.length_pos_of_mem h
theorem tick_rem {n : Nat} {J : Nat → Int} {many by_ space wait t : Int} {x : SG} (ht : 0 ≤ t) (hV : VJ n J) (hm : 1 ≤ many) (h : PVi n many t x) :
    remS n J (sWork by_ t (sMid n J many by_ space wait t x)) ≤ remS n J x ∧ (0 < (sIn n J (many + space) t 24 (sGo J wait t x)).1.length + (sIn n J (many + space) t 24 (sGo J wait t x)).2.1.length → remS n J (sWork by_ t (sMid n J many by_ space wait t x)) + 1 ≤ remS n J x) := by
  have h1 := sGo_pvi (J := J) (wait := wait) ht h
  have h2 := sIn_pvi (cap := many + space) ht hV 24 _ h1
  have h3 := sSeat_pvi (J := J) (by_ := by_) ht 24 _ h2
  have e1 := sGo_rem (wait := wait) hV h
  have e2 := sIn_rem (cap := many + space) (t := t) hV 24 (sGo J wait t x)
  have e3 := sSeat_rem (n := n) (J := J) (many := many) (by_ := by_) (t := t) 24 (sIn n J (many + space) t 24 (sGo J wait t x))
  have e4 := sWork_rem (J := J) (by_ := by_) h3
  unfold sMid
  refine ⟨by omega, fun z => ?_⟩
  have := sSeat_some (J := J) (by_ := by_) hm 24 _ (by decide) h2 ht z
  omega
theorem tick_at {n : Nat} {J : Nat → Int} {many by_ space wait t : Int} {x : SG} (ht : 0 ≤ t) (hV : VJ n J) (hm : 1 ≤ many) (h : AtI n J many t x) : AtI n J many (t + 1) (sWork by_ t (sMid n J many by_ space wait t x)) := by
  obtain ⟨hp, h1, h2, h3⟩ := h
  have hn := hV.1
  have p1 := sGo_pvi (J := J) (wait := wait) ht hp
  have p2 := sIn_pvi (cap := many + space) ht hV 24 _ p1
  have p3 := sSeat_pvi (J := J) (by_ := by_) ht 24 _ p2
  obtain ⟨a1, a2, a3, a4, a5⟩ := sIn_F (cap := many + space) (t := t) hV 24 (sGo J wait t x) p1.1 (by omega) (fun k hk => Int.le_of_lt (h1 k hk))
  obtain ⟨r1, r2⟩ := tick_rem (by_ := by_) (space := space) (wait := wait) ht hV hm hp
  have rx := remS_r hV hp
  have eN : (sWork by_ t (sMid n J many by_ space wait t x)).2.2.1 = (sIn n J (many + space) t 24 (sGo J wait t x)).2.2.1 := by
    unfold sWork
    rw [(sWk_F (j := 0) _ _).1]
    unfold sMid
    exact (sSeat_F ht (j := 0) 24 _).1
  refine ⟨sWork_pvi ht p3, fun k hk => ?_, fun k hk hk2 => ?_, fun j hj g0 g2 => ?_⟩
  · rw [eN] at hk
    have := a4 k hk
    omega
  · rw [eN] at hk2
    have := a5 k hk hk2
    omega
  · rw [eN] at hj
    unfold sWork at g0 g2
    have s1 := (sWk_F (by_ := by_) (t := t) (j := j) _ _).2.1 g0
    rw [(sWk_F (by_ := by_) (t := t) (j := j) _ _).2.2] at g2
    dsimp only at s1 g2
    unfold sMid at s1 g2
    have s2 := sSeat_F (J := J) (many := many) (by_ := by_) ht (j := j) 24 (sIn n J (many + space) t 24 (sGo J wait t x))
    rw [s2.2.1] at s1
    have g2' := s2.2.2 g2
    have hlen : 0 < (sIn n J (many + space) t 24 (sGo J wait t x)).1.length + (sIn n J (many + space) t 24 (sGo J wait t x)).2.1.length := by
      have := mem_len ((p2.2.2.2.2.1 j hj).1.mp s1)
      rw [List.length_append] at this
      exact this
    have r3 := r2 hlen
    by_cases e : j < x.2.2.1
    · rw [a3 0 j e] at s1
      rw [a3 2 j e] at g2'
      have s4 := sGo_F.1 s1
      rw [sGo_F.2] at g2'
      have := h3 j e s4 g2'
      omega
    · have q := h2 j (by have := p2.1; omega) (by omega)
      omega
theorem at_inv {n : Nat} {J : Nat → Int} {many by_ space wait : Int} (hV : VJ n J) (hm : 1 ≤ many) : ∀ t : Nat, AtI n J many (t : Int) (sAt n J many by_ space wait t)
  | 0 => by
    refine ⟨⟨Nat.zero_le n, List.nodup_nil, fun j hj => absurd hj (by simp [sAt]), List.Pairwise.nil, fun k hk => absurd hk (Nat.not_lt_zero k), fun j hj => absurd hj (by simp [sAt]), fun j hj => absurd hj (by simp [sAt]), Nat.le_refl 0, ?_⟩, fun k hk => absurd hk (Nat.not_lt_zero k), fun k hk _ => (hV.2.1 k hk).1.1, fun j hj => absurd hj (Nat.not_lt_zero j)⟩
    show ((([] : List Nat).length : Nat) : Int) ≤ many
    simp
    omega
  | t + 1 => by
    have := tick_at (by_ := by_) (space := space) (wait := wait) (by omega) hV hm (at_inv (by_ := by_) (space := space) (wait := wait) hV hm t)
    exact this
/-- somebody there, all have come: something is done -/
theorem on_dec {n : Nat} {J : Nat → Int} {many by_ space wait : Int} (hV : VJ n J) (hm : 1 ≤ many) {t : Nat} (ht : 501 ≤ t) (hon : sOn n (sAt n J many by_ space wait t)) : remS n J (sAt n J many by_ space wait (t + 1)) + 1 ≤ remS n J (sAt n J many by_ space wait t) := by
  obtain ⟨hp, h1, h2, h3⟩ := at_inv (by_ := by_) (space := space) (wait := wait) hV hm t
  show remS n J (sWork by_ (t : Int) (sMid n J many by_ space wait (t : Int) (sAt n J many by_ space wait t))) + 1 ≤ _
  generalize sAt n J many by_ space wait t = x at *
  have ht0 : (0 : Int) ≤ (t : Int) := by omega
  obtain ⟨r1, r2⟩ := tick_rem (by_ := by_) (space := space) (wait := wait) ht0 hV hm hp
  have hnx : x.2.2.1 = n := by
    rcases Nat.lt_or_ge x.2.2.1 n with q | q
    · have := h2 x.2.2.1 q (Nat.le_refl _)
      have := (hV.2.1 x.2.2.1 q).1.2
      omega
    · have := hp.1; omega
  have hlen : 0 < x.1.length + x.2.1.length := by
    rcases hon with q | q
    · omega
    · exact q
  by_cases hz : 0 < (sIn n J (many + space) (t : Int) 24 (sGo J wait (t : Int) x)).1.length + (sIn n J (many + space) (t : Int) 24 (sGo J wait (t : Int) x)).2.1.length
  · exact r2 hz
  · have e0 : sIn n J (many + space) (t : Int) 24 (sGo J wait (t : Int) x) = sGo J wait (t : Int) x := by
      unfold sIn
      rw [if_neg fun z => by have : x.2.2.1 < n := z.1
                             omega]
    rw [e0] at hz
    have p1 := sGo_pvi (J := J) (wait := wait) ht0 hp
    have e2 := sIn_rem (cap := many + space) (t := (t : Int)) hV 24 (sGo J wait (t : Int) x)
    have e3 := sSeat_rem (n := n) (J := J) (many := many) (by_ := by_) (t := (t : Int)) 24 (sIn n J (many + space) (t : Int) 24 (sGo J wait (t : Int) x))
    have e4 := sWork_rem (J := J) (by_ := by_) (sSeat_pvi (J := J) (by_ := by_) ht0 24 _ (sIn_pvi (cap := many + space) ht0 hV 24 _ p1))
    have hsrv : (sGo J wait (t : Int) x).2.1 = x.2.1 := rfl
    have hs0 : x.2.1.length = 0 := by
      rw [hsrv] at hz
      omega
    have hr0 : (sGo J wait (t : Int) x).1.length = 0 := by omega
    obtain ⟨j, hj⟩ : ∃ j, j ∈ x.1 := by
      cases hx : x.1 with
      | nil => rw [hx] at hlen; simp at hlen; omega
      | cons a l => exact ⟨a, List.mem_cons_self⟩
    have hg : gonD J wait (t : Int) x.2.2.2 j = true := by
      have hnil : (sGo J wait (t : Int) x).1 = [] := List.length_eq_zero_iff.mp hr0
      have : ¬ j ∈ x.1.filter (fun j => !gonD J wait (t : Int) x.2.2.2 j) := fun z => by
        have hz2 : x.1.filter (fun j => !gonD J wait (t : Int) x.2.2.2 j) = [] := hnil
        rw [hz2] at z
        simp at z
      rw [List.mem_filter] at this
      cases hgg : gonD J wait (t : Int) x.2.2.2 j with
      | true => rfl
      | false => exact absurd ⟨hj, by rw [hgg]; rfl⟩ this
    have hjx : j < x.2.2.1 := hp.2.2.1 j (List.mem_append_left _ hj)
    have hlt : remS n J (sGo J wait (t : Int) x) + 1 ≤ remS n J x := by
      refine sumN_lt (m := j) ?_ n (by omega) fun k hk => ?_
      · have g0 : goF J wait (t : Int) x.1 x.2.2.2 0 j = 1 := by unfold goF; rw [if_pos ⟨hj, hg⟩]; rfl
        show rmF J x.2.2.1 (goF J wait (t : Int) x.1 x.2.2.2) j < rmF J x.2.2.1 x.2.2.2 j
        rw [rmF_off hjx (by rw [g0]; decide), rmF_on hjx ((hp.2.2.2.2.1 j hjx).1.mpr (List.mem_append_left _ hj))]
        have := (hp.2.2.2.2.2.1 j (List.mem_append_left _ hj)).1
        omega
      · have hr := rmn_r hV hp k hk
        show rmF J x.2.2.1 (goF J wait (t : Int) x.1 x.2.2.2) k ≤ rmF J x.2.2.1 x.2.2.2 k
        by_cases q2 : k ∈ x.1 ∧ gonD J wait (t : Int) x.2.2.2 k = true
        · have g0 : goF J wait (t : Int) x.1 x.2.2.2 0 k = 1 := by unfold goF; rw [if_pos q2]; rfl
          rw [rmF_off (hp.2.2.1 k (List.mem_append_left _ q2.1)) (by rw [g0]; decide)]
          exact hr.1
        · have g : ∀ c, goF J wait (t : Int) x.1 x.2.2.2 c k = x.2.2.2 c k := fun c => by unfold goF; rw [if_neg q2]
          rw [rmF_congr (g 0) (g 1)]
          exact Int.le_refl _
    unfold sMid
    omega
theorem on_bound {n : Nat} {J : Nat → Int} {many by_ space wait : Int} (hV : VJ n J) (hm : 1 ≤ many) {t : Nat} (h : ∀ s, s ≤ t → sOn n (sAt n J many by_ space wait s)) : t ≤ 1460 := by
  have key : ∀ d : Nat, 501 + d ≤ t + 1 → remS n J (sAt n J many by_ space wait (501 + d)) + d ≤ 960 := by
    intro d
    induction d with
    | zero =>
      intro _
      have := remS_r hV (at_inv (by_ := by_) (space := space) (wait := wait) hV hm 501).1
      simp only [Nat.add_zero]
      omega
    | succ d ih =>
      intro hd
      have h1 := ih (by omega)
      have h2 := on_dec hV hm (t := 501 + d) (by omega) (h (501 + d) (by omega))
      rw [show 501 + (d + 1) = 501 + d + 1 by omega]
      omega
  rcases Nat.lt_or_ge t 501 with q | q
  · omega
  · have h1 := key (t + 1 - 501) (by omega)
    have h2 := remS_r hV (at_inv (by_ := by_) (space := space) (wait := wait) hV hm (501 + (t + 1 - 501))).1
    omega
/-- where all have room, no one waits for 961 ticks -/
theorem sAt_wait {n : Nat} {J : Nat → Int} {many by_ space w w' : Int} (hV : VJ n J) (hm : 1 ≤ many) (h1 : 961 ≤ w) (h2 : 961 ≤ w') : ∀ t : Nat, sAt n J many by_ space w t = sAt n J many by_ space w' t
  | 0 => rfl
  | t + 1 => by
    have ih := sAt_wait (by_ := by_) (space := space) hV hm h1 h2 t
    obtain ⟨hp, _, _, h3⟩ := at_inv (by_ := by_) (space := space) (wait := w') hV hm t
    show sWork by_ (t : Int) (sMid n J many by_ space w (t : Int) (sAt n J many by_ space w t)) = sWork by_ (t : Int) (sMid n J many by_ space w' (t : Int) (sAt n J many by_ space w' t))
    rw [ih]
    have rr := remS_r hV hp
    generalize sAt n J many by_ space w' t = x at *
    have K : ∀ w, 961 ≤ w → sGo J w (t : Int) x = x := by
      intro w hw
      obtain ⟨row, srv, nx, F⟩ := x
      have hg : ∀ j, j ∈ row → gonD J w (t : Int) F j = false := by
        intro j hj
        have hjx : j < nx := hp.2.2.1 j (List.mem_append_left _ hj)
        have h0 : F 0 j = 3 := (hp.2.2.2.2.1 j hjx).1.mpr (List.mem_append_left _ hj)
        unfold gonD
        rw [decide_eq_false_iff_not]
        intro z
        have := h3 j hjx h0 z.1
        omega
      have e1 : row.filter (fun j => !gonD J w (t : Int) F j) = row := by
        rw [List.filter_eq_self]
        intro j hj
        rw [hg j hj]; rfl
      have e2 : goF J w (t : Int) row F = F := funext fun c => funext fun k => by
        unfold goF
        rw [if_neg fun z => by
          have := hg k z.1
          rw [this] at z
          exact absurd z.2 (by decide)]
      show (row.filter (fun j => !gonD J w (t : Int) F j), srv, nx, goF J w (t : Int) row F) = (row, srv, nx, F)
      rw [e1, e2]
    unfold sMid
    rw [K w h1, K w' h2]
