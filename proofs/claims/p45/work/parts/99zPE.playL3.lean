/-! The law's plays, whole. -/
section PL3
variable {d kc : Nat} {Q : LQ} {M : Mem} {C0 : LMem} {r0 re rf rg rn rr rp rb n : Nat} {J fj : Nat → Int} {many by_ space wait : Int}
theorem pl_301 (hD : PD r0 re rf rg rn rr rp rb) (h24 : n ≤ 24) (hb : 0 ≤ by_ ∧ by_ ≤ 5) {t : Nat} (ht : t ≤ 1500) {G N : Nat → Int} {i15 st9 : Int} {z9 : SG}
    (hQ : ∀ (E F R P B : Nat → Int) (st : Int) (o17 o18 o19 o20 o21 o22 o23 o24 : Option PV), PRl n J [] z9 E F G R P B st → (0 ≤ st ∧ st ≤ st9) → L_W_plays_42 d Q M (PMm C0 re rf rg rn rr rp rb E F G N R P B) kc r0 (n : Int) many by_ space wait re rf rg rn rr rp rb st (cntE E n) i15 ((t : Int) + 1) o17 o18 o19 o20 o21 o22 o23 o24) :
    ∀ (m k : Nat) (L : List Nat) (y : SG) (E F R P B : Nat → Int) (st : Int) (o17 o18 o20 o21 o22 o23 o24 : Option PV), k + m = n → y.2.2.1 ≤ n → ((y.1 ++ y.2.1) ++ L).Nodup → (∀ i, i ∈ (y.1 ++ y.2.1) ++ L → i < y.2.2.1) → (∀ i, i ∈ L → y.2.2.2 0 i = 3 ∧ 1 ≤ y.2.2.2 1 i ∧ y.2.2.2 1 i ≤ 40) → L.Pairwise (· < ·) → (∀ i, i ∈ L → k ≤ i) → (∀ i, i ∈ y.2.1 → i < k) → PRl n J L y E F G R P B st → sWk by_ t L y = z9 → (0 ≤ st ∧ st + m ≤ st9) →
      L_W_plays_301 d Q M (PMm C0 re rf rg rn rr rp rb E F G N R P B) kc r0 (n : Int) many by_ space wait re rf rg rn rr rp rb st (cntE E n) i15 (t : Int) o17 o18 (k : Int) o20 o21 o22 o23 o24
  | 0, k, L, y, E, F, R, P, B, st, o17, o18, o20, o21, o22, o23, o24, hk, hn, hnd, hlt, h3, hL, hLk, hsv, hR, hz, hst => by
    have e : k = n := by omega
    subst e
    have hL0 : L = [] := by
      cases L with
      | nil => rfl
      | cons a L => exact absurd (hlt a (List.mem_append_right _ List.mem_cons_self)) (by have := hLk a List.mem_cons_self; omega)
    subst hL0
    have hz : y = z9 := hz
    subst hz
    exact b_W_plays_301 ⟨⟨by omega, by omega⟩, ⟨by omega, by omega⟩, fun _ => hQ E F R P B st _ _ _ _ _ _ _ _ hR ⟨hst.1, by omega⟩, fun z => absurd (Int.le_refl _) z⟩
  | m + 1, k, L, y, E, F, R, P, B, st, o17, o18, o20, o21, o22, o23, o24, hk, hn, hnd, hlt, h3, hL, hLk, hsv, hR, hz, hst => by
    have hB := hR.2.2.2.2.1 k (by omega)
    have hBr : 0 ≤ B k ∧ B k ≤ 1 := by rw [hB]; split <;> omega
    have hmid : ∀ X Y : Prop, (X ∧ Y) → X ∧ Y := fun _ _ h => h
    refine b_W_plays_301 ⟨⟨by omega, by omega⟩, ⟨by omega, by omega⟩, fun z => absurd z (by omega), fun _ => ?_⟩
    simp only [m_rb hD, m_rr hD, u_rr hD, m_re hD, u_re hD, m_rf hD, u_rf hD, u_rb hD, m_rp hD, u_rp hD, Int.toNat_natCast, sr_same]
    by_cases hkL : k ∈ L
    · obtain ⟨L', rfl⟩ : ∃ L', L = k :: L' := by
        cases L with
        | nil => exact absurd hkL List.not_mem_nil
        | cons a L' =>
          rcases List.mem_cons.mp hkL with e | e
          · exact ⟨L', by rw [e]⟩
          · have := (List.pairwise_cons.mp hL).1 k e
            have := hLk a List.mem_cons_self
            omega
      obtain ⟨g3, g1, g40⟩ := h3 k List.mem_cons_self
      obtain ⟨⟨hno, hkx, hB1, hRk, hEk⟩, w1, w2, w3⟩ := rel_work (t := (t : Int)) hn hnd hlt g3 hR hst.1
      have hL' := (List.pairwise_cons.mp hL)
      have hLk' : ∀ i, i ∈ L' → k + 1 ≤ i := fun i hi => by have := hL'.1 i hi; omega
      have hne : ∀ i, i ∈ L' → i ≠ k := fun i hi => by have := hL'.1 i hi; omega
      have hnd2 : ((y.1 ++ y.2.1) ++ L').Nodup := hnd.sublist (List.Sublist.append_left (List.sublist_cons_self _ _) _)
      have hlt2 : ∀ i, i ∈ (y.1 ++ y.2.1) ++ L' → i < y.2.2.1 := fun i hi => hlt i ((List.mem_append.mp hi).elim (fun q => List.mem_append_left _ q) (fun q => List.mem_append_right _ (List.mem_cons_of_mem _ q)))
      have hsv2 : ∀ i, i ∈ y.2.1 → i < k + 1 := fun i hi => by have := hsv i hi; omega
      rw [hRk]
      refine ⟨trivial, ⟨by omega, by omega⟩, ⟨by omega, by omega⟩, fun _ => ⟨trivial, ⟨by omega, by omega⟩, trivial, ⟨by omega, by omega⟩, ⟨by omega, by omega⟩, fun q => ⟨⟨by omega, by omega⟩, fun q4 => ?_, fun q4 => ⟨trivial, ⟨by omega, by omega⟩, trivial, ⟨by omega, by omega⟩, ?_⟩⟩, fun q => ⟨trivial, ⟨by omega, by omega⟩, trivial, ⟨by omega, by omega⟩, trivial, ⟨by omega, by omega⟩, ?_⟩⟩, fun q => absurd hB1 (by omega)⟩
      · have hq : ¬ y.2.2.2 1 k - 1 ≤ 0 := by omega
        have := pl_301 hD h24 hb ht hQ m (k + 1) L' (y.1, y.2.1 ++ [k], y.2.2.1, upd2 y.2.2.2 1 k (y.2.2.2 1 k - 1)) E F (sr R k (R k - 1)) P B st o17 (clr o18) o20 o21 o22 o23 o24 (by omega) hn (by rw [wk_eq2]; exact hnd) (fun i hi => hlt i (by rw [wk_eq2] at hi; exact hi)) (fun i hi => by
          have := h3 i (List.mem_cons_of_mem _ hi)
          show upd2 y.2.2.2 1 k (y.2.2.2 1 k - 1) 0 i = 3 ∧ 1 ≤ upd2 y.2.2.2 1 k (y.2.2.2 1 k - 1) 1 i ∧ upd2 y.2.2.2 1 k (y.2.2.2 1 k - 1) 1 i ≤ 40
          rw [u2_off (by decide), u2_ne (hne i hi)]
          exact this) hL'.2 hLk' (fun i hi => by
          rcases List.mem_append.mp hi with z | z
          · exact hsv2 i z
          · rw [List.mem_singleton.mp z]; omega) (w3 hq) (by
          rw [← hz]
          show _ = if y.2.2.2 1 k - 1 ≤ 0 then _ else if 4 ≤ by_ then _ else _
          rw [if_neg hq, if_neg (by omega)]) ⟨hst.1, by omega⟩
        rw [hRk] at this
        exact this
      · have hq : ¬ y.2.2.2 1 k - 1 ≤ 0 := by omega
        have := pl_301 hD h24 hb ht hQ m (k + 1) L' (y.1 ++ [k], y.2.1, y.2.2.1, upd2 y.2.2.2 1 k (y.2.2.2 1 k - 1)) E F (sr R k (R k - 1)) (sr P k st) (sr B k 0) (st + 1) o17 (clr o18) o20 o21 o22 o23 o24 (by omega) hn (wk_perm1.nodup_iff.mpr hnd) (fun i hi => hlt i (wk_perm1.mem_iff.mp hi)) (fun i hi => by
          have := h3 i (List.mem_cons_of_mem _ hi)
          show upd2 y.2.2.2 1 k (y.2.2.2 1 k - 1) 0 i = 3 ∧ 1 ≤ upd2 y.2.2.2 1 k (y.2.2.2 1 k - 1) 1 i ∧ upd2 y.2.2.2 1 k (y.2.2.2 1 k - 1) 1 i ≤ 40
          rw [u2_off (by decide), u2_ne (hne i hi)]
          exact this) hL'.2 hLk' hsv2 (w2 hq) (by
          rw [← hz]
          show _ = if y.2.2.2 1 k - 1 ≤ 0 then _ else if 4 ≤ by_ then _ else _
          rw [if_neg hq, if_pos (by omega)]) ⟨by omega, by omega⟩
        rw [hRk] at this
        exact this
      · have hq : y.2.2.2 1 k - 1 ≤ 0 := by omega
        have := pl_301 hD h24 hb ht hQ m (k + 1) L' (y.1, y.2.1, y.2.2.1, upd2 (upd2 (upd2 y.2.2.2 1 k (y.2.2.2 1 k - 1)) 0 k 0) 3 k ((t : Int) + 1)) (sr E k 0) (sr F k ((t : Int) + 1)) (sr R k (R k - 1)) P (sr B k 0) st o17 (clr o18) o20 o21 o22 o23 o24 (by omega) hn hnd2 hlt2 (fun i hi => by
          have := h3 i (List.mem_cons_of_mem _ hi)
          show upd2 (upd2 (upd2 y.2.2.2 1 k (y.2.2.2 1 k - 1)) 0 k 0) 3 k ((t : Int) + 1) 0 i = 3 ∧ 1 ≤ upd2 (upd2 (upd2 y.2.2.2 1 k (y.2.2.2 1 k - 1)) 0 k 0) 3 k ((t : Int) + 1) 1 i ∧ upd2 (upd2 (upd2 y.2.2.2 1 k (y.2.2.2 1 k - 1)) 0 k 0) 3 k ((t : Int) + 1) 1 i ≤ 40
          rw [u2_off (by decide), u2_ne (hne i hi), u2_off (by decide), u2_off (by decide), u2_off (by decide), u2_ne (hne i hi)]
          exact this) hL'.2 hLk' hsv2 (w1 hq) (by
          rw [← hz]
          show _ = if y.2.2.2 1 k - 1 ≤ 0 then _ else _
          rw [if_pos hq]) ⟨hst.1, by omega⟩
        rw [cntE_sr (by omega) (by omega) (by decide), hRk] at this
        exact this
    · have hks : k ∉ y.2.1 := fun q => absurd (hsv k q) (by omega)
      rw [if_neg (fun q => q.elim hks hkL)] at hB
      refine ⟨trivial, ⟨by omega, by omega⟩, ⟨by omega, by omega⟩, fun q => absurd hB q, fun _ => ?_⟩
      exact pl_301 hD h24 hb ht hQ m (k + 1) L y E F R P B st o17 (clr o18) o20 o21 o22 o23 o24 (by omega) hn hnd hlt h3 hL (fun i hi => by
        have := hLk i hi
        have : i ≠ k := fun e => hkL (by rw [← e]; exact hi)
        omega) (fun i hi => by have := hsv i hi; omega) hR hz ⟨hst.1, by omega⟩
theorem pl_354 (hD : PD r0 re rf rg rn rr rp rb) (h0 : C0 r0 = (1, 120, fj)) (h24 : n ≤ 24) (hj : ∀ i, i < 4 * n → fj i = J i) {E F G N R P B : Nat → Int}
    (hQ : Q (sumN (fun k => F k - J (4 * k)) n) M (PMm C0 re rf rg rn rr rp rb E F G N R P B)) :
    ∀ (m k : Nat) (o2 o3 o4 o5 o6 o8 o9 o10 o11 o12 o13 o14 o17 o18 o19 o20 o21 o22 o23 o24 : Option PV), k + m = n → L_W_plays_354 d Q M (PMm C0 re rf rg rn rr rp rb E F G N R P B) kc r0 (n : Int) o2 o3 o4 o5 o6 rf o8 o9 o10 o11 o12 o13 o14 (sumN (fun k => F k - J (4 * k)) k) (k : Int) o17 o18 o19 o20 o21 o22 o23 o24
  | 0, k, o2, o3, o4, o5, o6, o8, o9, o10, o11, o12, o13, o14, o17, o18, o19, o20, o21, o22, o23, o24, hk => by
    have e : k = n := by omega
    subst e
    exact b_W_plays_354 ⟨⟨by omega, by omega⟩, ⟨by omega, by omega⟩, fun _ => hQ, fun z => absurd (Int.le_refl _) z⟩
  | m + 1, k, o2, o3, o4, o5, o6, o8, o9, o10, o11, o12, o13, o14, o17, o18, o19, o20, o21, o22, o23, o24, hk => by
    refine b_W_plays_354 ⟨⟨by omega, by omega⟩, ⟨by omega, by omega⟩, fun z => absurd z (by omega), fun _ => ?_⟩
    simp only [m_r0 hD, m_re hD, m_rf hD, m_rg hD, m_rn hD, m_rr hD, m_rp hD, m_rb hD, u_re hD, u_rf hD, u_rg hD, u_rn hD, u_rr hD, u_rp hD, u_rb hD, h0, Int.toNat_natCast, sr_same]
    rw [show (4 * (k : Int)).toNat = 4 * k by omega, hj _ (by omega)]
    exact ⟨trivial, ⟨by omega, by omega⟩, trivial, ⟨by omega, by omega⟩, pl_354 hD h0 h24 hj hQ m (k + 1) _ _ _ _ _ _ _ _ _ _ _ _ _ _ _ _ _ _ _ _ (by omega)⟩
/-- what the law's play leaves in its rows -/
def PEnd (n : Nat) (J : Nat → Int) (many by_ space wait : Int) (T : Nat) (fn E F G N : Nat → Int) : Prop := (∀ k, k < n → E k = (sAt n J many by_ space wait T).2.2.2 0 k ∧ F k = (sAt n J many by_ space wait T).2.2.2 3 k ∧ G k = (sAt n J many by_ space wait T).2.2.2 2 k) ∧ (∀ s, s < T → N s = sNum (sMid n J many by_ space wait (s : Int) (sAt n J many by_ space wait s))) ∧ ∀ s, T ≤ s → N s = fn s
theorem sIn_post {cap t : Int} (hV : VJ n J) : ∀ (f : Nat) (y : SG), y.2.2.1 ≤ n → n ≤ y.2.2.1 + f → (∀ k, k < y.2.2.1 → J (4 * k) ≤ t) → (∀ k, k < (sIn n J cap t f y).2.2.1 → J (4 * k) ≤ t) ∧ ∀ k, k < n → (sIn n J cap t f y).2.2.1 ≤ k → t < J (4 * k)
  | 0, y, h1, h2, h3 => ⟨h3, fun k hk hk2 => absurd hk2 (by show ¬ y.2.2.1 ≤ k; omega)⟩
  | f + 1, y, h1, h2, h3 => by
    unfold sIn
    by_cases q : y.2.2.1 < n ∧ J (4 * y.2.2.1) ≤ t
    · rw [if_pos q]
      have hn1 : (sIn1 J cap t y).2.2.1 = y.2.2.1 + 1 := by unfold sIn1; split <;> rfl
      refine sIn_post hV f _ (by rw [hn1]; omega) (by rw [hn1]; omega) (fun k hk => ?_)
      rw [hn1] at hk
      by_cases e : k = y.2.2.1
      · rw [e]; exact q.2
      · exact h3 k (by omega)
    · rw [if_neg q]
      refine ⟨h3, fun k hk hk2 => ?_⟩
      have h4 : ¬ J (4 * y.2.2.1) ≤ t := fun w => q ⟨by omega, w⟩
      have := VJ.le hV hk2 hk
      omega
theorem sSeat_nx {t : Int} : ∀ (f : Nat) (y : SG), (sSeat J many by_ t f y).2.2.1 = y.2.2.1
  | 0, _ => rfl
  | f + 1, y => by
    unfold sSeat
    split
    · exact sSeat_nx f _
    · rfl
theorem pl_42 (hD : PD r0 re rf rg rn rr rp rb) (h0 : C0 r0 = (1, 120, fj)) (hV : VJ n J) (hj : ∀ i, i < 4 * n → fj i = J i) (hb : 0 ≤ by_ ∧ by_ ≤ 5) (hm : 1 ≤ many ∧ many ≤ 4) (hs : 0 ≤ space ∧ space ≤ 24) (hw : 1 ≤ wait ∧ wait ≤ 5000) {T : Nat} (hT : PT n J many by_ space wait T) {fn : Nat → Int}
    (hQ : ∀ E F G N R P B : Nat → Int, PEnd n J many by_ space wait T fn E F G N → Q (pSum n J many by_ space wait T) M (PMm C0 re rf rg rn rr rp rb E F G N R P B)) :
    ∀ (m t : Nat) (E F G N R P B : Nat → Int) (st : Int) (o17 o18 o19 o20 o21 o22 o23 o24 : Option PV), t + m = T → PRl n J [] (sAt n J many by_ space wait t) E F G R P B st → (0 ≤ st ∧ st ≤ 48 * t) → (∀ s, s < t → N s = sNum (sMid n J many by_ space wait (s : Int) (sAt n J many by_ space wait s))) → (∀ s, t ≤ s → N s = fn s) →
      L_W_plays_42 d Q M (PMm C0 re rf rg rn rr rp rb E F G N R P B) kc r0 (n : Int) many by_ space wait re rf rg rn rr rp rb st (cntE E n) 0 (t : Int) o17 o18 o19 o20 o21 o22 o23 o24 := by
  have hT9 := hT.le hV hm.1
  have h24 := hV.1
  intro m
  induction m with
  | zero =>
    intro t E F G N R P B st o17 o18 o19 o20 o21 o22 o23 o24 hk hR hst hN1 hN2
    have e : t = T := by omega
    subst e
    have hI := at_inv (by_ := by_) (space := space) (wait := wait) hV hm.1 t
    have hc := cntE_on hI.1 hR
    have hr := cntE_r E n
    obtain ⟨q1, q2, q3, q4⟩ := off_all (J := J) hI.1 hT.2
    have hend : PEnd n J many by_ space wait t fn E F G N := ⟨fun k hk => by
      obtain ⟨g1, g2, g3⟩ := q4 k hk
      refine ⟨?_, hR.2.2.1 k (by omega) g1, ?_⟩
      · rw [hR.1 k hk, if_pos ⟨by omega, g1⟩]
      · rw [hR.2.1 k hk, if_pos (by omega)], hN1, hN2⟩
    have hsum : sumN (fun k => F k - J (4 * k)) n = pSum n J many by_ space wait t := sumN_congr n fun k hk => by
      show F k - J (4 * k) = _
      rw [(hend.1 k hk).2.1]
    refine b_W_plays_42 ⟨⟨by omega, by omega⟩, fun _ => ?_, fun z => absurd (hc.mpr hT.2) z⟩
    exact pl_354 hD h0 h24 hj (by rw [hsum]; exact hQ E F G N R P B hend) n 0 _ _ _ _ _ _ _ _ _ _ _ _ _ _ _ _ _ _ _ _ (by omega)
  | succ m ih =>
    intro t E F G N R P B st o17 o18 o19 o20 o21 o22 o23 o24 hk hR hst hN1 hN2
    have hI := at_inv (by_ := by_) (space := space) (wait := wait) hV hm.1 t
    have hc := cntE_on hI.1 hR
    have hr := cntE_r E n
    have hon := hT.1 t (by omega)
    refine b_W_plays_42 ⟨⟨by omega, by omega⟩, fun z => absurd hon (hc.mp z), fun _ => ?_⟩
    have hx : sMid n J many by_ space wait (t : Int) (sAt n J many by_ space wait t) = sSeat J many by_ t 24 (sIn n J (many + space) t 24 (sGo J wait t (sAt n J many by_ space wait t))) := rfl
    have hstep : sAt n J many by_ space wait (t + 1) = sWork by_ (t : Int) (sMid n J many by_ space wait (t : Int) (sAt n J many by_ space wait t)) := rfl
    rw [hx] at hstep
    generalize hx9 : sAt n J many by_ space wait t = x at *
    have hp1 := sGo_pvi (J := J) (wait := wait) (by omega) hI.1
    have hnx1 : (sGo J wait t x).2.2.1 = x.2.2.1 := rfl
    have hp2 := sIn_pvi (cap := many + space) (by omega) hV 24 _ hp1
    have hpost := sIn_post (cap := many + space) (t := (t : Int)) hV 24 (sGo J wait t x) hp1.1 (by omega) (fun k hk => by have := hI.2.1 k hk; omega)
    have hp3 := sSeat_pvi (J := J) (by_ := by_) (by omega : (0 : Int) ≤ (t : Int)) 24 _ hp2
    have hnum : sNum (sSeat J many by_ t 24 (sIn n J (many + space) t 24 (sGo J wait t x))) = sNum (sIn n J (many + space) t 24 (sGo J wait t x)) := by
      have key : ∀ (f : Nat) (y : SG), PVi n many t y → sNum (sSeat J many by_ t f y) = sNum y := by
        intro f
        induction f with
        | zero => intro y _; rfl
        | succ f ihf =>
          intro y hy
          unfold sSeat
          split
          · rename_i hcd
            rw [ihf _ (sSeat1_pvi (by omega) hy hcd.2 hcd.1)]
            have hpl := plc_lt (J := J) (by_ := by_) (F := y.2.2.2) hcd.2
            have hil : ipl y.2.1 (y.1.getD (plc J by_ y.1 y.2.2.2) 0) y.2.1.length ≤ y.2.1.length := by
              have : ∀ p, ipl y.2.1 (y.1.getD (plc J by_ y.1 y.2.2.2) 0) p ≤ p := by
                intro p
                induction p with
                | zero => exact Nat.le_refl 0
                | succ p ihp =>
                  unfold ipl
                  split
                  · omega
                  · omega
              exact this _
            have hl1 : (sSeat1 J by_ t y).2.1.length = y.2.1.length + 1 := List.length_insertIdx_of_le_length hil _
            have hl2 : (sSeat1 J by_ t y).1.length = y.1.length - 1 := List.length_eraseIdx_of_lt hpl
            unfold sNum
            rw [hl1, hl2]
            have := hcd.2
            omega
          · rfl
      exact key 24 _ hp2
    refine pl_48 hD h0 hV hj hw (by omega) hI.1 hI.2.1 hI.2.2.1 hR ?_ n 0 E F _ _ _ _ _ _ (by omega) (fun i hi => (if_neg (fun z => absurd z.1 (Nat.not_lt_zero i))).symm) (fun i hi => (if_neg (fun z => absurd z.1 (Nat.not_lt_zero i))).symm)
    intro E1 F1 o19 o20 o21 o22 o23 o24 hR1
    refine pl_91 hD h0 hV hj hm hs (by omega) (z9 := sIn n J (many + space) t 24 (sGo J wait t x)) (st9 := 48 * t + 24) ?_ n 0 24 (sGo J wait t x) E1 F1 P st o19 o20 o21 o22 o23 o24 (by omega) hp1 hR1 rfl (by omega) (Or.inl (Nat.zero_le _)) (fun i _ hi => hI.2.1 i hi) (fun i hi hi2 => hI.2.2.1 i hi hi2) ⟨hst.1, by omega⟩
    intro E2 F2 P2 st2 o20 o21 o22 o23 o24 hp2' hR2 hst2
    refine pl_133 hD h24 hp2 hR2 ?_ n 0 _ o20 o21 o22 o23 o24 (by omega)
    intro o17 o19 o20 o21 o22 o23 o24
    refine pl_148 hD h0 hV hj hb hm (by omega) (by omega) (z9 := sSeat J many by_ t 24 (sIn n J (many + space) t 24 (sGo J wait t x))) ?_ 24 _ G B o17 o19 o20 o21 o22 o23 o24 hp2 hR2 hpost.1 hpost.2 (by have := hp2.2.2.2.2.2.2.2.1; have := hp2.1; omega) rfl
    intro G3 B3 o17 o18 o20 o21 o22 o23 o24 hp3' hR3
    refine pl_301 (J := J) hD h24 hb (by omega) (st9 := 48 * t + 48) (z9 := sAt n J many by_ space wait (t + 1)) ?_ n 0 (sSeat J many by_ t 24 (sIn n J (many + space) t 24 (sGo J wait t x))).2.1 ((sSeat J many by_ t 24 (sIn n J (many + space) t 24 (sGo J wait t x))).1, [], (sSeat J many by_ t 24 (sIn n J (many + space) t 24 (sGo J wait t x))).2.2.1, (sSeat J many by_ t 24 (sIn n J (many + space) t 24 (sGo J wait t x))).2.2.2) E2 F2 R P2 B3 st2 o17 o18 o20 o21 o22 o23 o24 (by omega) hp3.1 (by rw [List.append_nil]; exact hp3.2.1) (fun i hi => hp3.2.2.1 i (by rw [List.append_nil] at hi; exact hi)) (fun i hi => ⟨(hp3.2.2.2.2.1 i (hp3.2.2.1 i (List.mem_append_right _ hi))).1.mpr (List.mem_append_right _ hi), hp3.2.2.2.2.2.1 i (List.mem_append_right _ hi)⟩) hp3.2.2.2.1 (fun i _ => Nat.zero_le i) (fun i hi => absurd hi List.not_mem_nil) ?_ hstep.symm ⟨hst2.1, by omega⟩
    · intro E4 F4 R4 P4 B4 st4 o17 o18 o19 o20 o21 o22 o23 o24 hR4 hst4
      refine ih (t + 1) E4 F4 G3 _ R4 P4 B4 st4 o17 o18 o19 o20 o21 o22 o23 o24 (by omega) hR4 ⟨hst4.1, by omega⟩ (fun s hs9 => ?_) (fun s hs9 => ?_)
      · by_cases z : s = t
        · subst z
          rw [sr_same]
          rw [hx9, hx, hnum]
        · rw [sr_ne z]
          exact hN1 s (by omega)
      · rw [sr_ne (by omega)]
        exact hN2 s (by omega)
    · obtain ⟨a1, a2, a3, a4, a5, a6, a7⟩ := hR3
      refine ⟨a1, a2, a3, a4, fun k hk => ?_, a6, a7⟩
      rw [a5 k hk]
      by_cases z : k ∈ (sSeat J many by_ t 24 (sIn n J (many + space) t 24 (sGo J wait t x))).2.1
      · rw [if_pos (Or.inl z), if_pos (Or.inr z)]
      · rw [if_neg (fun w => w.elim z List.not_mem_nil), if_neg (fun w => w.elim List.not_mem_nil z)]
/-- **the law's play is the class's** -/
theorem s_plays {C : LMem} {fe ff fg fn : Nat → Int} {T : Nat} (h0 : C r0 = (1, 120, fj)) (he : C re = (1, 24, fe)) (hf : C rf = (1, 24, ff)) (hg : C rg = (1, 24, fg)) (hn : C rn = (1, 2000, fn)) (hne : (r0 ≠ re ∧ r0 ≠ rf ∧ r0 ≠ rg ∧ r0 ≠ rn) ∧ (re ≠ rf ∧ re ≠ rg ∧ re ≠ rn) ∧ (rf ≠ rg ∧ rf ≠ rn) ∧ rg ≠ rn) (hV : VJ n J) (hj : ∀ i, i < 4 * n → fj i = J i) (hb : 0 ≤ by_ ∧ by_ ≤ 5) (hm : 1 ≤ many ∧ many ≤ 4) (hs : 0 ≤ space ∧ space ≤ 24) (hw : 1 ≤ wait ∧ wait ≤ 5000) (hT : PT n J many by_ space wait T) :
    LPo (d + 1) cW_plays [.inr (.inr (.inl (r0 + 1))), .inl (n : Int), .inl many, .inl by_, .inl space, .inl wait, .inr (.inr (.inl (re + 1))), .inr (.inr (.inl (rf + 1))), .inr (.inr (.inl (rg + 1))), .inr (.inr (.inl (rn + 1)))] M C (fun v m c => m = M ∧ v = pSum n J many by_ space wait T ∧ LF [re, rf, rg, rn] C c ∧ ∃ E F G N : Nat → Int, c re = (1, 24, E) ∧ c rf = (1, 24, F) ∧ c rg = (1, 24, G) ∧ c rn = (1, 2000, N) ∧ PEnd n J many by_ space wait T fn E F G N) := fun Q hQ => by
  refine e_W_plays (b_W_plays_0 ⟨by omega, fun q1 hq1 => ⟨by omega, fun q2 hq2' => ⟨by omega, fun q3 hq3' => ?_⟩⟩⟩)
  have n21 : q2 ≠ q1 := fun z => by rw [z, cst_self] at hq2'; cases hq2'
  have hq2 : (C q2).1 = 0 := by rw [cst_ne n21] at hq2'; exact hq2'
  have n32 : q3 ≠ q2 := fun z => by rw [z, cst_self] at hq3'; cases hq3'
  have n31 : q3 ≠ q1 := fun z => by rw [z, cst_ne (Ne.symm n21), cst_self] at hq3'; cases hq3'
  have hq3 : (C q3).1 = 0 := by rw [cst_ne n32, cst_ne n31] at hq3'; exact hq3'
  have nn : ∀ {r q l k : Nat} {f : Nat → Int}, C r = (k + 1, l, f) → (C q).1 = 0 → r ≠ q := fun h1 h2 => Ne.symm (ne_new h1 h2)
  obtain ⟨⟨a1, a2, a3, a4⟩, ⟨b1, b2, b3⟩, ⟨c1, c2⟩, d1⟩ := hne
  have hD : PD r0 re rf rg rn q1 q2 q3 := ⟨⟨a1, a2, a3, a4, nn h0 hq1, nn h0 hq2, nn h0 hq3⟩, b1, b2, b3, nn he hq1, nn he hq2, nn he hq3, c1, c2, nn hf hq1, nn hf hq2, nn hf hq3, d1, nn hg hq1, nn hg hq2, nn hg hq3, nn hn hq1, nn hn hq2, nn hn hq3, Ne.symm n21, Ne.symm n31, Ne.symm n32⟩
  have hM : cst (cst (cst C q1 (1, 24, fun _ => 0)) q2 (1, 24, fun _ => 0)) q3 (3, 24, fun _ => 0) = PMm C re rf rg rn q1 q2 q3 fe ff fg fn (fun _ => 0) (fun _ => 0) (fun _ => 0) := by
    funext k
    by_cases e3 : k = q3
    · subst e3; rw [cst_self, m_rb hD]
    by_cases e2 : k = q2
    · subst e2; rw [cst_ne (Ne.symm n32), cst_self, m_rp hD]
    by_cases e1 : k = q1
    · subst e1; rw [cst_ne (Ne.symm n31), cst_ne (Ne.symm n21), cst_self, m_rr hD]
    rw [cst_ne e3, cst_ne e2, cst_ne e1]
    by_cases f1 : k = re
    · subst f1; rw [m_re hD]; exact he
    by_cases f2 : k = rf
    · subst f2; rw [m_rf hD]; exact hf
    by_cases f3 : k = rg
    · subst f3; rw [m_rg hD]; exact hg
    by_cases f4 : k = rn
    · subst f4; rw [m_rn hD]; exact hn
    exact (m_off ⟨f1, f2, f3, f4, e1, e2, e3⟩).symm
  rw [hM]
  have h24 := hV.1
  have hfin : ∀ E F G N R P B : Nat → Int, PEnd n J many by_ space wait T fn E F G N → Q (pSum n J many by_ space wait T) M (PMm C re rf rg rn q1 q2 q3 E F G N R P B) := fun E F G N R P B hend => hQ _ _ _ ⟨rfl, rfl, fun k hk => by
    have e1 : k ≠ q1 := fun z => hk (by rw [z]; exact hq1)
    have e2 : k ≠ q2 := fun z => hk (by rw [z]; exact hq2)
    have e3 : k ≠ q3 := fun z => hk (by rw [z]; exact hq3)
    by_cases f1 : k = re
    · subst f1; rw [m_re hD, he]; exact ⟨rfl, rfl, fun z => absurd List.mem_cons_self z⟩
    by_cases f2 : k = rf
    · subst f2; rw [m_rf hD, hf]; exact ⟨rfl, rfl, fun z => absurd (by simp) z⟩
    by_cases f3 : k = rg
    · subst f3; rw [m_rg hD, hg]; exact ⟨rfl, rfl, fun z => absurd (by simp) z⟩
    by_cases f4 : k = rn
    · subst f4; rw [m_rn hD, hn]; exact ⟨rfl, rfl, fun z => absurd (by simp) z⟩
    rw [m_off ⟨f1, f2, f3, f4, e1, e2, e3⟩]
    exact ⟨rfl, rfl, fun _ => rfl⟩, E, F, G, N, m_re hD, m_rf hD, m_rg hD, m_rn hD, hend⟩
  refine pl_17 hD h0 h24 hj (fun E G R h => ?_) n 0 fe fg (fun _ => 0) (by omega) (fun i hi => absurd hi (Nat.not_lt_zero i))
  have hc : cntE E n = (n : Int) := by
    have key : ∀ m, m ≤ n → cntE E m = (m : Int) := by
      intro m
      induction m with
      | zero => intro _; rfl
      | succ m ih =>
        intro hm9
        show cntE E m + (if E m < 0 then 1 else 0) = _
        rw [ih (by omega), (h m (by omega)).1]
        rw [if_pos (by decide)]
        omega
    exact key n (Nat.le_refl n)
  have := pl_42 (d := d) (kc := 0 + 1 + 1 + 1) (Q := Q) (M := M) (C0 := C) hD h0 hV hj hb hm hs hw hT (fn := fn) hfin T 0 E ff G fn R (fun _ => 0) (fun _ => 0) 0 none none none none none none none none (by omega) ⟨fun k hk => (h k hk).1.trans (if_neg (fun z => absurd z.1 (Nat.not_lt_zero k))).symm, fun k hk => (h k hk).2.1.trans (if_neg (Nat.not_lt_zero k)).symm, fun k hk => absurd hk (Nat.not_lt_zero k), fun k hk => ⟨fun hk1 => absurd hk1 (Nat.not_lt_zero k), fun _ => (h k hk).2.2⟩, fun k hk => (if_neg (fun z => z.elim List.not_mem_nil List.not_mem_nil)).symm, List.Pairwise.nil, fun i hi => absurd hi List.not_mem_nil⟩ ⟨by omega, by omega⟩ (fun s hs9 => absurd hs9 (Nat.not_lt_zero s)) (fun s _ => rfl)
  rw [hc] at this
  exact this
end PL3
