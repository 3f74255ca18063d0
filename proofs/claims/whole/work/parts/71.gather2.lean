/-! COLOURS: the reference gathers sets of colours, the loop. -/
def kA (u v : Wd) (g : Nat → Nat) (e o : Nat) : Int64 := if sdI true u o = sdI true u e then (if sT true u v o = sT true u v e then bL (g o) else 0) else 0
def kB (u v : Wd) (g : Nat → Nat) (e o : Nat) : Int64 := if sdI true u o = sdI true u e then (if sT true u v o = sT true u v e then bH (g o) else 0) else 0
def kC (u v : Wd) (g : Nat → Nat) (e o : Nat) : Int64 := if sdI true u o = sdI true u e then (if fT true u v o = fT true u v e then bL (g o) else 0) else 0
def kD (u v : Wd) (g : Nat → Nat) (e o : Nat) : Int64 := if sdI true u o = sdI true u e then (if fT true u v o = fT true u v e then bH (g o) else 0) else 0
/-- what is gathered for e from the first n items -/
def Ga (u v : Wd) (g : Nat → Nat) (e n : Nat) (M : jM) : Prop := rL M 100 e = orG (kA u v g e) n ∧ rL M 101 e = orG (kB u v g e) n ∧ rL M 102 e = orG (kC u v g e) n ∧ rL M 103 e = orG (kD u v g e) n
theorem gath_30 {u v : Wd} (hu : wwf u) (hv : wwf v) {g : Nat → Nat} (hg7 : ∀ e, e < itN true u v → g e < 72) {e : Nat} (he : e < itN true u v) : ∀ (f t : Nat) (M : jM), Sh M → LT true u v (itN true u v) M → (∀ e, e < itN true u v → rI M 95 e = nI (g e)) → t ≤ itN true u v → itN true u v - t < f → Ga u v g e t M →
    ∃ N, l_X12_gather_30 f 65 (nI e) (nI t) M = some ((), N) ∧ El N0 M N ∧ Ga u v g e (itN true u v) N ∧ (∀ c k, k ≠ e → rL N c k = rL M c k) := by
  have hN := itN_le (b := true) hu hv
  intro f
  induction f with
  | zero => intro t M _ _ _ _ q; omega
  | succ f ih =>
    intro t M h l hg ht hf ga
    show ∃ N, b_X12_gather_30 (l_X12_gather_30 f) 65 (nI e) (nI t) M = some ((), N) ∧ _
    unfold b_X12_gather_30
    rw [gI_n (t65 h), Option.bind_some, l.1]
    by_cases htN : itN true u v ≤ t
    · obtain rfl : t = itN true u v := by omega
      rw [if_pos (nI_le htN (by omega))]
      exact ⟨M, rfl, El.rf, ga, fun _ _ _ => rfl⟩
    · have htl : t < itN true u v := by omega
      have d1 := sdI_le (b := true) (u := u) (e := t)
      have d2 := sdI_le (b := true) (u := u) (e := e)
      have g7 := hg7 t htl
      rw [if_neg (nI_ge htl (by omega)), q65_57 h, Option.bind_some, ldI_n (t97 h) (by omega) (by decide), Option.bind_some, (l.2 t htl).1, Option.bind_some, ldI_n (t97 h) (by omega) (by decide), Option.bind_some, (l.2 e he).1]
      obtain ⟨a1, a2, a3, a4⟩ := ga
      by_cases hs : sdI true u t = sdI true u e
      · rw [if_pos (by rw [hs]), q65_55 h, Option.bind_some, ldI_n (t95 h) (by omega) (by decide), Option.bind_some, hg t htl]
        have fin : ∃ N, j_X12_gather_103 (l_X12_gather_30 f) 65 (nI e) (nI t) (bL (g t)) (bH (g t)) M = some ((), N) ∧ El N0 M N ∧ Ga u v g e (itN true u v) N ∧ (∀ c k, k ≠ e → rL N c k = rL M c k) := by
          rw [ga_103 hu hv h l he htl]
          generalize hP : (wL (wL (wL (wL M 100 e (rL M 100 e ||| (if sT true u v t = sT true u v e then bL (g t) else 0))) 101 e (rL M 101 e ||| (if sT true u v t = sT true u v e then bH (g t) else 0))) 102 e (rL M 102 e ||| (if fT true u v t = fT true u v e then bL (g t) else 0))) 103 e (rL M 103 e ||| (if fT true u v t = fT true u v e then bH (g t) else 0))) = P
          have e1 : El N0 M P := by rw [← hP]; exact el_wL (el_wL (el_wL (el_wL El.rf)))
          have lP : LT true u v (itN true u v) P := by rw [← hP]; exact l
          have gP : Ga u v g e (t + 1) P := by
            refine ⟨?_, ?_, ?_, ?_⟩
            · rw [← hP, rL_wL, if_neg (by omega), rL_wL, if_neg (by omega), rL_wL, if_neg (by omega), rL_wL, if_pos ⟨rfl, rfl⟩, a1]
              show _ = orG (kA u v g e) t ||| kA u v g e t
              unfold kA; rw [if_pos hs]
            · rw [← hP, rL_wL, if_neg (by omega), rL_wL, if_neg (by omega), rL_wL, if_pos ⟨rfl, rfl⟩, a2]
              show _ = orG (kB u v g e) t ||| kB u v g e t
              unfold kB; rw [if_pos hs]
            · rw [← hP, rL_wL, if_neg (by omega), rL_wL, if_pos ⟨rfl, rfl⟩, a3]
              show _ = orG (kC u v g e) t ||| kC u v g e t
              unfold kC; rw [if_pos hs]
            · rw [← hP, rL_wL, if_pos ⟨rfl, rfl⟩, a4]
              show _ = orG (kD u v g e) t ||| kD u v g e t
              unfold kD; rw [if_pos hs]
          obtain ⟨N, p1, p2, p3, p4⟩ := ih (t + 1) P (Sh_el e1 h) lP (fun q hq => by rw [el_rI e1 id]; exact hg q hq) (by omega) (by omega) gP
          refine ⟨N, p1, e1.tr p2, p3, fun c k hk => ?_⟩
          rw [p4 c k hk, ← hP, rL_wL, if_neg (fun q => hk q.2), rL_wL, if_neg (fun q => hk q.2), rL_wL, if_neg (fun q => hk q.2), rL_wL, if_neg (fun q => hk q.2)]
        unfold j_X12_gather_76
        by_cases hc : 36 ≤ g t
        · have q1 : bL (g t) = 0 := by unfold bL; rw [if_pos hc]
          have q2 : bH (g t) = (1 : Int64) <<< (Int32.toInt64 (nI (g t) - nI 36) &&& 63) := by unfold bH; rw [if_pos hc]
          rw [q1, q2] at fin
          rw [if_pos (nI_le hc (by omega)), q65_55 h, Option.bind_some, ldI_n (t95 h) (by omega) (by decide), Option.bind_some, hg t htl, if_pos (nI_le hc (by omega)), Option.bind_some, ldI_n (t95 h) (by omega) (by decide), Option.bind_some, hg t htl]
          exact fin
        · have q1 : bL (g t) = (1 : Int64) <<< (Int32.toInt64 (nI (g t)) &&& 63) := by unfold bL; rw [if_neg hc]
          have q2 : bH (g t) = 0 := by unfold bH; rw [if_neg hc]
          rw [q1, q2] at fin
          rw [if_neg (nI_ge (by omega) (by decide)), q65_55 h, Option.bind_some, ldI_n (t95 h) (by omega) (by decide), Option.bind_some, hg t htl, Option.bind_some, Option.bind_some, ldI_n (t95 h) (by omega) (by decide), Option.bind_some, hg t htl, if_neg (nI_ge (by omega) (by decide))]
          exact fin
      · rw [if_neg (fun q => hs ((nI_eq (by omega) (by omega)).mp q))]
        unfold j_X12_gather_223
        rw [nI_add]
        refine ih (t + 1) M h l hg (by omega) (by omega) ⟨?_, ?_, ?_, ?_⟩
        · show _ = orG (kA u v g e) t ||| kA u v g e t
          unfold kA; rw [if_neg hs, Int64.or_zero]; exact a1
        · show _ = orG (kB u v g e) t ||| kB u v g e t
          unfold kB; rw [if_neg hs, Int64.or_zero]; exact a2
        · show _ = orG (kC u v g e) t ||| kC u v g e t
          unfold kC; rw [if_neg hs, Int64.or_zero]; exact a3
        · show _ = orG (kD u v g e) t ||| kD u v g e t
          unfold kD; rw [if_neg hs, Int64.or_zero]; exact a4
theorem m_gather {u v : Wd} (hu : wwf u) (hv : wwf v) {g : Nat → Nat} (hg7 : ∀ e, e < itN true u v → g e < 72) {e : Nat} (he : e < itN true u v) {M : jM} (h : Sh M) (l : LT true u v (itN true u v) M) (hg : ∀ e, e < itN true u v → rI M 95 e = nI (g e)) :
    ∃ N, f_X12_gather 65 (nI e) M = some ((), N) ∧ El N0 M N ∧ Ga u v g e (itN true u v) N ∧ (∀ c k, k ≠ e → rL N c k = rL M c k) := by
  have hN := itN_le (b := true) hu hv
  obtain ⟨n0, hn0⟩ := jF_is
  unfold f_X12_gather
  have e1 : El N0 M (wL M 100 e 0) := el_wL El.rf
  have e2 : El N0 M (wL (wL M 100 e 0) 101 e 0) := el_wL e1
  have e3 : El N0 M (wL (wL (wL M 100 e 0) 101 e 0) 102 e 0) := el_wL e2
  have e4 : El N0 M (wL (wL (wL (wL M 100 e 0) 101 e 0) 102 e 0) 103 e 0) := el_wL e3
  rw [q65_60 h, Option.bind_some, stJ_n (t100 h) (by omega) (by decide), Option.bind_some, q65_61 (Sh_el e1 h), Option.bind_some, stJ_n (t101 (Sh_el e1 h)) (by omega) (by decide), Option.bind_some, q65_62 (Sh_el e2 h), Option.bind_some, stJ_n (t102 (Sh_el e2 h)) (by omega) (by decide), Option.bind_some, q65_63 (Sh_el e3 h), Option.bind_some, stJ_n (t103 (Sh_el e3 h)) (by omega) (by decide), Option.bind_some]
  obtain ⟨N, p1, p2, p3, p4⟩ := gath_30 hu hv hg7 he jF0 0 _ (Sh_el e4 h) (show LT true u v (itN true u v) _ from l) (fun q hq => by rw [el_rI e4 id]; exact hg q hq) (Nat.zero_le _) (by omega) (show Ga u v g e 0 _ from ⟨by
    rw [rL_wL, if_neg (by omega), rL_wL, if_neg (by omega), rL_wL, if_neg (by omega), rL_wL, if_pos ⟨rfl, rfl⟩]; rfl, by
    rw [rL_wL, if_neg (by omega), rL_wL, if_neg (by omega), rL_wL, if_pos ⟨rfl, rfl⟩]; rfl, by
    rw [rL_wL, if_neg (by omega), rL_wL, if_pos ⟨rfl, rfl⟩]; rfl, by
    rw [rL_wL, if_pos ⟨rfl, rfl⟩]; rfl⟩)
  refine ⟨N, p1, e4.tr p2, p3, fun c k hk => ?_⟩
  rw [p4 c k hk, rL_wL, if_neg (fun q => hk q.2), rL_wL, if_neg (fun q => hk q.2), rL_wL, if_neg (fun q => hk q.2), rL_wL, if_neg (fun q => hk q.2)]
