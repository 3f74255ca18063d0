/-! COLOURS: the reference gathers sets of colours. -/
def bL (c : Nat) : Int64 := if 36 ≤ c then 0 else (1 : Int64) <<< (Int32.toInt64 (nI c) &&& 63)
def bH (c : Nat) : Int64 := if 36 ≤ c then (1 : Int64) <<< (Int32.toInt64 (nI c - nI 36) &&& 63) else 0
theorem st6 {b : Bool} {u v : Wd} (hu : wwf u) (hv : wwf v) {e : Nat} (he : e < itN b u v) : sT b u v e < 6 := by
  have := (fs_lt he).2
  have := (wdI_wf (b := b) hu hv e).1
  omega
section M3
variable {M : jM} {u v : Wd} {k : Nat → Int32 → Int32 → jM → jO Unit} {e t : Nat}
theorem ga_221 (h : Sh M) (he : e < 72) {x z : Int64} : j_X12_gather_221 k 65 (nI e) (nI t) 103 (nI e) x z M = k 65 (nI e) (nI (t + 1)) (wL M 103 e (x ||| z)) := by
  unfold j_X12_gather_221 j_X12_gather_223
  rw [stJ_n (t103 h) he (by decide), Option.bind_some, nI_add]
theorem ga_191 (hu : wwf u) (hv : wwf v) (h : Sh M) (l : LT true u v (itN true u v) M) (he : e < itN true u v) (ht : t < itN true u v) {hi x z : Int64} : j_X12_gather_191 k 65 (nI e) (nI t) hi 102 (nI e) x z M = k 65 (nI e) (nI (t + 1)) (wL (wL M 102 e (x ||| z)) 103 e (rL M 103 e ||| (if fT true u v t = fT true u v e then hi else 0))) := by
  have hN := itN_le (b := true) hu hv
  have e1 : El N0 M (wL M 102 e (x ||| z)) := el_wL El.rf
  have h1 := Sh_el e1 h
  have l1 : LT true u v (itN true u v) (wL M 102 e (x ||| z)) := l
  have r1 : rL (wL M 102 e (x ||| z)) 103 e = rL M 103 e := by rw [rL_wL, if_neg (by omega)]
  have b1 := fs6 hu hv ht
  have b2 := fs6 hu hv he
  unfold j_X12_gather_191
  rw [stJ_n (t102 h) (by omega) (by decide), Option.bind_some, q65_63 h1, Option.bind_some, ldJ_n (t103 h1) (by omega) (by decide), Option.bind_some, q65_58 h1, Option.bind_some, ldI_n (t98 h1) (by omega) (by decide), Option.bind_some, (l1.2 t ht).2.1, Option.bind_some, ldI_n (t98 h1) (by omega) (by decide), Option.bind_some, (l1.2 e he).2.1, r1]
  by_cases hc : fT true u v t = fT true u v e
  · rw [if_pos (by rw [hc]), ga_221 h1 (by omega), if_pos hc]
  · rw [if_neg (fun q => hc ((nI_eq (by omega) (by omega)).mp q)), ga_221 h1 (by omega), if_neg hc]
theorem ga_162 (hu : wwf u) (hv : wwf v) (h : Sh M) (l : LT true u v (itN true u v) M) (he : e < itN true u v) (ht : t < itN true u v) {lo hi x z : Int64} : j_X12_gather_162 k 65 (nI e) (nI t) lo hi 101 (nI e) x z M = k 65 (nI e) (nI (t + 1)) (wL (wL (wL M 101 e (x ||| z)) 102 e (rL M 102 e ||| (if fT true u v t = fT true u v e then lo else 0))) 103 e (rL M 103 e ||| (if fT true u v t = fT true u v e then hi else 0))) := by
  have hN := itN_le (b := true) hu hv
  have e1 : El N0 M (wL M 101 e (x ||| z)) := el_wL El.rf
  have h1 := Sh_el e1 h
  have l1 : LT true u v (itN true u v) (wL M 101 e (x ||| z)) := l
  have r1 : rL (wL M 101 e (x ||| z)) 102 e = rL M 102 e := by rw [rL_wL, if_neg (by omega)]
  have r3 : rL (wL M 101 e (x ||| z)) 103 e = rL M 103 e := by rw [rL_wL, if_neg (by omega)]
  have b1 := fs6 hu hv ht
  have b2 := fs6 hu hv he
  unfold j_X12_gather_162
  rw [stJ_n (t101 h) (by omega) (by decide), Option.bind_some, q65_62 h1, Option.bind_some, ldJ_n (t102 h1) (by omega) (by decide), Option.bind_some, q65_58 h1, Option.bind_some, ldI_n (t98 h1) (by omega) (by decide), Option.bind_some, (l1.2 t ht).2.1, Option.bind_some, ldI_n (t98 h1) (by omega) (by decide), Option.bind_some, (l1.2 e he).2.1, r1]
  by_cases hc : fT true u v t = fT true u v e
  · rw [if_pos (by rw [hc]), ga_191 hu hv h1 l1 he ht, r3]; simp only [if_pos hc]
  · rw [if_neg (fun q => hc ((nI_eq (by omega) (by omega)).mp q)), ga_191 hu hv h1 l1 he ht, r3]; simp only [if_neg hc]
theorem ga_132 (hu : wwf u) (hv : wwf v) (h : Sh M) (l : LT true u v (itN true u v) M) (he : e < itN true u v) (ht : t < itN true u v) {lo hi x z : Int64} : j_X12_gather_132 k 65 (nI e) (nI t) lo hi 100 (nI e) x z M = k 65 (nI e) (nI (t + 1)) (wL (wL (wL (wL M 100 e (x ||| z)) 101 e (rL M 101 e ||| (if sT true u v t = sT true u v e then hi else 0))) 102 e (rL M 102 e ||| (if fT true u v t = fT true u v e then lo else 0))) 103 e (rL M 103 e ||| (if fT true u v t = fT true u v e then hi else 0))) := by
  have hN := itN_le (b := true) hu hv
  have e1 : El N0 M (wL M 100 e (x ||| z)) := el_wL El.rf
  have h1 := Sh_el e1 h
  have l1 : LT true u v (itN true u v) (wL M 100 e (x ||| z)) := l
  have r1 : rL (wL M 100 e (x ||| z)) 101 e = rL M 101 e := by rw [rL_wL, if_neg (by omega)]
  have r2 : rL (wL M 100 e (x ||| z)) 102 e = rL M 102 e := by rw [rL_wL, if_neg (by omega)]
  have r3 : rL (wL M 100 e (x ||| z)) 103 e = rL M 103 e := by rw [rL_wL, if_neg (by omega)]
  have b1 := st6 hu hv ht
  have b2 := st6 hu hv he
  unfold j_X12_gather_132
  rw [stJ_n (t100 h) (by omega) (by decide), Option.bind_some, q65_61 h1, Option.bind_some, ldJ_n (t101 h1) (by omega) (by decide), Option.bind_some, q65_59 h1, Option.bind_some, ldI_n (t99 h1) (by omega) (by decide), Option.bind_some, (l1.2 t ht).2.2, Option.bind_some, ldI_n (t99 h1) (by omega) (by decide), Option.bind_some, (l1.2 e he).2.2, r1]
  by_cases hc : sT true u v t = sT true u v e
  · rw [if_pos (by rw [hc]), ga_162 hu hv h1 l1 he ht, r2, r3, if_pos hc]
  · rw [if_neg (fun q => hc ((nI_eq (by omega) (by omega)).mp q)), ga_162 hu hv h1 l1 he ht, r2, r3, if_neg hc]
theorem ga_103 (hu : wwf u) (hv : wwf v) (h : Sh M) (l : LT true u v (itN true u v) M) (he : e < itN true u v) (ht : t < itN true u v) {lo hi : Int64} : j_X12_gather_103 k 65 (nI e) (nI t) lo hi M = k 65 (nI e) (nI (t + 1)) (wL (wL (wL (wL M 100 e (rL M 100 e ||| (if sT true u v t = sT true u v e then lo else 0))) 101 e (rL M 101 e ||| (if sT true u v t = sT true u v e then hi else 0))) 102 e (rL M 102 e ||| (if fT true u v t = fT true u v e then lo else 0))) 103 e (rL M 103 e ||| (if fT true u v t = fT true u v e then hi else 0))) := by
  have hN := itN_le (b := true) hu hv
  have b1 := st6 hu hv ht
  have b2 := st6 hu hv he
  unfold j_X12_gather_103
  rw [q65_60 h, Option.bind_some, ldJ_n (t100 h) (by omega) (by decide), Option.bind_some, q65_59 h, Option.bind_some, ldI_n (t99 h) (by omega) (by decide), Option.bind_some, (l.2 t ht).2.2, Option.bind_some, ldI_n (t99 h) (by omega) (by decide), Option.bind_some, (l.2 e he).2.2]
  by_cases hc : sT true u v t = sT true u v e
  · rw [if_pos (by rw [hc]), ga_132 hu hv h l he ht]; simp only [if_pos hc]
  · rw [if_neg (fun q => hc ((nI_eq (by omega) (by omega)).mp q)), ga_132 hu hv h l he ht]; simp only [if_neg hc]
end M3
