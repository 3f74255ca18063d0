/-! TOLD, on both sides. -/
def cw (ws : Nat → Wd) : Nat → Nat
  | 0 => 0
  | n + 1 => cw ws n + (if (ws n).1 = 0 then 0 else 1)
theorem cw_le (ws : Nat → Wd) : ∀ n, cw ws n ≤ n
  | 0 => Nat.le_refl _
  | n + 1 => by have := cw_le ws n; rw [cw]; split <;> omega
/-- what is told: worlds, sentences, tape, things sorted, things coloured -/
def sp_told (ws : Nat → Wd) (ns nt nk nc : Nat) (x : Int32) : Int32 := match ixo x 5 with
  | none => -2
  | some j => if j = 0 then nI (cw ws 6) else if j = 1 then nI ns else if j = 2 then nI nt else if j = 3 then nI nk else nI nc
theorem wok_n {ws : Nat → Wd} {j : Nat} (hj : j < 6) : wok ws (nI j) = if (ws j).1 = 0 then none else some j := by
  unfold wok
  rw [(ixo_some (by decide)).mpr ⟨hj, rfl⟩]
  rfl
section TD
variable {M : jM} {ws : Nat → Wd}
theorem told_cw (h : Sh M) (a : XA ws M) (hf : WF ws) : ∀ (F n : Nat), n ≤ 6 → 6 - n < F → l_X11_countWorlds_4 F 1 (nI (cw ws n)) (nI n) M = some (nI (cw ws 6), M) := by
  intro F
  induction F with
  | zero => intro n _ z; omega
  | succ F ih =>
    intro n hn hF
    show b_X11_countWorlds_4 (l_X11_countWorlds_4 F) 1 (nI (cw ws n)) (nI n) M = _
    unfold b_X11_countWorlds_4 j_X11_countWorlds_21
    by_cases hc : 6 ≤ n
    · obtain rfl : n = 6 := by omega
      rw [if_pos (by decide)]; rfl
    · rw [if_neg (nI_ge (by omega) (by decide)), jiv_n (t1 h), x_worldOf h a hf, jb2_some, wok_n (by omega)]
      have := ih (n + 1) (by omega) (by omega)
      rw [cw] at this
      by_cases h0 : (ws n).1 = 0
      · rw [if_pos h0] at this ⊢
        show l_X11_countWorlds_4 F 1 (nI (cw ws n)) (nI n + nI 1) M = _
        rw [nI_add]; exact this
      · rw [if_neg h0] at this ⊢
        show l_X11_countWorlds_4 F 1 (nI (cw ws n) + nI 1) (nI n + nI 1) M = _
        rw [nI_add, nI_add]; exact this
theorem told_40 (h : Sh M) (a : MA ws M) (hf : WF ws) : ∀ (F n : Nat), n ≤ 6 → 6 - n < F → l_X12_told_40 F 65 (nI (cw ws n)) (nI n) M = some (nI (cw ws 6), M) := by
  intro F
  induction F with
  | zero => intro n _ z; omega
  | succ F ih =>
    intro n hn hF
    show b_X12_told_40 (l_X12_told_40 F) 65 (nI (cw ws n)) (nI n) M = _
    unfold b_X12_told_40 j_X12_told_61
    by_cases hc : 6 ≤ n
    · obtain rfl : n = 6 := by omega
      rw [if_pos (by decide)]; rfl
    · have h6 := (hf n).1
      rw [if_neg (nI_ge (by omega) (by decide)), q65_0 h, Option.bind_some, m_things h a (show n < 8 by omega), Option.bind_some]
      have := ih (n + 1) (by omega) (by omega)
      rw [cw] at this
      by_cases h0 : (ws n).1 = 0
      · rw [if_pos h0] at this
        rw [if_pos (by rw [h0]; decide), nI_add, nI_add]
        exact this
      · rw [if_neg h0] at this
        rw [if_neg (nI_nle (by omega) (by omega)), nI_add, nI_add]
        exact this
theorem x_told (h : Sh M) (a : XA ws M) (hf : WF ws) {ns nt nk nc : Nat} (h1 : rI M 1 9 = nI ns) (h2 : rI M 29 1 = nI nt) (h3 : rI M 39 2 = nI nk) (h4 : rI M 42 4 = nI nc) (x : Int32) : f_X11_told 1 x M = some (sp_told ws ns nt nk nc x, M) := by
  obtain ⟨n0, hn0⟩ := jF_is
  unfold f_X11_told sp_told f_X11_countWorlds f_X8_length f_X2_items f_X1_items
  cases hk : ixo x 5 with
  | none =>
    have hk' := (ixo_none (by decide)).mp hk
    rw [if_neg (fun e => by subst e; rcases hk' with q | q <;> revert q <;> decide), if_neg (fun e => by subst e; rcases hk' with q | q <;> revert q <;> decide), if_neg (fun e => by subst e; rcases hk' with q | q <;> revert q <;> decide), if_neg (fun e => by subst e; rcases hk' with q | q <;> revert q <;> decide), if_neg (fun e => by subst e; rcases hk' with q | q <;> revert q <;> decide)]
    rfl
  | some q =>
    obtain ⟨hq, rfl⟩ := (ixo_some (by decide)).mp hk
    rcases (show q = 0 ∨ q = 1 ∨ q = 2 ∨ q = 3 ∨ q = 4 by omega) with rfl | rfl | rfl | rfl | rfl
    · have := told_cw h a hf jF0 0 (by decide) (by omega)
      rw [show nI (cw ws 0) = nI 0 from rfl] at this
      rw [if_pos (show nI 0 = 0 from rfl), jiv_n (t1 h), this, jb2_some]
      rfl
    · rw [if_neg (by decide), if_pos rfl, gI_n (t1 h), Option.bind_some, h1]; rfl
    · rw [if_neg (by decide), if_neg (by decide), if_pos rfl, q1_4 h, Option.bind_some, jiv_n (t29 h), gI_n (t29 h), Option.bind_some, h2]; rfl
    · rw [if_neg (by decide), if_neg (by decide), if_neg (by decide), if_pos rfl, q1_10 h, Option.bind_some, jiv_n (t39 h), gI_n (t39 h), Option.bind_some, h3]; rfl
    · rw [if_neg (by decide), if_neg (by decide), if_neg (by decide), if_neg (by decide), if_pos rfl, q1_11 h, Option.bind_some, jiv_n (t42 h), gI_n (t42 h), Option.bind_some, h4]; rfl
theorem m_told (h : Sh M) (a : MA ws M) (hf : WF ws) {ns nt nk : Nat} {d : Co} (h1 : rI M 65 17 = nI ns) (h2 : rI M 65 28 = nI nt) (h3 : rI M 65 48 = nI nk) (h4 : MC d M) (x : Int32) : f_X12_told 65 x M = some (sp_told ws ns nt nk d.1 x, M) := by
  obtain ⟨n0, hn0⟩ := jF_is
  unfold f_X12_told sp_told
  cases hk : ixo x 5 with
  | none =>
    have hk' := (ixo_none (by decide)).mp hk
    rw [if_neg (fun e => by subst e; rcases hk' with q | q <;> revert q <;> decide), if_neg (fun e => by subst e; rcases hk' with q | q <;> revert q <;> decide), if_neg (fun e => by subst e; rcases hk' with q | q <;> revert q <;> decide), if_neg (fun e => by subst e; rcases hk' with q | q <;> revert q <;> decide), if_neg (fun e => by subst e; rcases hk' with q | q <;> revert q <;> decide)]
    rfl
  | some q =>
    obtain ⟨hq, rfl⟩ := (ixo_some (by decide)).mp hk
    rcases (show q = 0 ∨ q = 1 ∨ q = 2 ∨ q = 3 ∨ q = 4 by omega) with rfl | rfl | rfl | rfl | rfl
    · have := told_40 h a hf jF0 0 (by decide) (by omega)
      rw [show nI (cw ws 0) = nI 0 from rfl] at this
      rw [if_pos rfl, this]
      rfl
    · rw [if_neg (by decide), if_pos rfl, gI_n (t65 h), Option.bind_some, h1]; rfl
    · rw [if_neg (by decide), if_neg (by decide), if_pos rfl, gI_n (t65 h), Option.bind_some, h2]; rfl
    · rw [if_neg (by decide), if_neg (by decide), if_neg (by decide), if_pos rfl, gI_n (t65 h), Option.bind_some, h3]; rfl
    · rw [if_neg (by decide), if_neg (by decide), if_neg (by decide), if_neg (by decide), if_pos rfl, gI_n (t65 h), Option.bind_some]
      by_cases h0 : d.1 = 0
      · rw [h4.2.1 h0, if_neg (by decide), h0]; rfl
      · obtain ⟨⟨K, hK, k1⟩, -⟩ := h4.2.2.1 h0
        rw [k1, if_pos (nI_pos' (by omega)), gI_n (t65 h), Option.bind_some, h4.1]; rfl
end TD
