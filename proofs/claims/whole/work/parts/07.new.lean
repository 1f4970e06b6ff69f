/-! NEW OBJECTS over pools -/
def x_gN (g : Nat → Nat → Nat) (q n a : Nat) : Nat → Nat → Nat := fun r j => if r = q ∧ j = n then a else g r j
theorem x_gN_self {g : Nat → Nat → Nat} {q n a : Nat} : x_gN g q n a q n = a := if_pos ⟨rfl, rfl⟩
theorem x_gN_lt {g : Nat → Nat → Nat} {cnt : Nat → Nat} {q a r j : Nat} (h : j < cnt r) : x_gN g q (cnt q) a r j = g r j := if_neg (fun z => by obtain ⟨rfl, rfl⟩ := z; exact Nat.lt_irrefl _ h)
theorem xv_gN {g : Nat → Nat → Nat} {cnt : Nat → Nat} {q a : Nat} {v : XV} (h : xok cnt v) : xv (x_gN g q (cnt q) a) v = xv g v := by
  rcases v with x | y | ⟨r, _ | i⟩ | b
  · rfl
  · rfl
  · rfl
  · show Value.ref (x_gN g q (cnt q) a r i) = Value.ref (g r i)
    rw [x_gN_lt h]
  · rfl
theorem xrf_gN {g : Nat → Nat → Nat} {cnt : Nat → Nat} {q a r : Nat} {o : Option Nat} (h : ∀ j, o = some j → j < cnt r) : xrf (x_gN g q (cnt q) a) r o = xrf g r o := by
  cases o with
  | none => rfl
  | some j => show Value.ref (x_gN g q (cnt q) a r j) = _; rw [x_gN_lt (h j rfl)]; rfl
theorem x_W.push {D : va_G} {cA : Nat → ClassId} {A : Nat → Prop} {g : Nat → Nat → Nat} {st : XS} {H H1 : Heap} {q : Nat} (hW : x_W D cA A g st H) (ho : ∀ b : Nat, b < H.size → H1[b]? = H[b]?) (hA : A H.size) (he : va_at D xk_cl (H.size, xent cA (x_gN g q (st.2.2.2 q) H.size) (xsN st q) q (st.2.2.2 q)) H1) : x_W D cA A (x_gN g q (st.2.2.2 q) H.size) (xsN st q) H1 := by
  have hcnt : ∀ r j, j < (xsN st q).2.2.2 r → (r = q ∧ j = st.2.2.2 q) ∨ j < st.2.2.2 r := by
    intro r j h
    have h : j < (if r = q then st.2.2.2 q + 1 else st.2.2.2 r) := h
    by_cases hr : r = q
    · subst hr
      rw [if_pos rfl] at h
      by_cases hj : j = st.2.2.2 r
      · exact Or.inl ⟨rfl, hj⟩
      · exact Or.inr (by omega)
    · rw [if_neg hr] at h; exact Or.inr h
  have hle : ∀ r, st.2.2.2 r ≤ (xsN st q).2.2.2 r := by
    intro r
    show _ ≤ (if r = q then st.2.2.2 q + 1 else st.2.2.2 r)
    by_cases hr : r = q
    · subst hr; rw [if_pos rfl]; omega
    · rw [if_neg hr]; exact Nat.le_refl _
  have hlt : ∀ r j, j < st.2.2.2 r → g r j < H.size := fun r j h => (hW.1 r j h).1.lt
  have hold : ∀ r j, j < st.2.2.2 r → xent cA (x_gN g q (st.2.2.2 q) H.size) (xsN st q) r j = xent cA g st r j := by
    intro r j hj
    have hne : ¬ (r = q ∧ j = st.2.2.2 q) := fun z => by obtain ⟨rfl, rfl⟩ := z; exact Nat.lt_irrefl _ hj
    have e1 : ∀ k, (xsN st q).1 r j k = st.1 r j k := fun k => if_neg hne
    have e2 : ∀ k, (xsN st q).2.1 r j k = st.2.1 r j k := fun k => if_neg hne
    have e3 : ∀ k, (xsN st q).2.2.1 r j k = st.2.2.1 r j k := fun k => if_neg hne
    have ev : xval (x_gN g q (st.2.2.2 q) H.size) (xsN st q) r j = xval g st r j := by
      funext k
      unfold xval
      rw [e1, e2, e3]
      have hs := xk_s_le r k
      match hk : xk_s r k, hs with
      | 0, _ => rfl
      | 1, _ => rfl
      | 2, _ => exact xrf_gN (fun t h => hW.2.2 r j k t hj hk h)
    cases hc : xk_c r with
    | some ci => rw [xent_obj hc, xent_obj hc, ev]
    | none =>
      rw [xent_arr hc, xent_arr hc]
      congr 2
      unfold xarr
      congr 1
      have hs := xk_s_le r 0
      match hk : xk_s r 0, hs with
      | 0, _ => show Sum.inl _ = Sum.inl _; congr 1; funext k; exact e1 k
      | 1, _ => show Sum.inr (Sum.inl _) = Sum.inr (Sum.inl _); congr 2; funext k; exact e2 k
      | 2, _ =>
        show Sum.inr (Sum.inr (Sum.inr (Sum.inr _))) = Sum.inr (Sum.inr (Sum.inr (Sum.inr _)))
        congr 4
        funext k
        rw [e3 k]
        cases h : st.2.2.1 r j k with
        | none => rfl
        | some t =>
          have hu := xk_un r hc k
          have h3 := hW.2.2 r j k t hj (by rw [hu.1]; exact hk) h
          rw [hu.2] at h3
          show some (x_gN g q (st.2.2.2 q) H.size _ t) = some _
          rw [x_gN_lt h3]
  refine ⟨fun r j hj => ?_, fun r j r2 j2 h1 h2 hEq => ?_, fun r j k t hj hs ht => ?_⟩
  · rcases hcnt r j hj with ⟨rfl, rfl⟩ | h
    · rw [x_gN_self]; exact ⟨he, hA⟩
    · rw [hold r j h, x_gN_lt h]
      exact ⟨((hW.1 r j h).1).kept (ho _ (hlt r j h)), (hW.1 r j h).2⟩
  · rcases hcnt r j h1 with ⟨rfl, rfl⟩ | h <;> rcases hcnt r2 j2 h2 with ⟨rfl, rfl⟩ | h'
    · exact ⟨rfl, rfl⟩
    · rw [x_gN_self, x_gN_lt h'] at hEq
      have := hlt r2 j2 h'
      omega
    · rw [x_gN_self, x_gN_lt h] at hEq
      have := hlt r j h
      omega
    · rw [x_gN_lt h, x_gN_lt h'] at hEq
      exact hW.2.1 r j r2 j2 h h' hEq
  · rcases hcnt r j hj with ⟨rfl, rfl⟩ | h
    · have e3 : (xsN st r).2.2.1 r (st.2.2.2 r) k = none := if_pos ⟨rfl, rfl⟩
      rw [e3] at ht
      cases ht
    · have hne : ¬ (r = q ∧ j = st.2.2.2 q) := fun z => by obtain ⟨rfl, rfl⟩ := z; exact Nat.lt_irrefl _ h
      have e3 : (xsN st q).2.2.1 r j k = st.2.2.1 r j k := if_neg hne
      rw [e3] at ht
      exact Nat.lt_of_lt_of_le (hW.2.2 r j k t h hs ht) (hle _)
