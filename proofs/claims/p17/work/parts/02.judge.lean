/-! THE MODEL: cells by their places; a place k lies at the address 'ad k'. G: from this state of the model the method comes to its end. -/
abbrev mCell : Type := (Nat × vp_A) ⊕ (Nat × List Value)
/-- next free place, slots made so far, the cells -/
abbrev mH : Type := Nat × Nat × (Nat → mCell)
def cv (ad : Nat → Nat) : Value → Value
  | .ref k => .ref (ad k)
  | v => v
def cq (ad : Nat → Nat) (q : Nat × Value) : Nat × Value := (q.1, cv ad q.2)
def cA (ad : Nat → Nat) : vp_A → vp_A
  | (n, .inr (.inr (.inr (.inr f)))) => (n, .inr (.inr (.inr (.inr (fun j => (f j).map ad)))))
  | a => a
def cE (dA : Nat → ClassId) (ad : Nat → Nat) : mCell → va_E
  | .inl (t, a) => .inl (dA t, cA ad a)
  | .inr (c, fs) => .inr (c, fs.map (cv ad))
def dead : mCell := .inr (0, [])
def wl (dA : Nat → ClassId) (ad : Nat → Nat) (h : mH) : va_W := (List.range h.1).map (fun k => (ad k, cE dA ad (h.2.2 k)))
def mset (h : mH) (o : Nat) (c : mCell) : mH := (h.1, h.2.1, va_up h.2.2 o c)
theorem cv_cat (ad : Nat → Nat) (v : Value) : (cv ad v).category = v.category := by cases v <;> rfl
theorem wl_at {dA : Nat → ClassId} {ad : Nat → Nat} {h : mH} {o : Nat} (ho : o < h.1) : (wl dA ad h)[o]? = some (ad o, cE dA ad (h.2.2 o)) := by
  simp [wl, ho]
theorem wl_set {dA : Nat → ClassId} {ad : Nat → Nat} {h : mH} {o : Nat} {c : mCell} : (wl dA ad h).set o (ad o, cE dA ad c) = wl dA ad (mset h o c) := by
  apply List.ext_getElem?
  intro k
  by_cases hk : k < h.1
  · by_cases he : o = k
    · subst he
      simp [wl, mset, va_up, hk]
    · simp [wl, mset, va_up, hk, he, Ne.symm he]

  · rw [List.getElem?_eq_none (by simp [wl]; omega), List.getElem?_eq_none (by simp [wl, mset]; omega)]
theorem wl_of {dA : Nat → ClassId} {ad ad' : Nat → Nat} {h : mH} (hs : ∀ k, k < h.1 → (ad k, cE dA ad (h.2.2 k)) = (ad' k, cE dA ad' (h.2.2 k))) : wl dA ad h = wl dA ad' h := by
  unfold wl
  exact List.map_congr_left (fun k hk => hs k (List.mem_range.mp hk))
/-- words -/
def tbg : List Cond := lw_tbl.filter goodWord
theorem tbg_in {w : Cond} (i : Nat) (h : lw_tbl[i]? = some w) (hg : goodWord w = true) : w ∈ tbg := List.mem_filter.mpr ⟨List.mem_of_getElem? h, hg⟩
theorem tbg_good {big : List Cond} (hb : ∀ w ∈ tbg, w ∈ big) : GoodIn big tbg := fun w h => ⟨hb w h, good_of_word (List.mem_filter.mp h).2⟩
def isNest : Cond → Bool
  | .methodLinkNest .. => true
  | .fieldLinkNest .. => true
  | _ => false
def nests : List Cond := lw_tbl.filter isNest
theorem nests_in {w : Cond} (i : Nat) (h : lw_tbl[i]? = some w) (hg : isNest w = true) : w ∈ nests := List.mem_filter.mpr ⟨List.mem_of_getElem? h, hg⟩
theorem nest_warm {w : Cond} (hw : isNest w = true) {s U : State} (hW : s.WarmedH U.vm) (h : va_Nw w s) : va_Nw w U := by
  cases w <;> first | exact va_Nw.warmM hW h | exact va_Nw.warmF hW h | exact absurd hw (by simp [isNest])
theorem nest_on {w : Cond} (hw : isNest w = true) : w.onTables = true := by
  cases w <;> first | rfl | exact absurd hw (by simp [isNest])
