/-! the first heap: what the constructors leave -/
def TL (h : mH) : Prop := ∀ k, 126 ≤ k → h.2.2 k = dead
def okc : mCell → Prop
  | .inl (_, n, .inr (.inr (.inr (.inr f)))) => ∀ j, n ≤ j → f j = none
  | _ => True
def RA (h : mH) : Prop := ∀ k, okc (h.2.2 k)
def TB (h h' : mH) : Prop := h.1 ≤ h'.1 ∧ (h'.1 ≤ 126 → TL h → TL h') ∧ (RA h → RA h')
theorem TB.rf (h : mH) : TB h h := ⟨Nat.le_refl _, fun _ t => t, fun r => r⟩
theorem TB.tr {a b c : mH} (x : TB a b) (y : TB b c) : TB a c := ⟨Nat.le_trans x.1 y.1, fun n t => y.2.1 n (x.2.1 (Nat.le_trans y.1 n) t), fun r => y.2.2 (x.2.2 r)⟩
theorem TB.set {h : mH} {o : Nat} {c : mCell} (ho : h.2.2 o ≠ dead) (hc : RA h → okc c) : TB h (mset h o c) := by
  refine ⟨Nat.le_refl _, fun _ t k hk => ?_, fun r k => ?_⟩
  · show va_up h.2.2 o c k = dead
    unfold va_up
    split
    · next e => subst e; exact absurd (t k hk) ho
    · exact t k hk
  · show okc (va_up h.2.2 o c k)
    unfold va_up
    split
    · exact hc r
    · exact r k
theorem mkn_tb {h h' : mH} {s : Nat} {c : mCell} (hc : okc c) (e : mkn h s c = some h') : TB h h' := by
  obtain ⟨-, rfl⟩ := mkn_e e
  refine ⟨Nat.le_succ _, fun n t k hk => ?_, fun r k => ?_⟩
  · have n : h.1 + 1 ≤ 126 := n
    show va_up h.2.2 h.1 c k = dead
    unfold va_up
    rw [if_neg (by omega)]
    exact t k hk
  · show okc (va_up h.2.2 h.1 c k)
    unfold va_up
    split
    · exact hc
    · exact r k
theorem pV_tb {h h' : mH} {o ci k : Nat} {v : Value} (e : pV h o ci k v = some h') : TB h h' := by
  obtain ⟨fs, e1, e2, rfl⟩ := pV_spec e
  refine TB.set ?_ (fun _ => trivial)
  rw [e1]
  intro z
  have : fs = [] := congrArg Prod.snd (Sum.inr.inj z)
  rw [this] at e2
  exact absurd e2 (by simp)
theorem sI_tb {h h' : mH} {t o : Nat} {i x : Int32} (e : sI h t o i x = some h') : TB h h' := by
  obtain ⟨n, f, e1, -, rfl⟩ := sI_spec e
  refine TB.set ?_ (fun _ => trivial)
  rw [e1]
  intro z; cases z
theorem sR_tb {h h' : mH} {t o ci : Nat} {i : Int32} {v : Nat} (e : sR h t o ci i v = some h') : TB h h' := by
  obtain ⟨n, f, fs, e1, -, -, hi, rfl⟩ := sR_spec e
  refine TB.set ?_ (fun r => ?_)
  · rw [e1]
    intro z; cases z
  · have := r o
    rw [e1] at this
    have h0 : ∀ j, n ≤ j → f j = none := this
    show ∀ j, n ≤ j → va_up f i.toNatClampNeg (some v) j = none
    intro j hj
    unfold va_up
    have h3 : ¬ n ≤ i.toNatClampNeg := fun q => hi (Or.inr q)
    rw [if_neg (by omega)]
    exact h0 j hj
def PT (h : mH) (x : Option mH) : Prop := ∀ h', x = some h' → TB h h'
theorem PT.ret {h h2 : mH} (t : TB h h2) : PT h (some h2) := fun h' e => by obtain rfl := ret1 e; exact t
theorem PT.no {h : mH} : PT h none := fun _ e => by cases e
theorem PT.bdp {α : Type} {h : mH} {x : Option α} {f : α → Option mH} (k : ∀ a, PT h (f a)) : PT h (bd1 x f) := fun h' e => by
  obtain ⟨a, -, e2⟩ := bd1_e e
  exact k a h' e2
theorem PT.grd {h : mH} {p : Prop} [Decidable p] {x : Option mH} (k : PT h x) : PT h (grd p x) := fun h' e => k h' (grd_e e).2
theorem PT.op {h h1 : mH} {x : Option mH} {f : mH → Option mH} (t : TB h h1) (s : ∀ h2, x = some h2 → TB h1 h2) (k : ∀ h2, TB h h2 → PT h (f h2)) : PT h (bd1 x f) := fun h' e => by
  obtain ⟨a, e1, e2⟩ := bd1_e e
  exact k a (t.tr (s a e1)) h' e2
theorem PT.tail {h h1 : mH} {x : Option mH} (t : TB h h1) (k : PT h1 x) : PT h x := fun h' e => t.tr (k h' e)
theorem tb_Reader_new {a : Nat} {h h' : mH} (e : f_Reader_new a h = some h') : TB h h' := by
  have t0 := TB.rf h
  refine (?_ : PT h (f_Reader_new a h)) h' e
  unfold f_Reader_new f_Reader_new_0
  repeat' (first
    | exact PT.ret (by assumption)
    | refine PT.grd ?_
    | (refine PT.op (by assumption) (fun _ e => mkn_tb (by first | exact trivial | exact fun _ _ => rfl) e) ?_; intro _ _)
    | (refine PT.op (by assumption) (fun _ e => pV_tb e) ?_; intro _ _)
    | (refine PT.op (by assumption) (fun _ e => sI_tb e) ?_; intro _ _)
    | (refine PT.op (by assumption) (fun _ e => sR_tb e) ?_; intro _ _)
    | (refine PT.bdp ?_; intro _)
    | split)
theorem tb_Sightings_new {a : Nat} {h h' : mH} (e : f_Sightings_new a h = some h') : TB h h' := by
  have t0 := TB.rf h
  refine (?_ : PT h (f_Sightings_new a h)) h' e
  unfold f_Sightings_new f_Sightings_new_0
  repeat' (first
    | exact PT.ret (by assumption)
    | refine PT.grd ?_
    | (refine PT.op (by assumption) (fun _ e => mkn_tb (by first | exact trivial | exact fun _ _ => rfl) e) ?_; intro _ _)
    | (refine PT.op (by assumption) (fun _ e => pV_tb e) ?_; intro _ _)
    | (refine PT.op (by assumption) (fun _ e => sI_tb e) ?_; intro _ _)
    | (refine PT.op (by assumption) (fun _ e => sR_tb e) ?_; intro _ _)
    | (refine PT.op (by assumption) (fun _ e => tb_Reader_new e) ?_; intro _ _)
    | (refine PT.bdp ?_; intro _)
    | split)
theorem tb_Realm_new {a : Nat} {h h' : mH} (e : f_Realm_new a h = some h') : TB h h' := by
  have t0 := TB.rf h
  refine (?_ : PT h (f_Realm_new a h)) h' e
  unfold f_Realm_new f_Realm_new_0
  repeat' (first
    | exact PT.ret (by assumption)
    | refine PT.grd ?_
    | (refine PT.op (by assumption) (fun _ e => mkn_tb (by first | exact trivial | exact fun _ _ => rfl) e) ?_; intro _ _)
    | (refine PT.op (by assumption) (fun _ e => pV_tb e) ?_; intro _ _)
    | (refine PT.op (by assumption) (fun _ e => sI_tb e) ?_; intro _ _)
    | (refine PT.op (by assumption) (fun _ e => sR_tb e) ?_; intro _ _)
    | (refine PT.op (by assumption) (fun _ e => tb_Reader_new e) ?_; intro _ _)
    | (refine PT.op (by assumption) (fun _ e => tb_Sightings_new e) ?_; intro _ _)
    | (refine PT.bdp ?_; intro _)
    | split)
theorem tb_Planner_new {a : Nat} {h h' : mH} (e : f_Planner_new a h = some h') : TB h h' := by
  have t0 := TB.rf h
  refine (?_ : PT h (f_Planner_new a h)) h' e
  unfold f_Planner_new f_Planner_new_0
  repeat' (first
    | exact PT.ret (by assumption)
    | refine PT.grd ?_
    | (refine PT.op (by assumption) (fun _ e => mkn_tb (by first | exact trivial | exact fun _ _ => rfl) e) ?_; intro _ _)
    | (refine PT.op (by assumption) (fun _ e => pV_tb e) ?_; intro _ _)
    | (refine PT.op (by assumption) (fun _ e => sI_tb e) ?_; intro _ _)
    | (refine PT.op (by assumption) (fun _ e => sR_tb e) ?_; intro _ _)
    | (refine PT.op (by assumption) (fun _ e => tb_Reader_new e) ?_; intro _ _)
    | (refine PT.op (by assumption) (fun _ e => tb_Sightings_new e) ?_; intro _ _)
    | (refine PT.op (by assumption) (fun _ e => tb_Realm_new e) ?_; intro _ _)
    | (refine PT.bdp ?_; intro _)
    | split)
theorem tb_Tables_new {a : Nat} {h h' : mH} (e : f_Tables_new a h = some h') : TB h h' := by
  have t0 := TB.rf h
  refine (?_ : PT h (f_Tables_new a h)) h' e
  unfold f_Tables_new f_Tables_new_0
  repeat' (first
    | exact PT.ret (by assumption)
    | refine PT.grd ?_
    | (refine PT.op (by assumption) (fun _ e => mkn_tb (by first | exact trivial | exact fun _ _ => rfl) e) ?_; intro _ _)
    | (refine PT.op (by assumption) (fun _ e => pV_tb e) ?_; intro _ _)
    | (refine PT.op (by assumption) (fun _ e => sI_tb e) ?_; intro _ _)
    | (refine PT.op (by assumption) (fun _ e => sR_tb e) ?_; intro _ _)
    | (refine PT.op (by assumption) (fun _ e => tb_Reader_new e) ?_; intro _ _)
    | (refine PT.op (by assumption) (fun _ e => tb_Sightings_new e) ?_; intro _ _)
    | (refine PT.op (by assumption) (fun _ e => tb_Realm_new e) ?_; intro _ _)
    | (refine PT.op (by assumption) (fun _ e => tb_Planner_new e) ?_; intro _ _)
    | (refine PT.bdp ?_; intro _)
    | split)
theorem tb_Odds_new {a : Nat} {h h' : mH} (e : f_Odds_new a h = some h') : TB h h' := by
  have t0 := TB.rf h
  refine (?_ : PT h (f_Odds_new a h)) h' e
  unfold f_Odds_new f_Odds_new_0
  repeat' (first
    | exact PT.ret (by assumption)
    | refine PT.grd ?_
    | (refine PT.op (by assumption) (fun _ e => mkn_tb (by first | exact trivial | exact fun _ _ => rfl) e) ?_; intro _ _)
    | (refine PT.op (by assumption) (fun _ e => pV_tb e) ?_; intro _ _)
    | (refine PT.op (by assumption) (fun _ e => sI_tb e) ?_; intro _ _)
    | (refine PT.op (by assumption) (fun _ e => sR_tb e) ?_; intro _ _)
    | (refine PT.op (by assumption) (fun _ e => tb_Reader_new e) ?_; intro _ _)
    | (refine PT.op (by assumption) (fun _ e => tb_Sightings_new e) ?_; intro _ _)
    | (refine PT.op (by assumption) (fun _ e => tb_Realm_new e) ?_; intro _ _)
    | (refine PT.op (by assumption) (fun _ e => tb_Planner_new e) ?_; intro _ _)
    | (refine PT.op (by assumption) (fun _ e => tb_Tables_new e) ?_; intro _ _)
    | (refine PT.bdp ?_; intro _)
    | split)
theorem tb_Sheet_new {a : Nat} {h h' : mH} (e : f_Sheet_new a h = some h') : TB h h' := by
  have t0 := TB.rf h
  refine (?_ : PT h (f_Sheet_new a h)) h' e
  unfold f_Sheet_new f_Sheet_new_0
  repeat' (first
    | exact PT.ret (by assumption)
    | refine PT.grd ?_
    | (refine PT.op (by assumption) (fun _ e => mkn_tb (by first | exact trivial | exact fun _ _ => rfl) e) ?_; intro _ _)
    | (refine PT.op (by assumption) (fun _ e => pV_tb e) ?_; intro _ _)
    | (refine PT.op (by assumption) (fun _ e => sI_tb e) ?_; intro _ _)
    | (refine PT.op (by assumption) (fun _ e => sR_tb e) ?_; intro _ _)
    | (refine PT.op (by assumption) (fun _ e => tb_Reader_new e) ?_; intro _ _)
    | (refine PT.op (by assumption) (fun _ e => tb_Sightings_new e) ?_; intro _ _)
    | (refine PT.op (by assumption) (fun _ e => tb_Realm_new e) ?_; intro _ _)
    | (refine PT.op (by assumption) (fun _ e => tb_Planner_new e) ?_; intro _ _)
    | (refine PT.op (by assumption) (fun _ e => tb_Tables_new e) ?_; intro _ _)
    | (refine PT.op (by assumption) (fun _ e => tb_Odds_new e) ?_; intro _ _)
    | (refine PT.bdp ?_; intro _)
    | split)
theorem tb_Q_new_121 : ∀ (n : Nat) (a0 : Nat) (a1 : Int32) (h : mH), PT h (f_Q_new_121 n a0 a1 h)
  | 0, _, _, _ => PT.no
  | n + 1, a0, a1, h => by
    have t0 := TB.rf h
    have ih := tb_Q_new_121 n
    show PT h (f_Q_new_121b (f_Q_new_121 n) a0 a1 h)
    unfold f_Q_new_121b
    repeat' (first
      | exact PT.ret (by assumption)
      | exact PT.tail (by assumption) (ih _ _ _)
      | refine PT.grd ?_
      | (refine PT.op (by assumption) (fun _ e => mkn_tb (by first | exact trivial | exact fun _ _ => rfl) e) ?_; intro _ _)
      | (refine PT.op (by assumption) (fun _ e => pV_tb e) ?_; intro _ _)
      | (refine PT.op (by assumption) (fun _ e => sI_tb e) ?_; intro _ _)
      | (refine PT.op (by assumption) (fun _ e => sR_tb e) ?_; intro _ _)
      | (refine PT.op (by assumption) (fun _ e => tb_Reader_new e) ?_; intro _ _)
      | (refine PT.op (by assumption) (fun _ e => tb_Sightings_new e) ?_; intro _ _)
      | (refine PT.op (by assumption) (fun _ e => tb_Realm_new e) ?_; intro _ _)
      | (refine PT.op (by assumption) (fun _ e => tb_Planner_new e) ?_; intro _ _)
      | (refine PT.op (by assumption) (fun _ e => tb_Tables_new e) ?_; intro _ _)
      | (refine PT.op (by assumption) (fun _ e => tb_Odds_new e) ?_; intro _ _)
      | (refine PT.op (by assumption) (fun _ e => tb_Sheet_new e) ?_; intro _ _)
      | (refine PT.bdp ?_; intro _)
      | split)
theorem tb_Q_new_95 : ∀ (n : Nat) (a0 : Nat) (a1 : Int32) (h : mH), PT h (f_Q_new_95 n a0 a1 h)
  | 0, _, _, _ => PT.no
  | n + 1, a0, a1, h => by
    have t0 := TB.rf h
    have ih := tb_Q_new_95 n
    show PT h (f_Q_new_95b (f_Q_new_95 n) a0 a1 h)
    unfold f_Q_new_95b
    repeat' (first
      | exact PT.ret (by assumption)
      | exact PT.tail (by assumption) (ih _ _ _)
      | exact PT.tail (by assumption) (tb_Q_new_121 _ _ _ _)
      | refine PT.grd ?_
      | (refine PT.op (by assumption) (fun _ e => mkn_tb (by first | exact trivial | exact fun _ _ => rfl) e) ?_; intro _ _)
      | (refine PT.op (by assumption) (fun _ e => pV_tb e) ?_; intro _ _)
      | (refine PT.op (by assumption) (fun _ e => sI_tb e) ?_; intro _ _)
      | (refine PT.op (by assumption) (fun _ e => sR_tb e) ?_; intro _ _)
      | (refine PT.op (by assumption) (fun _ e => tb_Reader_new e) ?_; intro _ _)
      | (refine PT.op (by assumption) (fun _ e => tb_Sightings_new e) ?_; intro _ _)
      | (refine PT.op (by assumption) (fun _ e => tb_Realm_new e) ?_; intro _ _)
      | (refine PT.op (by assumption) (fun _ e => tb_Planner_new e) ?_; intro _ _)
      | (refine PT.op (by assumption) (fun _ e => tb_Tables_new e) ?_; intro _ _)
      | (refine PT.op (by assumption) (fun _ e => tb_Odds_new e) ?_; intro _ _)
      | (refine PT.op (by assumption) (fun _ e => tb_Sheet_new e) ?_; intro _ _)
      | (refine PT.bdp ?_; intro _)
      | split)
theorem tb_Q_new {a : Nat} {h h' : mH} (e : f_Q_new a h = some h') : TB h h' := by
  have t0 := TB.rf h
  refine (?_ : PT h (f_Q_new a h)) h' e
  unfold f_Q_new f_Q_new_0
  repeat' (first
    | exact PT.ret (by assumption)
    | exact PT.tail (by assumption) (tb_Q_new_95 _ _ _ _)
    | refine PT.grd ?_
    | (refine PT.op (by assumption) (fun _ e => mkn_tb (by first | exact trivial | exact fun _ _ => rfl) e) ?_; intro _ _)
    | (refine PT.op (by assumption) (fun _ e => pV_tb e) ?_; intro _ _)
    | (refine PT.op (by assumption) (fun _ e => sI_tb e) ?_; intro _ _)
    | (refine PT.op (by assumption) (fun _ e => sR_tb e) ?_; intro _ _)
    | (refine PT.op (by assumption) (fun _ e => tb_Reader_new e) ?_; intro _ _)
    | (refine PT.op (by assumption) (fun _ e => tb_Sightings_new e) ?_; intro _ _)
    | (refine PT.op (by assumption) (fun _ e => tb_Realm_new e) ?_; intro _ _)
    | (refine PT.op (by assumption) (fun _ e => tb_Planner_new e) ?_; intro _ _)
    | (refine PT.op (by assumption) (fun _ e => tb_Tables_new e) ?_; intro _ _)
    | (refine PT.op (by assumption) (fun _ e => tb_Odds_new e) ?_; intro _ _)
    | (refine PT.op (by assumption) (fun _ e => tb_Sheet_new e) ?_; intro _ _)
    | (refine PT.bdp ?_; intro _)
    | split)
theorem tb_M_firstDraft_23 : ∀ (n : Nat) (a0 : Nat) (a1 : Int32) (h : mH), PT h (f_M_firstDraft_23 n a0 a1 h)
  | 0, _, _, _ => PT.no
  | n + 1, a0, a1, h => by
    have t0 := TB.rf h
    have ih := tb_M_firstDraft_23 n
    show PT h (f_M_firstDraft_23b (f_M_firstDraft_23 n) a0 a1 h)
    unfold f_M_firstDraft_23b
    repeat' (first
      | exact PT.ret (by assumption)
      | exact PT.tail (by assumption) (ih _ _ _)
      | refine PT.grd ?_
      | (refine PT.op (by assumption) (fun _ e => mkn_tb (by first | exact trivial | exact fun _ _ => rfl) e) ?_; intro _ _)
      | (refine PT.op (by assumption) (fun _ e => pV_tb e) ?_; intro _ _)
      | (refine PT.op (by assumption) (fun _ e => sI_tb e) ?_; intro _ _)
      | (refine PT.op (by assumption) (fun _ e => sR_tb e) ?_; intro _ _)
      | (refine PT.op (by assumption) (fun _ e => tb_Reader_new e) ?_; intro _ _)
      | (refine PT.op (by assumption) (fun _ e => tb_Sightings_new e) ?_; intro _ _)
      | (refine PT.op (by assumption) (fun _ e => tb_Realm_new e) ?_; intro _ _)
      | (refine PT.op (by assumption) (fun _ e => tb_Planner_new e) ?_; intro _ _)
      | (refine PT.op (by assumption) (fun _ e => tb_Tables_new e) ?_; intro _ _)
      | (refine PT.op (by assumption) (fun _ e => tb_Odds_new e) ?_; intro _ _)
      | (refine PT.op (by assumption) (fun _ e => tb_Sheet_new e) ?_; intro _ _)
      | (refine PT.op (by assumption) (fun _ e => tb_Q_new e) ?_; intro _ _)
      | (refine PT.bdp ?_; intro _)
      | split)
theorem tb_M_firstDraft_2 : ∀ (n : Nat) (a0 : Nat) (a1 : Int32) (h : mH), PT h (f_M_firstDraft_2 n a0 a1 h)
  | 0, _, _, _ => PT.no
  | n + 1, a0, a1, h => by
    have t0 := TB.rf h
    have ih := tb_M_firstDraft_2 n
    show PT h (f_M_firstDraft_2b (f_M_firstDraft_2 n) a0 a1 h)
    unfold f_M_firstDraft_2b
    repeat' (first
      | exact PT.ret (by assumption)
      | exact PT.tail (by assumption) (ih _ _ _)
      | exact PT.tail (by assumption) (tb_M_firstDraft_23 _ _ _ _)
      | refine PT.grd ?_
      | (refine PT.op (by assumption) (fun _ e => mkn_tb (by first | exact trivial | exact fun _ _ => rfl) e) ?_; intro _ _)
      | (refine PT.op (by assumption) (fun _ e => pV_tb e) ?_; intro _ _)
      | (refine PT.op (by assumption) (fun _ e => sI_tb e) ?_; intro _ _)
      | (refine PT.op (by assumption) (fun _ e => sR_tb e) ?_; intro _ _)
      | (refine PT.op (by assumption) (fun _ e => tb_Reader_new e) ?_; intro _ _)
      | (refine PT.op (by assumption) (fun _ e => tb_Sightings_new e) ?_; intro _ _)
      | (refine PT.op (by assumption) (fun _ e => tb_Realm_new e) ?_; intro _ _)
      | (refine PT.op (by assumption) (fun _ e => tb_Planner_new e) ?_; intro _ _)
      | (refine PT.op (by assumption) (fun _ e => tb_Tables_new e) ?_; intro _ _)
      | (refine PT.op (by assumption) (fun _ e => tb_Odds_new e) ?_; intro _ _)
      | (refine PT.op (by assumption) (fun _ e => tb_Sheet_new e) ?_; intro _ _)
      | (refine PT.op (by assumption) (fun _ e => tb_Q_new e) ?_; intro _ _)
      | (refine PT.bdp ?_; intro _)
      | split)
theorem tb_M_firstDraft {a : Nat} {h h' : mH} (e : f_M_firstDraft a h = some h') : TB h h' := by
  have t0 := TB.rf h
  refine (?_ : PT h (f_M_firstDraft a h)) h' e
  unfold f_M_firstDraft f_M_firstDraft_0
  repeat' (first
    | exact PT.ret (by assumption)
    | exact PT.tail (by assumption) (tb_M_firstDraft_2 _ _ _ _)
    | refine PT.grd ?_
    | (refine PT.op (by assumption) (fun _ e => mkn_tb (by first | exact trivial | exact fun _ _ => rfl) e) ?_; intro _ _)
    | (refine PT.op (by assumption) (fun _ e => pV_tb e) ?_; intro _ _)
    | (refine PT.op (by assumption) (fun _ e => sI_tb e) ?_; intro _ _)
    | (refine PT.op (by assumption) (fun _ e => sR_tb e) ?_; intro _ _)
    | (refine PT.op (by assumption) (fun _ e => tb_Reader_new e) ?_; intro _ _)
    | (refine PT.op (by assumption) (fun _ e => tb_Sightings_new e) ?_; intro _ _)
    | (refine PT.op (by assumption) (fun _ e => tb_Realm_new e) ?_; intro _ _)
    | (refine PT.op (by assumption) (fun _ e => tb_Planner_new e) ?_; intro _ _)
    | (refine PT.op (by assumption) (fun _ e => tb_Tables_new e) ?_; intro _ _)
    | (refine PT.op (by assumption) (fun _ e => tb_Odds_new e) ?_; intro _ _)
    | (refine PT.op (by assumption) (fun _ e => tb_Sheet_new e) ?_; intro _ _)
    | (refine PT.op (by assumption) (fun _ e => tb_Q_new e) ?_; intro _ _)
    | (refine PT.bdp ?_; intro _)
    | split)
theorem tb_M_keepDraft_111 : ∀ (n : Nat) (a0 : Nat) (a1 : Int32) (h : mH), PT h (f_M_keepDraft_111 n a0 a1 h)
  | 0, _, _, _ => PT.no
  | n + 1, a0, a1, h => by
    have t0 := TB.rf h
    have ih := tb_M_keepDraft_111 n
    show PT h (f_M_keepDraft_111b (f_M_keepDraft_111 n) a0 a1 h)
    unfold f_M_keepDraft_111b
    repeat' (first
      | exact PT.ret (by assumption)
      | exact PT.tail (by assumption) (ih _ _ _)
      | refine PT.grd ?_
      | (refine PT.op (by assumption) (fun _ e => mkn_tb (by first | exact trivial | exact fun _ _ => rfl) e) ?_; intro _ _)
      | (refine PT.op (by assumption) (fun _ e => pV_tb e) ?_; intro _ _)
      | (refine PT.op (by assumption) (fun _ e => sI_tb e) ?_; intro _ _)
      | (refine PT.op (by assumption) (fun _ e => sR_tb e) ?_; intro _ _)
      | (refine PT.op (by assumption) (fun _ e => tb_Reader_new e) ?_; intro _ _)
      | (refine PT.op (by assumption) (fun _ e => tb_Sightings_new e) ?_; intro _ _)
      | (refine PT.op (by assumption) (fun _ e => tb_Realm_new e) ?_; intro _ _)
      | (refine PT.op (by assumption) (fun _ e => tb_Planner_new e) ?_; intro _ _)
      | (refine PT.op (by assumption) (fun _ e => tb_Tables_new e) ?_; intro _ _)
      | (refine PT.op (by assumption) (fun _ e => tb_Odds_new e) ?_; intro _ _)
      | (refine PT.op (by assumption) (fun _ e => tb_Sheet_new e) ?_; intro _ _)
      | (refine PT.op (by assumption) (fun _ e => tb_Q_new e) ?_; intro _ _)
      | (refine PT.op (by assumption) (fun _ e => tb_M_firstDraft e) ?_; intro _ _)
      | (refine PT.bdp ?_; intro _)
      | split)
theorem tb_M_keepDraft_59 : ∀ (n : Nat) (a0 : Nat) (a1 : Int32) (h : mH), PT h (f_M_keepDraft_59 n a0 a1 h)
  | 0, _, _, _ => PT.no
  | n + 1, a0, a1, h => by
    have t0 := TB.rf h
    have ih := tb_M_keepDraft_59 n
    show PT h (f_M_keepDraft_59b (f_M_keepDraft_59 n) a0 a1 h)
    unfold f_M_keepDraft_59b
    repeat' (first
      | exact PT.ret (by assumption)
      | exact PT.tail (by assumption) (ih _ _ _)
      | exact PT.tail (by assumption) (tb_M_keepDraft_111 _ _ _ _)
      | refine PT.grd ?_
      | (refine PT.op (by assumption) (fun _ e => mkn_tb (by first | exact trivial | exact fun _ _ => rfl) e) ?_; intro _ _)
      | (refine PT.op (by assumption) (fun _ e => pV_tb e) ?_; intro _ _)
      | (refine PT.op (by assumption) (fun _ e => sI_tb e) ?_; intro _ _)
      | (refine PT.op (by assumption) (fun _ e => sR_tb e) ?_; intro _ _)
      | (refine PT.op (by assumption) (fun _ e => tb_Reader_new e) ?_; intro _ _)
      | (refine PT.op (by assumption) (fun _ e => tb_Sightings_new e) ?_; intro _ _)
      | (refine PT.op (by assumption) (fun _ e => tb_Realm_new e) ?_; intro _ _)
      | (refine PT.op (by assumption) (fun _ e => tb_Planner_new e) ?_; intro _ _)
      | (refine PT.op (by assumption) (fun _ e => tb_Tables_new e) ?_; intro _ _)
      | (refine PT.op (by assumption) (fun _ e => tb_Odds_new e) ?_; intro _ _)
      | (refine PT.op (by assumption) (fun _ e => tb_Sheet_new e) ?_; intro _ _)
      | (refine PT.op (by assumption) (fun _ e => tb_Q_new e) ?_; intro _ _)
      | (refine PT.op (by assumption) (fun _ e => tb_M_firstDraft e) ?_; intro _ _)
      | (refine PT.bdp ?_; intro _)
      | split)
theorem tb_M_keepDraft_2 : ∀ (n : Nat) (a0 : Nat) (a1 : Int32) (h : mH), PT h (f_M_keepDraft_2 n a0 a1 h)
  | 0, _, _, _ => PT.no
  | n + 1, a0, a1, h => by
    have t0 := TB.rf h
    have ih := tb_M_keepDraft_2 n
    show PT h (f_M_keepDraft_2b (f_M_keepDraft_2 n) a0 a1 h)
    unfold f_M_keepDraft_2b
    repeat' (first
      | exact PT.ret (by assumption)
      | exact PT.tail (by assumption) (ih _ _ _)
      | exact PT.tail (by assumption) (tb_M_keepDraft_59 _ _ _ _)
      | refine PT.grd ?_
      | (refine PT.op (by assumption) (fun _ e => mkn_tb (by first | exact trivial | exact fun _ _ => rfl) e) ?_; intro _ _)
      | (refine PT.op (by assumption) (fun _ e => pV_tb e) ?_; intro _ _)
      | (refine PT.op (by assumption) (fun _ e => sI_tb e) ?_; intro _ _)
      | (refine PT.op (by assumption) (fun _ e => sR_tb e) ?_; intro _ _)
      | (refine PT.op (by assumption) (fun _ e => tb_Reader_new e) ?_; intro _ _)
      | (refine PT.op (by assumption) (fun _ e => tb_Sightings_new e) ?_; intro _ _)
      | (refine PT.op (by assumption) (fun _ e => tb_Realm_new e) ?_; intro _ _)
      | (refine PT.op (by assumption) (fun _ e => tb_Planner_new e) ?_; intro _ _)
      | (refine PT.op (by assumption) (fun _ e => tb_Tables_new e) ?_; intro _ _)
      | (refine PT.op (by assumption) (fun _ e => tb_Odds_new e) ?_; intro _ _)
      | (refine PT.op (by assumption) (fun _ e => tb_Sheet_new e) ?_; intro _ _)
      | (refine PT.op (by assumption) (fun _ e => tb_Q_new e) ?_; intro _ _)
      | (refine PT.op (by assumption) (fun _ e => tb_M_firstDraft e) ?_; intro _ _)
      | (refine PT.bdp ?_; intro _)
      | split)
theorem tb_M_keepDraft {a : Nat} {h h' : mH} (e : f_M_keepDraft a h = some h') : TB h h' := by
  have t0 := TB.rf h
  refine (?_ : PT h (f_M_keepDraft a h)) h' e
  unfold f_M_keepDraft f_M_keepDraft_0
  repeat' (first
    | exact PT.ret (by assumption)
    | exact PT.tail (by assumption) (tb_M_keepDraft_2 _ _ _ _)
    | refine PT.grd ?_
    | (refine PT.op (by assumption) (fun _ e => mkn_tb (by first | exact trivial | exact fun _ _ => rfl) e) ?_; intro _ _)
    | (refine PT.op (by assumption) (fun _ e => pV_tb e) ?_; intro _ _)
    | (refine PT.op (by assumption) (fun _ e => sI_tb e) ?_; intro _ _)
    | (refine PT.op (by assumption) (fun _ e => sR_tb e) ?_; intro _ _)
    | (refine PT.op (by assumption) (fun _ e => tb_Reader_new e) ?_; intro _ _)
    | (refine PT.op (by assumption) (fun _ e => tb_Sightings_new e) ?_; intro _ _)
    | (refine PT.op (by assumption) (fun _ e => tb_Realm_new e) ?_; intro _ _)
    | (refine PT.op (by assumption) (fun _ e => tb_Planner_new e) ?_; intro _ _)
    | (refine PT.op (by assumption) (fun _ e => tb_Tables_new e) ?_; intro _ _)
    | (refine PT.op (by assumption) (fun _ e => tb_Odds_new e) ?_; intro _ _)
    | (refine PT.op (by assumption) (fun _ e => tb_Sheet_new e) ?_; intro _ _)
    | (refine PT.op (by assumption) (fun _ e => tb_Q_new e) ?_; intro _ _)
    | (refine PT.op (by assumption) (fun _ e => tb_M_firstDraft e) ?_; intro _ _)
    | (refine PT.bdp ?_; intro _)
    | split)
theorem tb_M_new_196 : ∀ (n : Nat) (a0 : Nat) (a1 : Int32) (h : mH), PT h (f_M_new_196 n a0 a1 h)
  | 0, _, _, _ => PT.no
  | n + 1, a0, a1, h => by
    have t0 := TB.rf h
    have ih := tb_M_new_196 n
    show PT h (f_M_new_196b (f_M_new_196 n) a0 a1 h)
    unfold f_M_new_196b
    repeat' (first
      | exact PT.ret (by assumption)
      | exact PT.tail (by assumption) (ih _ _ _)
      | refine PT.grd ?_
      | (refine PT.op (by assumption) (fun _ e => mkn_tb (by first | exact trivial | exact fun _ _ => rfl) e) ?_; intro _ _)
      | (refine PT.op (by assumption) (fun _ e => pV_tb e) ?_; intro _ _)
      | (refine PT.op (by assumption) (fun _ e => sI_tb e) ?_; intro _ _)
      | (refine PT.op (by assumption) (fun _ e => sR_tb e) ?_; intro _ _)
      | (refine PT.op (by assumption) (fun _ e => tb_Reader_new e) ?_; intro _ _)
      | (refine PT.op (by assumption) (fun _ e => tb_Sightings_new e) ?_; intro _ _)
      | (refine PT.op (by assumption) (fun _ e => tb_Realm_new e) ?_; intro _ _)
      | (refine PT.op (by assumption) (fun _ e => tb_Planner_new e) ?_; intro _ _)
      | (refine PT.op (by assumption) (fun _ e => tb_Tables_new e) ?_; intro _ _)
      | (refine PT.op (by assumption) (fun _ e => tb_Odds_new e) ?_; intro _ _)
      | (refine PT.op (by assumption) (fun _ e => tb_Sheet_new e) ?_; intro _ _)
      | (refine PT.op (by assumption) (fun _ e => tb_Q_new e) ?_; intro _ _)
      | (refine PT.op (by assumption) (fun _ e => tb_M_firstDraft e) ?_; intro _ _)
      | (refine PT.op (by assumption) (fun _ e => tb_M_keepDraft e) ?_; intro _ _)
      | (refine PT.bdp ?_; intro _)
      | split)
theorem tb_M_new {a : Nat} {h h' : mH} (e : f_M_new a h = some h') : TB h h' := by
  have t0 := TB.rf h
  refine (?_ : PT h (f_M_new a h)) h' e
  unfold f_M_new f_M_new_0
  repeat' (first
    | exact PT.ret (by assumption)
    | exact PT.tail (by assumption) (tb_M_new_196 _ _ _ _)
    | refine PT.grd ?_
    | (refine PT.op (by assumption) (fun _ e => mkn_tb (by first | exact trivial | exact fun _ _ => rfl) e) ?_; intro _ _)
    | (refine PT.op (by assumption) (fun _ e => pV_tb e) ?_; intro _ _)
    | (refine PT.op (by assumption) (fun _ e => sI_tb e) ?_; intro _ _)
    | (refine PT.op (by assumption) (fun _ e => sR_tb e) ?_; intro _ _)
    | (refine PT.op (by assumption) (fun _ e => tb_Reader_new e) ?_; intro _ _)
    | (refine PT.op (by assumption) (fun _ e => tb_Sightings_new e) ?_; intro _ _)
    | (refine PT.op (by assumption) (fun _ e => tb_Realm_new e) ?_; intro _ _)
    | (refine PT.op (by assumption) (fun _ e => tb_Planner_new e) ?_; intro _ _)
    | (refine PT.op (by assumption) (fun _ e => tb_Tables_new e) ?_; intro _ _)
    | (refine PT.op (by assumption) (fun _ e => tb_Odds_new e) ?_; intro _ _)
    | (refine PT.op (by assumption) (fun _ e => tb_Sheet_new e) ?_; intro _ _)
    | (refine PT.op (by assumption) (fun _ e => tb_Q_new e) ?_; intro _ _)
    | (refine PT.op (by assumption) (fun _ e => tb_M_firstDraft e) ?_; intro _ _)
    | (refine PT.op (by assumption) (fun _ e => tb_M_keepDraft e) ?_; intro _ _)
    | (refine PT.bdp ?_; intro _)
    | split)
/-- the same functions, with numbers evaluated as they come (for the kernel) -/
def frc {α : Type} (n : Nat) (f : Nat → α) : α := match n with
  | 0 => f 0
  | m + 1 => f (m + 1)
theorem frc_eq {α : Type} (n : Nat) (f : Nat → α) : frc n f = f n := by cases n <;> rfl
def vu2 {α : Type} (f : Nat → α) (k : Nat) (v : α) : Nat → α := fun j => bif Nat.beq j k then v else f j
theorem vu2_eq {α : Type} (f : Nat → α) (k : Nat) (v : α) : vu2 f k v = va_up f k v := by
  funext j
  unfold vu2 va_up
  by_cases h : j = k
  · subst h; simp
  · have : Nat.beq j k = false := Bool.eq_false_iff.mpr (fun z => h (Nat.eq_of_beq_eq_true z))
    rw [this, if_neg h]; rfl
def up3 (f : Nat → Int32) (k : Nat) (v : Int32) : Nat → Int32 := fun j => bif Nat.beq j k then v else f j
theorem up3_eq (f : Nat → Int32) (k : Nat) (v : Int32) : up3 f k v = upd f k v := by
  funext j
  unfold up3 upd
  by_cases h : j = k
  · subst h; simp
  · have : Nat.beq j k = false := Bool.eq_false_iff.mpr (fun z => h (Nat.eq_of_beq_eq_true z))
    rw [this]; simp [h]
def mkn2 (h : mH) (sl : Nat) (c : mCell) : Option mH := if h.1 < 1000 then frc h.1 fun p => frc (p + 1) fun n => frc (h.2.1 + sl) fun s => some (n, s, vu2 h.2.2 p c) else none
theorem mkn2_eq : mkn2 = mkn := by funext h sl c; unfold mkn2 mkn; simp only [frc_eq, vu2_eq, up3_eq]; rfl
def pV2 (h : mH) (o ci k : Nat) (v : Value) : Option mH := match h.2.2 o with
  | .inr (c, fs) => if c = ci ∧ k < fs.length then frc h.1 fun n => frc h.2.1 fun s => frc o fun p => some (n, s, vu2 h.2.2 p (.inr (c, fs.set k v))) else none
  | .inl _ => none
theorem pV2_eq : pV2 = pV := by funext h o ci k v; unfold pV2 pV; simp only [frc_eq, vu2_eq, up3_eq]; rfl
def sI2 (h : mH) (t o : Nat) (i x : Int32) : Option mH := match h.2.2 o with
  | .inl (t', n, .inl f) => if t' = t ∧ ¬ (i < 0 ∨ n ≤ i.toNatClampNeg) then frc h.1 fun m => frc h.2.1 fun s => frc o fun p => frc i.toNatClampNeg fun j => some (m, s, vu2 h.2.2 p (.inl (t, n, .inl (up3 f j x)))) else none
  | _ => none
theorem sI2_eq : sI2 = sI := by funext h t o i x; unfold sI2 sI; simp only [frc_eq, vu2_eq, up3_eq]; rfl
def sR2 (h : mH) (t o ci : Nat) (i : Int32) (v : Nat) : Option mH := match h.2.2 o, h.2.2 v with
  | .inl (t', n, .inr (.inr (.inr (.inr f)))), .inr (c, _ :: _) => if t' = t ∧ c = ci ∧ ¬ (i < 0 ∨ n ≤ i.toNatClampNeg) then frc h.1 fun m => frc h.2.1 fun s => frc o fun p => frc i.toNatClampNeg fun j => frc v fun q => some (m, s, vu2 h.2.2 p (.inl (t, n, .inr (.inr (.inr (.inr (vu2 f j (some q)))))))) else none
  | _, _ => none
theorem sR2_eq : sR2 = sR := by funext h t o ci i v; unfold sR2 sR; simp only [frc_eq, vu2_eq, up3_eq]; rfl
def incI {α : Type} (x : Int32) (f : Int32 → α) : α := frc (x + 1).toBitVec.toNat fun n => f (Int32.ofNat n)
theorem incI_eq {α : Type} : @incI α = fun x f => f (x + 1) := by
  funext x f
  unfold incI
  rw [frc_eq]
  congr 1
  apply Int32.toBitVec_inj.mp
  show BitVec.ofNat 32 (x + 1).toBitVec.toNat = (x + 1).toBitVec
  rw [BitVec.ofNat_toNat, BitVec.setWidth_eq]
def g_M_firstDraft_23b (rec23 : Nat → Int32 → mH → Option mH) (b0 : Nat) (b1 : Int32) (h : mH) : Option mH :=
  if (5 : Int32) ≤ b1 then
    bd1 (pV2 h b0 8 10 (.int (0 : Int32))) fun h6 =>
    bd1 (pV2 h6 b0 8 11 (.int (0 : Int32))) fun h8 =>
    bd1 (pV2 h8 b0 8 17 (.int ((-4) : Int32))) fun h10 =>
    bd1 (pV2 h10 b0 8 18 (.int ((-4) : Int32))) fun h12 =>
    some h12
  else
    bd1 (gR h b0 8 9) fun x14 =>
    bd1 (sI2 h 0 x14 ((5 : Int32) + b1) ((-4) : Int32)) fun h16 =>
    incI b1 fun bb => rec23 b0 bb h16
theorem g_M_firstDraft_23b_eq : @g_M_firstDraft_23b = @f_M_firstDraft_23b := by
  unfold g_M_firstDraft_23b f_M_firstDraft_23b; rw [pV2_eq, sI2_eq, incI_eq]
def g_M_firstDraft_23  : Nat → Nat → Int32 → mH → Option mH
  | 0 => fun _ _ _ => none
  | n + 1 => g_M_firstDraft_23b  (g_M_firstDraft_23  n)
theorem g_M_firstDraft_23_eq : @g_M_firstDraft_23 = @f_M_firstDraft_23 := by
  funext n
  induction n with
  | zero => rfl
  | succ n ih => show g_M_firstDraft_23b (g_M_firstDraft_23 n) = f_M_firstDraft_23b (f_M_firstDraft_23 n); rw [ih, g_M_firstDraft_23b_eq]
def g_M_firstDraft_2b (rec2 : Nat → Int32 → mH → Option mH) (b0 : Nat) (b1 : Int32) (h : mH) : Option mH :=
  if (66 : Int32) ≤ b1 then
    g_M_firstDraft_23  FU b0 (0 : Int32) h
  else
    bd1 (gR h b0 8 9) fun x1 =>
    bd1 (sI2 h 0 x1 b1 (0 : Int32)) fun h3 =>
    incI b1 fun bb => rec2 b0 bb h3
theorem g_M_firstDraft_2b_eq : @g_M_firstDraft_2b = @f_M_firstDraft_2b := by
  unfold g_M_firstDraft_2b f_M_firstDraft_2b; rw [g_M_firstDraft_23_eq, sI2_eq, incI_eq]
def g_M_firstDraft_2  : Nat → Nat → Int32 → mH → Option mH
  | 0 => fun _ _ _ => none
  | n + 1 => g_M_firstDraft_2b  (g_M_firstDraft_2  n)
theorem g_M_firstDraft_2_eq : @g_M_firstDraft_2 = @f_M_firstDraft_2 := by
  funext n
  induction n with
  | zero => rfl
  | succ n ih => show g_M_firstDraft_2b (g_M_firstDraft_2 n) = f_M_firstDraft_2b (f_M_firstDraft_2 n); rw [ih, g_M_firstDraft_2b_eq]
def g_M_firstDraft_0  (a0 : Nat) (h : mH) : Option mH :=
  g_M_firstDraft_2  FU a0 (0 : Int32) h
theorem g_M_firstDraft_0_eq : @g_M_firstDraft_0 = @f_M_firstDraft_0 := by
  unfold g_M_firstDraft_0 f_M_firstDraft_0; rw [g_M_firstDraft_2_eq]
def g_M_firstDraft (a0 : Nat) (h : mH) : Option mH := g_M_firstDraft_0 a0 h
theorem g_M_firstDraft_eq : @g_M_firstDraft = @f_M_firstDraft := by
  unfold g_M_firstDraft f_M_firstDraft; rw [g_M_firstDraft_0_eq]
def g_M_keepDraft_111b (rec111 : Nat → Int32 → mH → Option mH) (b0 : Nat) (b1 : Int32) (h : mH) : Option mH :=
  bd1 (gI h b0 8 3) fun x51 =>
  if x51 ≤ b1 then
    bd1 (gR h b0 8 1) fun x53 =>
    bd1 (sI2 h 2 x53 (0 : Int32) (vp_nar .boolean (0 : Int32))) fun h55 =>
    bd1 (gR h55 b0 8 1) fun x57 =>
    bd1 (sI2 h55 2 x57 (1 : Int32) (vp_nar .boolean (0 : Int32))) fun h59 =>
    some h59
  else
    bd1 (gR h b0 8 7) fun x61 =>
    bd1 (gR h b0 8 15) fun x63 =>
    bd1 (aI h 0 x63 b1) fun x65 =>
    bd1 (sI2 h 0 x61 b1 x65) fun h67 =>
    bd1 (gR h67 b0 8 8) fun x69 =>
    bd1 (gR h67 b0 8 16) fun x71 =>
    bd1 (aI h67 0 x71 b1) fun x73 =>
    bd1 (sI2 h67 0 x69 b1 x73) fun h75 =>
    incI b1 fun bb => rec111 b0 bb h75
theorem g_M_keepDraft_111b_eq : @g_M_keepDraft_111b = @f_M_keepDraft_111b := by
  unfold g_M_keepDraft_111b f_M_keepDraft_111b; rw [sI2_eq, incI_eq]
def g_M_keepDraft_111  : Nat → Nat → Int32 → mH → Option mH
  | 0 => fun _ _ _ => none
  | n + 1 => g_M_keepDraft_111b  (g_M_keepDraft_111  n)
theorem g_M_keepDraft_111_eq : @g_M_keepDraft_111 = @f_M_keepDraft_111 := by
  funext n
  induction n with
  | zero => rfl
  | succ n ih => show g_M_keepDraft_111b (g_M_keepDraft_111 n) = f_M_keepDraft_111b (f_M_keepDraft_111 n); rw [ih, g_M_keepDraft_111b_eq]
def g_M_keepDraft_59b (rec59 : Nat → Int32 → mH → Option mH) (b0 : Nat) (b1 : Int32) (h : mH) : Option mH :=
  bd1 (gI h b0 8 2) fun x24 =>
  if x24 ≤ b1 then
    g_M_keepDraft_111  FU b0 (0 : Int32) h
  else
    bd1 (gR h b0 8 4) fun x26 =>
    bd1 (gR h b0 8 12) fun x28 =>
    bd1 (aI h 0 x28 b1) fun x30 =>
    bd1 (sI2 h 0 x26 b1 x30) fun h32 =>
    bd1 (gR h32 b0 8 5) fun x34 =>
    bd1 (gR h32 b0 8 13) fun x36 =>
    bd1 (aI h32 0 x36 b1) fun x38 =>
    bd1 (sI2 h32 0 x34 b1 x38) fun h40 =>
    bd1 (gR h40 b0 8 6) fun x42 =>
    bd1 (gR h40 b0 8 14) fun x44 =>
    bd1 (aI h40 0 x44 b1) fun x46 =>
    bd1 (sI2 h40 0 x42 b1 x46) fun h48 =>
    incI b1 fun bb => rec59 b0 bb h48
theorem g_M_keepDraft_59b_eq : @g_M_keepDraft_59b = @f_M_keepDraft_59b := by
  unfold g_M_keepDraft_59b f_M_keepDraft_59b; rw [g_M_keepDraft_111_eq, sI2_eq, incI_eq]
def g_M_keepDraft_59  : Nat → Nat → Int32 → mH → Option mH
  | 0 => fun _ _ _ => none
  | n + 1 => g_M_keepDraft_59b  (g_M_keepDraft_59  n)
theorem g_M_keepDraft_59_eq : @g_M_keepDraft_59 = @f_M_keepDraft_59 := by
  funext n
  induction n with
  | zero => rfl
  | succ n ih => show g_M_keepDraft_59b (g_M_keepDraft_59 n) = f_M_keepDraft_59b (f_M_keepDraft_59 n); rw [ih, g_M_keepDraft_59b_eq]
def g_M_keepDraft_2b (rec2 : Nat → Int32 → mH → Option mH) (b0 : Nat) (b1 : Int32) (h : mH) : Option mH :=
  if (66 : Int32) ≤ b1 then
    bd1 (gI h b0 8 10) fun x1 =>
    bd1 (pV2 h b0 8 2 (.int x1)) fun h3 =>
    bd1 (gI h3 b0 8 11) fun x5 =>
    bd1 (pV2 h3 b0 8 3 (.int x5)) fun h7 =>
    bd1 (gR h7 b0 8 0) fun x9 =>
    bd1 (gI h7 b0 8 2) fun x11 =>
    bd1 (sI2 h7 0 x9 (10 : Int32) (((1 : Int32) <<< (x11 &&& 31)) - (1 : Int32))) fun h13 =>
    g_M_keepDraft_59  FU b0 (0 : Int32) h13
  else
    bd1 (gR h b0 8 0) fun x15 =>
    bd1 (gR h b0 8 9) fun x17 =>
    bd1 (aI h 0 x17 b1) fun x19 =>
    bd1 (sI2 h 0 x15 b1 x19) fun h21 =>
    incI b1 fun bb => rec2 b0 bb h21
theorem g_M_keepDraft_2b_eq : @g_M_keepDraft_2b = @f_M_keepDraft_2b := by
  unfold g_M_keepDraft_2b f_M_keepDraft_2b; rw [g_M_keepDraft_59_eq, pV2_eq, sI2_eq, incI_eq]
def g_M_keepDraft_2  : Nat → Nat → Int32 → mH → Option mH
  | 0 => fun _ _ _ => none
  | n + 1 => g_M_keepDraft_2b  (g_M_keepDraft_2  n)
theorem g_M_keepDraft_2_eq : @g_M_keepDraft_2 = @f_M_keepDraft_2 := by
  funext n
  induction n with
  | zero => rfl
  | succ n ih => show g_M_keepDraft_2b (g_M_keepDraft_2 n) = f_M_keepDraft_2b (f_M_keepDraft_2 n); rw [ih, g_M_keepDraft_2b_eq]
def g_M_keepDraft_0  (a0 : Nat) (h : mH) : Option mH :=
  g_M_keepDraft_2  FU a0 (0 : Int32) h
theorem g_M_keepDraft_0_eq : @g_M_keepDraft_0 = @f_M_keepDraft_0 := by
  unfold g_M_keepDraft_0 f_M_keepDraft_0; rw [g_M_keepDraft_2_eq]
def g_M_keepDraft (a0 : Nat) (h : mH) : Option mH := g_M_keepDraft_0 a0 h
theorem g_M_keepDraft_eq : @g_M_keepDraft = @f_M_keepDraft := by
  unfold g_M_keepDraft f_M_keepDraft; rw [g_M_keepDraft_0_eq]
def g_Reader_new_0  (a0 : Nat) (h : mH) : Option mH :=
  grd (¬ a0 = h.1) <|
  bd1 (mkn2 h 160 (.inl (1, (160, .inl (fun _ => 0))))) fun h2 =>
  grd (h.1 < h2.1) <|
  bd1 (pV2 h2 a0 3 0 (.ref h.1)) fun h6 =>
  some h6
theorem g_Reader_new_0_eq : @g_Reader_new_0 = @f_Reader_new_0 := by
  unfold g_Reader_new_0 f_Reader_new_0; rw [mkn2_eq, pV2_eq]
def g_Reader_new (a0 : Nat) (h : mH) : Option mH := g_Reader_new_0 a0 h
theorem g_Reader_new_eq : @g_Reader_new = @f_Reader_new := by
  unfold g_Reader_new f_Reader_new; rw [g_Reader_new_0_eq]
def g_Sightings_new_0  (a0 : Nat) (h : mH) : Option mH :=
  grd (¬ a0 = h.1) <|
  bd1 (mkn2 h 8 (.inl (0, (8, .inl (fun _ => 0))))) fun h2 =>
  grd (h.1 < h2.1) <|
  bd1 (pV2 h2 a0 6 1 (.ref h.1)) fun h6 =>
  grd (¬ a0 = h6.1) <|
  bd1 (mkn2 h6 8 (.inl (0, (8, .inl (fun _ => 0))))) fun h10 =>
  grd (h6.1 < h10.1) <|
  bd1 (pV2 h10 a0 6 2 (.ref h6.1)) fun h14 =>
  grd (¬ a0 = h14.1) <|
  bd1 (mkn2 h14 8 (.inl (0, (8, .inl (fun _ => 0))))) fun h18 =>
  grd (h14.1 < h18.1) <|
  bd1 (pV2 h18 a0 6 3 (.ref h14.1)) fun h22 =>
  some h22
theorem g_Sightings_new_0_eq : @g_Sightings_new_0 = @f_Sightings_new_0 := by
  unfold g_Sightings_new_0 f_Sightings_new_0; rw [mkn2_eq, pV2_eq]
def g_Sightings_new (a0 : Nat) (h : mH) : Option mH := g_Sightings_new_0 a0 h
theorem g_Sightings_new_eq : @g_Sightings_new = @f_Sightings_new := by
  unfold g_Sightings_new f_Sightings_new; rw [g_Sightings_new_0_eq]
def g_Realm_new_0  (a0 : Nat) (h : mH) : Option mH :=
  grd (¬ a0 = h.1) <|
  bd1 (mkn2 h 5 (.inl (0, (5, .inl (fun _ => 0))))) fun h2 =>
  grd (h.1 < h2.1) <|
  bd1 (pV2 h2 a0 4 6 (.ref h.1)) fun h6 =>
  grd (¬ a0 = h6.1) <|
  bd1 (mkn2 h6 5 (.inl (0, (5, .inl (fun _ => 0))))) fun h10 =>
  grd (h6.1 < h10.1) <|
  bd1 (pV2 h10 a0 4 7 (.ref h6.1)) fun h14 =>
  grd (¬ a0 = h14.1) <|
  bd1 (mkn2 h14 5 (.inl (0, (5, .inl (fun _ => 0))))) fun h18 =>
  grd (h14.1 < h18.1) <|
  bd1 (pV2 h18 a0 4 8 (.ref h14.1)) fun h22 =>
  grd (¬ a0 = h22.1) <|
  bd1 (mkn2 h22 5 (.inl (0, (5, .inl (fun _ => 0))))) fun h26 =>
  grd (h22.1 < h26.1) <|
  bd1 (pV2 h26 a0 4 9 (.ref h22.1)) fun h30 =>
  grd (¬ a0 = h30.1) <|
  bd1 (mkn2 h30 5 (.inl (0, (5, .inl (fun _ => 0))))) fun h34 =>
  grd (h30.1 < h34.1) <|
  bd1 (pV2 h34 a0 4 10 (.ref h30.1)) fun h38 =>
  grd (¬ a0 = h38.1) <|
  bd1 (mkn2 h38 3 (.inl (0, (3, .inl (fun _ => 0))))) fun h42 =>
  grd (h38.1 < h42.1) <|
  bd1 (pV2 h42 a0 4 11 (.ref h38.1)) fun h46 =>
  grd (¬ a0 = h46.1) <|
  bd1 (mkn2 h46 3 (.inl (0, (3, .inl (fun _ => 0))))) fun h50 =>
  grd (h46.1 < h50.1) <|
  bd1 (pV2 h50 a0 4 12 (.ref h46.1)) fun h54 =>
  grd (¬ a0 = h54.1) <|
  bd1 (mkn2 h54 3 (.inl (0, (3, .inl (fun _ => 0))))) fun h58 =>
  grd (h54.1 < h58.1) <|
  bd1 (pV2 h58 a0 4 13 (.ref h54.1)) fun h62 =>
  grd (¬ a0 = h62.1) <|
  bd1 (mkn2 h62 3 (.inl (0, (3, .inl (fun _ => 0))))) fun h66 =>
  grd (h62.1 < h66.1) <|
  bd1 (pV2 h66 a0 4 14 (.ref h62.1)) fun h70 =>
  grd (¬ a0 = h70.1) <|
  bd1 (mkn2 h70 3 (.inl (0, (3, .inl (fun _ => 0))))) fun h74 =>
  grd (h70.1 < h74.1) <|
  bd1 (pV2 h74 a0 4 15 (.ref h70.1)) fun h78 =>
  grd (¬ a0 = h78.1) <|
  bd1 (mkn2 h78 3 (.inl (0, (3, .inl (fun _ => 0))))) fun h82 =>
  grd (h78.1 < h82.1) <|
  bd1 (pV2 h82 a0 4 16 (.ref h78.1)) fun h86 =>
  grd (¬ a0 = h86.1) <|
  bd1 (mkn2 h86 15 (.inl (0, (15, .inl (fun _ => 0))))) fun h90 =>
  grd (h86.1 < h90.1) <|
  bd1 (pV2 h90 a0 4 17 (.ref h86.1)) fun h94 =>
  grd (¬ a0 = h94.1) <|
  bd1 (mkn2 h94 4 (.inr (6, [.int 0, .null, .null, .null]))) fun h98 =>
  grd (a0 < h98.1 ∧ h94.1 < h98.1) <|
  bd1 (g_Sightings_new h94.1 h98) fun h104 =>
  grd (h94.1 < h104.1) <|
  bd1 (pV2 h104 a0 4 18 (.ref h94.1)) fun h106 =>
  some h106
theorem g_Realm_new_0_eq : @g_Realm_new_0 = @f_Realm_new_0 := by
  unfold g_Realm_new_0 f_Realm_new_0; rw [g_Sightings_new_eq, mkn2_eq, pV2_eq]
def g_Realm_new (a0 : Nat) (h : mH) : Option mH := g_Realm_new_0 a0 h
theorem g_Realm_new_eq : @g_Realm_new = @f_Realm_new := by
  unfold g_Realm_new f_Realm_new; rw [g_Realm_new_0_eq]
def g_Planner_new_0  (a0 : Nat) (h : mH) : Option mH :=
  grd (¬ a0 = h.1) <|
  bd1 (mkn2 h 3 (.inl (0, (3, .inl (fun _ => 0))))) fun h2 =>
  grd (h.1 < h2.1) <|
  bd1 (pV2 h2 a0 2 1 (.ref h.1)) fun h6 =>
  grd (¬ a0 = h6.1) <|
  bd1 (mkn2 h6 5 (.inl (0, (5, .inl (fun _ => 0))))) fun h10 =>
  grd (h6.1 < h10.1) <|
  bd1 (pV2 h10 a0 2 2 (.ref h6.1)) fun h14 =>
  grd (¬ a0 = h14.1) <|
  bd1 (mkn2 h14 6 (.inl (0, (6, .inl (fun _ => 0))))) fun h18 =>
  grd (h14.1 < h18.1) <|
  bd1 (pV2 h18 a0 2 3 (.ref h14.1)) fun h22 =>
  grd (¬ a0 = h22.1) <|
  bd1 (mkn2 h22 15 (.inl (0, (15, .inl (fun _ => 0))))) fun h26 =>
  grd (h22.1 < h26.1) <|
  bd1 (pV2 h26 a0 2 4 (.ref h22.1)) fun h30 =>
  grd (¬ a0 = h30.1) <|
  bd1 (mkn2 h30 15 (.inl (0, (15, .inl (fun _ => 0))))) fun h34 =>
  grd (h30.1 < h34.1) <|
  bd1 (pV2 h34 a0 2 5 (.ref h30.1)) fun h38 =>
  grd (¬ a0 = h38.1) <|
  bd1 (mkn2 h38 15 (.inl (0, (15, .inl (fun _ => 0))))) fun h42 =>
  grd (h38.1 < h42.1) <|
  bd1 (pV2 h42 a0 2 6 (.ref h38.1)) fun h46 =>
  grd (¬ a0 = h46.1) <|
  bd1 (mkn2 h46 216 (.inl (0, (216, .inl (fun _ => 0))))) fun h50 =>
  grd (h46.1 < h50.1) <|
  bd1 (pV2 h50 a0 2 7 (.ref h46.1)) fun h54 =>
  some h54
theorem g_Planner_new_0_eq : @g_Planner_new_0 = @f_Planner_new_0 := by
  unfold g_Planner_new_0 f_Planner_new_0; rw [mkn2_eq, pV2_eq]
def g_Planner_new (a0 : Nat) (h : mH) : Option mH := g_Planner_new_0 a0 h
theorem g_Planner_new_eq : @g_Planner_new = @f_Planner_new := by
  unfold g_Planner_new f_Planner_new; rw [g_Planner_new_0_eq]
def g_Tables_new_0  (a0 : Nat) (h : mH) : Option mH :=
  grd (¬ a0 = h.1) <|
  bd1 (mkn2 h 15 (.inl (0, (15, .inl (fun _ => 0))))) fun h2 =>
  grd (h.1 < h2.1) <|
  bd1 (pV2 h2 a0 7 1 (.ref h.1)) fun h6 =>
  grd (¬ a0 = h6.1) <|
  bd1 (mkn2 h6 15 (.inl (0, (15, .inl (fun _ => 0))))) fun h10 =>
  grd (h6.1 < h10.1) <|
  bd1 (pV2 h10 a0 7 2 (.ref h6.1)) fun h14 =>
  grd (¬ a0 = h14.1) <|
  bd1 (mkn2 h14 5 (.inl (0, (5, .inl (fun _ => 0))))) fun h18 =>
  grd (h14.1 < h18.1) <|
  bd1 (pV2 h18 a0 7 3 (.ref h14.1)) fun h22 =>
  grd (¬ a0 = h22.1) <|
  bd1 (mkn2 h22 3 (.inl (0, (3, .inl (fun _ => 0))))) fun h26 =>
  grd (h22.1 < h26.1) <|
  bd1 (pV2 h26 a0 7 4 (.ref h22.1)) fun h30 =>
  grd (¬ a0 = h30.1) <|
  bd1 (mkn2 h30 3 (.inl (0, (3, .inl (fun _ => 0))))) fun h34 =>
  grd (h30.1 < h34.1) <|
  bd1 (pV2 h34 a0 7 5 (.ref h30.1)) fun h38 =>
  grd (¬ a0 = h38.1) <|
  bd1 (mkn2 h38 18 (.inl (3, (18, .inr (.inl (fun _ => 0)))))) fun h42 =>
  grd (h38.1 < h42.1) <|
  bd1 (pV2 h42 a0 7 6 (.ref h38.1)) fun h46 =>
  grd (¬ a0 = h46.1) <|
  bd1 (mkn2 h46 216 (.inl (3, (216, .inr (.inl (fun _ => 0)))))) fun h50 =>
  grd (h46.1 < h50.1) <|
  bd1 (pV2 h50 a0 7 7 (.ref h46.1)) fun h54 =>
  some h54
theorem g_Tables_new_0_eq : @g_Tables_new_0 = @f_Tables_new_0 := by
  unfold g_Tables_new_0 f_Tables_new_0; rw [mkn2_eq, pV2_eq]
def g_Tables_new (a0 : Nat) (h : mH) : Option mH := g_Tables_new_0 a0 h
theorem g_Tables_new_eq : @g_Tables_new = @f_Tables_new := by
  unfold g_Tables_new f_Tables_new; rw [g_Tables_new_0_eq]
def g_Odds_new_0  (a0 : Nat) (h : mH) : Option mH :=
  grd (¬ a0 = h.1) <|
  bd1 (mkn2 h 10 (.inl (3, (10, .inr (.inl (fun _ => 0)))))) fun h2 =>
  grd (h.1 < h2.1) <|
  bd1 (pV2 h2 a0 1 2 (.ref h.1)) fun h6 =>
  some h6
theorem g_Odds_new_0_eq : @g_Odds_new_0 = @f_Odds_new_0 := by
  unfold g_Odds_new_0 f_Odds_new_0; rw [mkn2_eq, pV2_eq]
def g_Odds_new (a0 : Nat) (h : mH) : Option mH := g_Odds_new_0 a0 h
theorem g_Odds_new_eq : @g_Odds_new = @f_Odds_new := by
  unfold g_Odds_new f_Odds_new; rw [g_Odds_new_0_eq]
def g_Sheet_new_0  (a0 : Nat) (h : mH) : Option mH :=
  bd1 (pV2 h a0 5 0 (.int ((-4) : Int32))) fun h1 =>
  grd (¬ a0 = h1.1) <|
  bd1 (mkn2 h1 40 (.inl (0, (40, .inl (fun _ => 0))))) fun h4 =>
  grd (h1.1 < h4.1) <|
  bd1 (pV2 h4 a0 5 2 (.ref h1.1)) fun h8 =>
  some h8
theorem g_Sheet_new_0_eq : @g_Sheet_new_0 = @f_Sheet_new_0 := by
  unfold g_Sheet_new_0 f_Sheet_new_0; rw [mkn2_eq, pV2_eq]
def g_Sheet_new (a0 : Nat) (h : mH) : Option mH := g_Sheet_new_0 a0 h
theorem g_Sheet_new_eq : @g_Sheet_new = @f_Sheet_new := by
  unfold g_Sheet_new f_Sheet_new; rw [g_Sheet_new_0_eq]
def g_Q_new_121b (rec121 : Nat → Int32 → mH → Option mH) (b0 : Nat) (b1 : Int32) (h : mH) : Option mH :=
  if (4 : Int32) ≤ b1 then
    some h
  else
    bd1 (gR h b0 0 5) fun x113 =>
    grd (¬ b0 = h.1 ∧ ¬ x113 = h.1) <|
    bd1 (mkn2 h 3 (.inr (5, [.int 0, .int 0, .null]))) fun h117 =>
    grd (b0 < h117.1 ∧ h.1 < h117.1 ∧ x113 < h117.1) <|
    bd1 (g_Sheet_new h.1 h117) fun h124 =>
    bd1 (sR2 h124 5 x113 5 b1 h.1) fun h126 =>
    incI b1 fun bb => rec121 b0 bb h126
theorem g_Q_new_121b_eq : @g_Q_new_121b = @f_Q_new_121b := by
  unfold g_Q_new_121b f_Q_new_121b; rw [g_Sheet_new_eq, mkn2_eq, sR2_eq, incI_eq]
def g_Q_new_121  : Nat → Nat → Int32 → mH → Option mH
  | 0 => fun _ _ _ => none
  | n + 1 => g_Q_new_121b  (g_Q_new_121  n)
theorem g_Q_new_121_eq : @g_Q_new_121 = @f_Q_new_121 := by
  funext n
  induction n with
  | zero => rfl
  | succ n ih => show g_Q_new_121b (g_Q_new_121 n) = f_Q_new_121b (f_Q_new_121 n); rw [ih, g_Q_new_121b_eq]
def g_Q_new_95b (rec95 : Nat → Int32 → mH → Option mH) (b0 : Nat) (b1 : Int32) (h : mH) : Option mH :=
  if (2 : Int32) ≤ b1 then
    g_Q_new_121  FU b0 (0 : Int32) h
  else
    bd1 (gR h b0 0 3) fun x97 =>
    grd (¬ b0 = h.1 ∧ ¬ x97 = h.1) <|
    bd1 (mkn2 h 19 (.inr (4, [.int 0, .int 0, .int 0, .int 0, .int 0, .int 0, .null, .null, .null, .null, .null, .null, .null, .null, .null, .null, .null, .null, .null]))) fun h101 =>
    grd (b0 < h101.1 ∧ h.1 < h101.1 ∧ x97 < h101.1) <|
    bd1 (g_Realm_new h.1 h101) fun h108 =>
    bd1 (sR2 h108 4 x97 4 b1 h.1) fun h110 =>
    incI b1 fun bb => rec95 b0 bb h110
theorem g_Q_new_95b_eq : @g_Q_new_95b = @f_Q_new_95b := by
  unfold g_Q_new_95b f_Q_new_95b; rw [g_Q_new_121_eq, g_Realm_new_eq, mkn2_eq, sR2_eq, incI_eq]
def g_Q_new_95  : Nat → Nat → Int32 → mH → Option mH
  | 0 => fun _ _ _ => none
  | n + 1 => g_Q_new_95b  (g_Q_new_95  n)
theorem g_Q_new_95_eq : @g_Q_new_95 = @f_Q_new_95 := by
  funext n
  induction n with
  | zero => rfl
  | succ n ih => show g_Q_new_95b (g_Q_new_95 n) = f_Q_new_95b (f_Q_new_95 n); rw [ih, g_Q_new_95b_eq]
def g_Q_new_0  (a0 : Nat) (h : mH) : Option mH :=
  grd (¬ a0 = h.1) <|
  bd1 (mkn2 h 9 (.inr (3, [.null, .int 0, .int 0, .int 0, .int 0, .int 0, .int 0, .int 0, .int 0]))) fun h2 =>
  grd (a0 < h2.1 ∧ h.1 < h2.1) <|
  bd1 (g_Reader_new h.1 h2) fun h8 =>
  grd (h.1 < h8.1) <|
  bd1 (pV2 h8 a0 0 0 (.ref h.1)) fun h10 =>
  grd (¬ a0 = h10.1) <|
  bd1 (mkn2 h10 19 (.inr (4, [.int 0, .int 0, .int 0, .int 0, .int 0, .int 0, .null, .null, .null, .null, .null, .null, .null, .null, .null, .null, .null, .null, .null]))) fun h14 =>
  grd (a0 < h14.1 ∧ h10.1 < h14.1) <|
  bd1 (g_Realm_new h10.1 h14) fun h20 =>
  grd (h10.1 < h20.1) <|
  bd1 (pV2 h20 a0 0 1 (.ref h10.1)) fun h22 =>
  grd (¬ a0 = h22.1) <|
  bd1 (mkn2 h22 19 (.inr (4, [.int 0, .int 0, .int 0, .int 0, .int 0, .int 0, .null, .null, .null, .null, .null, .null, .null, .null, .null, .null, .null, .null, .null]))) fun h26 =>
  grd (a0 < h26.1 ∧ h22.1 < h26.1) <|
  bd1 (g_Realm_new h22.1 h26) fun h32 =>
  grd (h22.1 < h32.1) <|
  bd1 (pV2 h32 a0 0 2 (.ref h22.1)) fun h34 =>
  grd (¬ a0 = h34.1) <|
  bd1 (mkn2 h34 2 (.inl (4, 2, .inr (.inr (.inr (.inr (fun _ => none))))))) fun h38 =>
  grd (h34.1 < h38.1) <|
  bd1 (pV2 h38 a0 0 3 (.ref h34.1)) fun h42 =>
  grd (¬ a0 = h42.1) <|
  bd1 (mkn2 h42 2 (.inl (2, (2, .inl (fun _ => 0))))) fun h46 =>
  grd (h42.1 < h46.1) <|
  bd1 (pV2 h46 a0 0 4 (.ref h42.1)) fun h50 =>
  grd (¬ a0 = h50.1) <|
  bd1 (mkn2 h50 4 (.inl (5, 4, .inr (.inr (.inr (.inr (fun _ => none))))))) fun h54 =>
  grd (h50.1 < h54.1) <|
  bd1 (pV2 h54 a0 0 5 (.ref h50.1)) fun h58 =>
  grd (¬ a0 = h58.1) <|
  bd1 (mkn2 h58 8 (.inr (2, [.int 0, .null, .null, .null, .null, .null, .null, .null]))) fun h62 =>
  grd (a0 < h62.1 ∧ h58.1 < h62.1) <|
  bd1 (g_Planner_new h58.1 h62) fun h68 =>
  grd (h58.1 < h68.1) <|
  bd1 (pV2 h68 a0 0 6 (.ref h58.1)) fun h70 =>
  grd (¬ a0 = h70.1) <|
  bd1 (mkn2 h70 8 (.inr (7, [.int 0, .null, .null, .null, .null, .null, .null, .null]))) fun h74 =>
  grd (a0 < h74.1 ∧ h70.1 < h74.1) <|
  bd1 (g_Tables_new h70.1 h74) fun h80 =>
  grd (h70.1 < h80.1) <|
  bd1 (pV2 h80 a0 0 7 (.ref h70.1)) fun h82 =>
  grd (¬ a0 = h82.1) <|
  bd1 (mkn2 h82 3 (.inr (1, [.long 0, .long 0, .null]))) fun h86 =>
  grd (a0 < h86.1 ∧ h82.1 < h86.1) <|
  bd1 (g_Odds_new h82.1 h86) fun h92 =>
  grd (h82.1 < h92.1) <|
  bd1 (pV2 h92 a0 0 8 (.ref h82.1)) fun h94 =>
  g_Q_new_95  FU a0 (0 : Int32) h94
theorem g_Q_new_0_eq : @g_Q_new_0 = @f_Q_new_0 := by
  unfold g_Q_new_0 f_Q_new_0; rw [g_Reader_new_eq, g_Realm_new_eq, g_Planner_new_eq, g_Tables_new_eq, g_Odds_new_eq, g_Q_new_95_eq, mkn2_eq, pV2_eq]
def g_Q_new (a0 : Nat) (h : mH) : Option mH := g_Q_new_0 a0 h
theorem g_Q_new_eq : @g_Q_new = @f_Q_new := by
  unfold g_Q_new f_Q_new; rw [g_Q_new_0_eq]
def g_M_new_196b (rec196 : Nat → Int32 → mH → Option mH) (b0 : Nat) (b1 : Int32) (h : mH) : Option mH :=
  if (4 : Int32) ≤ b1 then
    bd1 (kC h b0 8) fun _ =>
    bd1 (g_M_firstDraft b0 h) fun h203 =>
    bd1 (kC h203 b0 8) fun _ =>
    bd1 (g_M_keepDraft b0 h203) fun h207 =>
    some h207
  else
    bd1 (gR h b0 8 35) fun x209 =>
    bd1 (sI2 h 0 x209 b1 ((-4) : Int32)) fun h211 =>
    incI b1 fun bb => rec196 b0 bb h211
theorem g_M_new_196b_eq : @g_M_new_196b = @f_M_new_196b := by
  unfold g_M_new_196b f_M_new_196b; rw [g_M_firstDraft_eq, g_M_keepDraft_eq, sI2_eq, incI_eq]
def g_M_new_196  : Nat → Nat → Int32 → mH → Option mH
  | 0 => fun _ _ _ => none
  | n + 1 => g_M_new_196b  (g_M_new_196  n)
theorem g_M_new_196_eq : @g_M_new_196 = @f_M_new_196 := by
  funext n
  induction n with
  | zero => rfl
  | succ n ih => show g_M_new_196b (g_M_new_196 n) = f_M_new_196b (f_M_new_196 n); rw [ih, g_M_new_196b_eq]
def g_M_new_0  (a0 : Nat) (h : mH) : Option mH :=
  grd (¬ a0 = h.1) <|
  bd1 (mkn2 h 198 (.inl (0, (198, .inl (fun _ => 0))))) fun h2 =>
  grd (h.1 < h2.1) <|
  bd1 (pV2 h2 a0 8 0 (.ref h.1)) fun h6 =>
  grd (¬ a0 = h6.1) <|
  bd1 (mkn2 h6 2 (.inl (2, (2, .inl (fun _ => 0))))) fun h10 =>
  grd (h6.1 < h10.1) <|
  bd1 (pV2 h10 a0 8 1 (.ref h6.1)) fun h14 =>
  grd (¬ a0 = h14.1) <|
  bd1 (mkn2 h14 5 (.inl (0, (5, .inl (fun _ => 0))))) fun h18 =>
  grd (h14.1 < h18.1) <|
  bd1 (pV2 h18 a0 8 4 (.ref h14.1)) fun h22 =>
  grd (¬ a0 = h22.1) <|
  bd1 (mkn2 h22 5 (.inl (0, (5, .inl (fun _ => 0))))) fun h26 =>
  grd (h22.1 < h26.1) <|
  bd1 (pV2 h26 a0 8 5 (.ref h22.1)) fun h30 =>
  grd (¬ a0 = h30.1) <|
  bd1 (mkn2 h30 5 (.inl (0, (5, .inl (fun _ => 0))))) fun h34 =>
  grd (h30.1 < h34.1) <|
  bd1 (pV2 h34 a0 8 6 (.ref h30.1)) fun h38 =>
  grd (¬ a0 = h38.1) <|
  bd1 (mkn2 h38 3 (.inl (0, (3, .inl (fun _ => 0))))) fun h42 =>
  grd (h38.1 < h42.1) <|
  bd1 (pV2 h42 a0 8 7 (.ref h38.1)) fun h46 =>
  grd (¬ a0 = h46.1) <|
  bd1 (mkn2 h46 3 (.inl (0, (3, .inl (fun _ => 0))))) fun h50 =>
  grd (h46.1 < h50.1) <|
  bd1 (pV2 h50 a0 8 8 (.ref h46.1)) fun h54 =>
  grd (¬ a0 = h54.1) <|
  bd1 (mkn2 h54 66 (.inl (0, (66, .inl (fun _ => 0))))) fun h58 =>
  grd (h54.1 < h58.1) <|
  bd1 (pV2 h58 a0 8 9 (.ref h54.1)) fun h62 =>
  grd (¬ a0 = h62.1) <|
  bd1 (mkn2 h62 5 (.inl (0, (5, .inl (fun _ => 0))))) fun h66 =>
  grd (h62.1 < h66.1) <|
  bd1 (pV2 h66 a0 8 12 (.ref h62.1)) fun h70 =>
  grd (¬ a0 = h70.1) <|
  bd1 (mkn2 h70 5 (.inl (0, (5, .inl (fun _ => 0))))) fun h74 =>
  grd (h70.1 < h74.1) <|
  bd1 (pV2 h74 a0 8 13 (.ref h70.1)) fun h78 =>
  grd (¬ a0 = h78.1) <|
  bd1 (mkn2 h78 5 (.inl (0, (5, .inl (fun _ => 0))))) fun h82 =>
  grd (h78.1 < h82.1) <|
  bd1 (pV2 h82 a0 8 14 (.ref h78.1)) fun h86 =>
  grd (¬ a0 = h86.1) <|
  bd1 (mkn2 h86 3 (.inl (0, (3, .inl (fun _ => 0))))) fun h90 =>
  grd (h86.1 < h90.1) <|
  bd1 (pV2 h90 a0 8 15 (.ref h86.1)) fun h94 =>
  grd (¬ a0 = h94.1) <|
  bd1 (mkn2 h94 3 (.inl (0, (3, .inl (fun _ => 0))))) fun h98 =>
  grd (h94.1 < h98.1) <|
  bd1 (pV2 h98 a0 8 16 (.ref h94.1)) fun h102 =>
  grd (¬ a0 = h102.1) <|
  bd1 (mkn2 h102 160 (.inl (0, (160, .inl (fun _ => 0))))) fun h106 =>
  grd (h102.1 < h106.1) <|
  bd1 (pV2 h106 a0 8 19 (.ref h102.1)) fun h110 =>
  grd (¬ a0 = h110.1) <|
  bd1 (mkn2 h110 24576 (.inl (0, (24576, .inl (fun _ => 0))))) fun h114 =>
  grd (h110.1 < h114.1) <|
  bd1 (pV2 h114 a0 8 27 (.ref h110.1)) fun h118 =>
  grd (¬ a0 = h118.1) <|
  bd1 (mkn2 h118 5 (.inl (0, (5, .inl (fun _ => 0))))) fun h122 =>
  grd (h118.1 < h122.1) <|
  bd1 (pV2 h122 a0 8 28 (.ref h118.1)) fun h126 =>
  grd (¬ a0 = h126.1) <|
  bd1 (mkn2 h126 3 (.inl (0, (3, .inl (fun _ => 0))))) fun h130 =>
  grd (h126.1 < h130.1) <|
  bd1 (pV2 h130 a0 8 29 (.ref h126.1)) fun h134 =>
  grd (¬ a0 = h134.1) <|
  bd1 (mkn2 h134 3 (.inl (0, (3, .inl (fun _ => 0))))) fun h138 =>
  grd (h134.1 < h138.1) <|
  bd1 (pV2 h138 a0 8 30 (.ref h134.1)) fun h142 =>
  grd (¬ a0 = h142.1) <|
  bd1 (mkn2 h142 66 (.inl (0, (66, .inl (fun _ => 0))))) fun h146 =>
  grd (h142.1 < h146.1) <|
  bd1 (pV2 h146 a0 8 31 (.ref h142.1)) fun h150 =>
  grd (¬ a0 = h150.1) <|
  bd1 (mkn2 h150 16 (.inl (3, (16, .inr (.inl (fun _ => 0)))))) fun h154 =>
  grd (h150.1 < h154.1) <|
  bd1 (pV2 h154 a0 8 32 (.ref h150.1)) fun h158 =>
  grd (¬ a0 = h158.1) <|
  bd1 (mkn2 h158 216 (.inl (3, (216, .inr (.inl (fun _ => 0)))))) fun h162 =>
  grd (h158.1 < h162.1) <|
  bd1 (pV2 h162 a0 8 33 (.ref h158.1)) fun h166 =>
  grd (¬ a0 = h166.1) <|
  bd1 (mkn2 h166 216 (.inl (3, (216, .inr (.inl (fun _ => 0)))))) fun h170 =>
  grd (h166.1 < h170.1) <|
  bd1 (pV2 h170 a0 8 34 (.ref h166.1)) fun h174 =>
  grd (¬ a0 = h174.1) <|
  bd1 (mkn2 h174 4 (.inl (0, (4, .inl (fun _ => 0))))) fun h178 =>
  grd (h174.1 < h178.1) <|
  bd1 (pV2 h178 a0 8 35 (.ref h174.1)) fun h182 =>
  grd (¬ a0 = h182.1) <|
  bd1 (mkn2 h182 4 (.inl (0, (4, .inl (fun _ => 0))))) fun h186 =>
  grd (h182.1 < h186.1) <|
  bd1 (pV2 h186 a0 8 36 (.ref h182.1)) fun h190 =>
  grd (¬ a0 = h190.1) <|
  bd1 (mkn2 h190 160 (.inl (0, (160, .inl (fun _ => 0))))) fun h194 =>
  grd (h190.1 < h194.1) <|
  bd1 (pV2 h194 a0 8 37 (.ref h190.1)) fun h198 =>
  g_M_new_196  FU a0 (0 : Int32) h198
theorem g_M_new_0_eq : @g_M_new_0 = @f_M_new_0 := by
  unfold g_M_new_0 f_M_new_0; rw [g_M_new_196_eq, mkn2_eq, pV2_eq]
def g_M_new (a0 : Nat) (h : mH) : Option mH := g_M_new_0 a0 h
theorem g_M_new_eq : @g_M_new = @f_M_new := by
  unfold g_M_new f_M_new; rw [g_M_new_0_eq]
def hA : mH := (1, 10, va_up (fun _ => dead) 0 (.inr (0, [.null, .null, .null, .null, .null, .null, .null, .null, .null, .int 0])))
def hB : mH := (g_Q_new 0 hA).getD h00
def hC : mH := (mkn2 hB 39 (.inr (8, [.null, .null, .int 0, .int 0, .null, .null, .null, .null, .null, .null, .int 0, .int 0, .null, .null, .null, .null, .null, .int 0, .int 0, .null, .int 0, .int 0, .int 0, .int 0, .int 0, .int 0, .int 0, .null, .null, .null, .null, .null, .null, .null, .null, .null, .null, .null, .int 0]))).getD h00
def hD : mH := (g_M_new 100 hC).getD h00
theorem get_of {x : Option mH} (h : x.isSome = true) : x = some (x.getD h00) := by
  cases x with
  | none => cases h
  | some a => rfl
theorem eB : f_Q_new 0 hA = some hB := by
  rw [← g_Q_new_eq]
  exact get_of (by decide +kernel)
theorem nxB : hB.1 = 100 := by decide +kernel
theorem eC : mkn hB 39 (.inr (8, [.null, .null, .int 0, .int 0, .null, .null, .null, .null, .null, .null, .int 0, .int 0, .null, .null, .null, .null, .null, .int 0, .int 0, .null, .int 0, .int 0, .int 0, .int 0, .int 0, .int 0, .int 0, .null, .null, .null, .null, .null, .null, .null, .null, .null, .null, .null, .int 0])) = some hC := by
  rw [← mkn2_eq]
  exact get_of (by decide +kernel)
theorem nxC : hC.1 = 101 := by decide +kernel
theorem eD : f_M_new 100 hC = some hD := by
  rw [← g_M_new_eq]
  exact get_of (by decide +kernel)
theorem nD : hD.1 = 126 ∧ hD.2.1 = 27134 := by decide +kernel
theorem eA : mkn h00 10 (.inr (0, [.null, .null, .null, .null, .null, .null, .null, .null, .null, .int 0])) = some hA := by
  unfold mkn
  rw [if_pos (show h00.1 < 1000 by decide)]
  rfl
theorem t_A : TB h00 hA := mkn_tb (by exact trivial) eA
theorem t_B : TB hA hB := tb_Q_new eB
theorem t_C : TB hB hC := mkn_tb (by exact trivial) eC
theorem t_D : TB hC hD := tb_M_new eD
theorem hD_TB : TB h00 hD := TB.tr (TB.tr (TB.tr t_A t_B) t_C) t_D
theorem TB_TL {h : mH} (t : TB h00 h) (n : h.1 = 126) : TL h := t.2.1 (Nat.le_of_eq n) (fun _ _ => rfl)
theorem TB_RA {h : mH} (t : TB h00 h) {k t' n : Nat} {f : Nat → Option Nat} (e : h.2.2 k = .inl (t', n, .inr (.inr (.inr (.inr f))))) : ∀ j, n ≤ j → f j = none := by
  have r := t.2.2 (fun _ => trivial) k
  rw [e] at r
  exact r
theorem nD1 : hD.1 = 126 := nD.1
theorem nD2 : hD.2.1 = 27134 := nD.2
theorem hD_TL : TL hD := @TB_TL hD hD_TB nD1
