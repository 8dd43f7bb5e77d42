/-! states that differ in scratch rows alone -/
def scrM (k : Nat) : Bool := k == 54 || k == 55 || k == 56 || k == 73 || k == 75 || k == 77 || k == 78 || k == 109 || k == 110
def kpM (M N : StM) : StM := (M.1, fun k => if scrM k = true then N.2 k else M.2 k)
def kept (M N : StM) : Prop := N = kpM M N
theorem kept_iff {M N : StM} : kept M N ↔ N.1 = M.1 ∧ ∀ k, scrM k = false → N.2 k = M.2 k := by
  constructor
  · intro h
    rw [kept] at h
    refine ⟨by rw [h]; rfl, fun k hk => ?_⟩
    rw [h]
    show (if scrM k = true then _ else _) = _
    rw [if_neg (by rw [hk]; decide)]
  · rintro ⟨h1, h2⟩
    rw [kept, kpM]
    refine Prod.ext h1 ?_
    funext k
    show _ = if scrM k = true then N.2 k else M.2 k
    split
    · rfl
    · next z => exact h2 k (by simpa using z)
theorem kept.rf (M : StM) : kept M M := kept_iff.mpr ⟨rfl, fun _ _ => rfl⟩
theorem kept.tr {M N K : StM} (h : kept M N) (h2 : kept N K) : kept M K := by
  rw [kept_iff] at *
  exact ⟨h2.1.trans h.1, fun k hk => (h2.2 k hk).trans (h.2 k hk)⟩
theorem kept.sA {M N : StM} (h : kept M N) {k : Nat} (hk : scrM k = true) (a : Nat → Int32) : kept M (sA N k a) := by
  rw [kept_iff] at *
  refine ⟨h.1, fun j hj => ?_⟩
  show va_up N.2 k a j = _
  rw [up_ne (fun e => by rw [e, hk] at hj; cases hj)]
  exact h.2 j hj
theorem kept.nb {M N : StM} (h : kept M N) (t s : Nat → Int32) : kept M (mNb N t s) := (h.sA rfl t).sA rfl s
theorem kept.to {M N : StM} (h : kept M N) (P : StM → Prop) (hp : P (kpM M N)) : P N := by rw [kept] at h; rw [h]; exact hp
def scxI (j : Nat) : Bool := j == 67
def scxA (k : Nat) : Bool := k == 103 || k == 104 || k == 105 || k == 53 || k == 54 || k == 68 || k == 69 || k == 74 || k == 167 || k == 168
def kpX (X Y : StX) : StX := (fun j => if scxI j = true then Y.1 j else X.1 j, fun k => if scxA k = true then Y.2.1 k else X.2.1 k, Y.2.2.1, X.2.2.2)
def keptX (X Y : StX) : Prop := Y = kpX X Y
theorem keptX_iff {X Y : StX} : keptX X Y ↔ (∀ j, scxI j = false → Y.1 j = X.1 j) ∧ (∀ k, scxA k = false → Y.2.1 k = X.2.1 k) ∧ Y.2.2.2 = X.2.2.2 := by
  constructor
  · intro h
    rw [keptX] at h
    refine ⟨fun j hj => ?_, fun k hk => ?_, by rw [h]; rfl⟩
    · rw [h]
      show (if scxI j = true then _ else _) = _
      rw [if_neg (by rw [hj]; decide)]
    · rw [h]
      show (if scxA k = true then _ else _) = _
      rw [if_neg (by rw [hk]; decide)]
  · rintro ⟨h1, h2, h3⟩
    rw [keptX, kpX]
    refine Prod.ext ?_ (Prod.ext ?_ (Prod.ext rfl h3))
    · funext k
      show _ = if scxI k = true then Y.1 k else X.1 k
      split
      · rfl
      · next z => exact h1 k (by simpa using z)
    · funext k
      show _ = if scxA k = true then Y.2.1 k else X.2.1 k
      split
      · rfl
      · next z => exact h2 k (by simpa using z)
theorem keptX.rf (X : StX) : keptX X X := keptX_iff.mpr ⟨fun _ _ => rfl, fun _ _ => rfl, rfl⟩
theorem keptX.tr {X Y Z : StX} (h : keptX X Y) (h2 : keptX Y Z) : keptX X Z := by
  rw [keptX_iff] at *
  exact ⟨fun k hk => (h2.1 k hk).trans (h.1 k hk), fun k hk => (h2.2.1 k hk).trans (h.2.1 k hk), h2.2.2.trans h.2.2⟩
theorem keptX.xA {X Y : StX} (h : keptX X Y) {k : Nat} (hk : scxA k = true) (a : Nat → Int32) : keptX X (xA Y k a) := by
  rw [keptX_iff] at *
  refine ⟨h.1, fun j hj => ?_, h.2.2⟩
  show va_up Y.2.1 k a j = _
  rw [up_ne (fun e => by rw [e, hk] at hj; cases hj)]
  exact h.2.1 j hj
theorem keptX.xI {X Y : StX} (h : keptX X Y) {k : Nat} (hk : scxI k = true) (a : Int32) : keptX X (xI Y k a) := by
  rw [keptX_iff] at *
  refine ⟨fun j hj => ?_, h.2.1, h.2.2⟩
  show va_up Y.1 k a j = _
  rw [up_ne (fun e => by rw [e, hk] at hj; cases hj)]
  exact h.1 j hj
theorem keptX.xL {X Y : StX} (h : keptX X Y) {k : Nat} (a : Nat → Int64) : keptX X (xL Y k a) := by
  rw [keptX_iff] at *
  exact ⟨h.1, h.2.1, h.2.2⟩
theorem keptX.nb {X Y : StX} (h : keptX X Y) (u s : Nat → Int32) : keptX X (xNb Y u s) := (h.xA rfl u).xA rfl s
theorem keptX.to {X Y : StX} (h : keptX X Y) (P : StX → Prop) (hp : P (kpX X Y)) : P Y := by rw [keptX] at h; rw [h]; exact hp
theorem RRu.kp {B : BkT} {X Y : StX} {M N : StM} (hR : RRu B X M) (h : kept M N) (h2 : keptX X Y) : RRu B Y N := h.to (RRu B Y) (h2.to (fun Y => RRu B Y (kpM M N)) hR)
theorem RPl.kp {X Y : StX} {M N : StM} (hR : RPl X M) (h : kept M N) (h2 : keptX X Y) : RPl Y N := h.to (RPl Y) (h2.to (fun Y => RPl Y (kpM M N)) hR)
theorem numV_kp {B : BkT} {M N : StM} (h : kept M N) (fc : Nat → Int32) (L : Nat) (wo : Int32) : numV B N fc L wo = numV B M fc L wo := h.to (fun N => numV B N fc L wo = numV B M fc L wo) rfl
theorem linV_kp {B : BkT} {M N : StM} (h : kept M N) (fc : Nat → Int32) : linV B N fc = linV B M fc := h.to (fun N => linV B N fc = linV B M fc) rfl
theorem pkM_kp {M N : StM} (h : kept M N) (p : Int32) : pkM N p = pkM M p := h.to (fun N => pkM N p = pkM M p) rfl
theorem kept.a {M N : StM} (h : kept M N) {k : Nat} (hk : scrM k = false) : N.2 k = M.2 k := (kept_iff.mp h).2 k hk
theorem kept.s {M N : StM} (h : kept M N) (k : Nat) : N.1 k = M.1 k := by rw [(kept_iff.mp h).1]
theorem keptX.a {X Y : StX} (h : keptX X Y) {k : Nat} (hk : scxA k = false) : Y.2.1 k = X.2.1 k := (keptX_iff.mp h).2.1 k hk
theorem keptX.s {X Y : StX} (h : keptX X Y) {k : Nat} (hk : scxI k = false) : Y.1 k = X.1 k := (keptX_iff.mp h).1 k hk
