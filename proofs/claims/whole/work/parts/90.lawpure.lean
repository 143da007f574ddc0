/-- the pair feed: one answer, and the heaps behind it -/
def pp_feed (Rel : hp → hp → Prop) : Prop := ∀ (hc hm : hp) (x0 : Int32) (x1 : Int32) (x2 : Int32) (x3 : Int32) (x4 : Int32), Rel hc hm → ∀ Q : Int32 → hp → Prop, (∀ (r : Int32) (hc1 : hp), (∀ Q2 : Int32 → hp → Prop, (∀ hm1 : hp, Rel hc1 hm1 → Q2 r hm1) → w_X12_feed hm x0 x1 x2 x3 x4 Q2) → Q r hc1) → w_X11_feed hc x0 x1 x2 x3 x4 Q
/-- the pair back: one answer, and the heaps behind it -/
def pp_back (Rel : hp → hp → Prop) : Prop := ∀ (hc hm : hp) (x0 : Int32), Rel hc hm → ∀ Q : Int32 → hp → Prop, (∀ (r : Int32) (hc1 : hp), (∀ Q2 : Int32 → hp → Prop, (∀ hm1 : hp, Rel hc1 hm1 → Q2 r hm1) → w_X12_back hm x0 Q2) → Q r hc1) → w_X11_back hc x0 Q
/-- the pair read: one answer, and the heaps behind it -/
def pp_read (Rel : hp → hp → Prop) : Prop := ∀ (hc hm : hp), Rel hc hm → ∀ Q : Int32 → hp → Prop, (∀ (r : Int32) (hc1 : hp), (∀ Q2 : Int32 → hp → Prop, (∀ hm1 : hp, Rel hc1 hm1 → Q2 r hm1) → w_X12_read hm  Q2) → Q r hc1) → w_X11_read hc  Q
/-- the pair place: one answer, and the heaps behind it -/
def pp_place (Rel : hp → hp → Prop) : Prop := ∀ (hc hm : hp), Rel hc hm → ∀ Q : Int32 → Prop, (∀ (r : Int32), (∀ Q2 : Int32 → Prop, (Rel hc hm → Q2 r) → w_X12_place hm  Q2) → Q r) → w_X11_place hc  Q
/-- the pair row: one answer, and the heaps behind it -/
def pp_row (Rel : hp → hp → Prop) : Prop := ∀ (hc hm : hp) (x0 : Int32) (x1 : Int32), Rel hc hm → ∀ Q : Int32 → Prop, (∀ (r : Int32), (∀ Q2 : Int32 → Prop, (Rel hc hm → Q2 r) → w_X12_row hm x0 x1 Q2) → Q r) → w_X11_row hc x0 x1 Q
/-- the pair comes: one answer, and the heaps behind it -/
def pp_comes (Rel : hp → hp → Prop) : Prop := ∀ (hc hm : hp) (x0 : Int32) (x1 : Int32), Rel hc hm → ∀ Q : Int64 → Prop, (∀ (r : Int64), (∀ Q2 : Int64 → Prop, (Rel hc hm → Q2 r) → w_X12_comes hm x0 x1 Q2) → Q r) → w_X11_comes hc x0 x1 Q
/-- the pair two: one answer, and the heaps behind it -/
def pp_two (Rel : hp → hp → Prop) : Prop := ∀ (hc hm : hp) (x0 : Int32) (x1 : Int32), Rel hc hm → ∀ Q : Int64 → Prop, (∀ (r : Int64), (∀ Q2 : Int64 → Prop, (Rel hc hm → Q2 r) → w_X12_two hm x0 x1 Q2) → Q r) → w_X11_two hc x0 x1 Q
/-- the pair figure: one answer, and the heaps behind it -/
def pp_figure (Rel : hp → hp → Prop) : Prop := ∀ (hc hm : hp) (x0 : Int64) (x1 : Int32) (x2 : Int32), Rel hc hm → ∀ Q : Int32 → Prop, (∀ (r : Int32), (∀ Q2 : Int32 → Prop, (Rel hc hm → Q2 r) → w_X12_figure x0 x1 x2 Q2) → Q r) → w_X11_figure x0 x1 x2 Q
/-- the pair clash: one answer, and the heaps behind it -/
def pp_clash (Rel : hp → hp → Prop) : Prop := ∀ (hc hm : hp) (x0 : Int32) (x1 : Int32), Rel hc hm → (x1 = 0 ∨ x1 = 1) → ∀ Q : Int32 → hp → Prop, (∀ (r : Int32) (hc1 : hp), (∀ Q2 : Int32 → hp → Prop, (∀ hm1 : hp, Rel hc1 hm1 → Q2 r hm1) → w_X12_clash hm x0 x1 Q2) → Q r hc1) → w_X11_clash hc x0 x1 Q
/-- the pair world: one answer, and the heaps behind it -/
def pp_world (Rel : hp → hp → Prop) : Prop := ∀ (hc hm : hp) (x0 : Int32) (x1 : Int32), Rel hc hm → ∀ Q : Int32 → Prop, (∀ (r : Int32), (∀ Q2 : Int32 → Prop, (Rel hc hm → Q2 r) → w_X12_world hm x0 x1 Q2) → Q r) → w_X11_world hc x0 x1 Q
/-- the pair tell: one answer, and the heaps behind it -/
def pp_tell (Rel : hp → hp → Prop) : Prop := ∀ (hc hm : hp) (x0 : Int32) (x1 : Int64), Rel hc hm → ∀ Q : Int32 → hp → Prop, (∀ (r : Int32) (hc1 : hp), (∀ Q2 : Int32 → hp → Prop, (∀ hm1 : hp, Rel hc1 hm1 → Q2 r hm1) → w_X12_tell_ hm x0 x1 Q2) → Q r hc1) → w_X11_tell hc x0 x1 Q
/-- the pair forget: one answer, and the heaps behind it -/
def pp_forget (Rel : hp → hp → Prop) : Prop := ∀ (hc hm : hp), Rel hc hm → ∀ Q : Int32 → hp → Prop, (∀ (r : Int32) (hc1 : hp), (∀ Q2 : Int32 → hp → Prop, (∀ hm1 : hp, Rel hc1 hm1 → Q2 r hm1) → w_X12_forget hm  Q2) → Q r hc1) → w_X11_forget hc  Q
/-- the pair fits: one answer, and the heaps behind it -/
def pp_fits (Rel : hp → hp → Prop) : Prop := ∀ (hc hm : hp) (x0 : Int32) (x1 : Int32) (x2 : Int32) (x3 : Int32), Rel hc hm → ∀ Q : Int32 → hp → Prop, (∀ (r : Int32) (hc1 : hp), (∀ Q2 : Int32 → hp → Prop, (∀ hm1 : hp, Rel hc1 hm1 → Q2 r hm1) → w_X12_fits hm x0 x1 x2 x3 Q2) → Q r hc1) → w_X11_fits hc x0 x1 x2 x3 Q
/-- the pair sure: one answer, and the heaps behind it -/
def pp_sure (Rel : hp → hp → Prop) : Prop := ∀ (hc hm : hp) (x0 : Int32) (x1 : Int32) (x2 : Int32), Rel hc hm → ∀ Q : Int32 → hp → Prop, (∀ (r : Int32) (hc1 : hp), (∀ Q2 : Int32 → hp → Prop, (∀ hm1 : hp, Rel hc1 hm1 → Q2 r hm1) → w_X12_sure hm x0 x1 x2 Q2) → Q r hc1) → w_X11_sure hc x0 x1 x2 Q
/-- the pair span: one answer, and the heaps behind it -/
def pp_span (Rel : hp → hp → Prop) : Prop := ∀ (hc hm : hp) (x0 : Int32) (x1 : Int32) (x2 : Int32) (x3 : Int32), Rel hc hm → ∀ Q : Int32 → hp → Prop, (∀ (r : Int32) (hc1 : hp), (∀ Q2 : Int32 → hp → Prop, (∀ hm1 : hp, Rel hc1 hm1 → Q2 r hm1) → w_X12_span hm x0 x1 x2 x3 Q2) → Q r hc1) → w_X11_span hc x0 x1 x2 x3 Q
/-- the pair liars: one answer, and the heaps behind it -/
def pp_liars (Rel : hp → hp → Prop) : Prop := ∀ (hc hm : hp) (x0 : Int32) (x1 : Int32) (x2 : Int32), Rel hc hm → ∀ Q : Int32 → hp → Prop, (∀ (r : Int32) (hc1 : hp), (∀ Q2 : Int32 → hp → Prop, (∀ hm1 : hp, Rel hc1 hm1 → Q2 r hm1) → w_X12_liars hm x0 x1 x2 Q2) → Q r hc1) → w_X11_liars hc x0 x1 x2 Q
/-- the pair next: one answer, and the heaps behind it -/
def pp_next (Rel : hp → hp → Prop) : Prop := ∀ (hc hm : hp) (x0 : Int32) (x1 : Int32) (x2 : Int32) (x3 : Int32), Rel hc hm → ∀ Q : Int32 → hp → Prop, (∀ (r : Int32) (hc1 : hp), (∀ Q2 : Int32 → hp → Prop, (∀ hm1 : hp, Rel hc1 hm1 → Q2 r hm1) → w_X12_next hm x0 x1 x2 x3 Q2) → Q r hc1) → w_X11_next hc x0 x1 x2 x3 Q
/-- the pair once: one answer, and the heaps behind it -/
def pp_once (Rel : hp → hp → Prop) : Prop := ∀ (hc hm : hp), Rel hc hm → ∀ Q : Int32 → hp → Prop, (∀ (r : Int32) (hc1 : hp), (∀ Q2 : Int32 → hp → Prop, (∀ hm1 : hp, Rel hc1 hm1 → Q2 r hm1) → w_X12_once hm  Q2) → Q r hc1) → w_X11_once hc  Q
/-- the pair few: one answer, and the heaps behind it -/
def pp_few (Rel : hp → hp → Prop) : Prop := ∀ (hc hm : hp) (x0 : Int32), Rel hc hm → ∀ Q : Int32 → hp → Prop, (∀ (r : Int32) (hc1 : hp), (∀ Q2 : Int32 → hp → Prop, (∀ hm1 : hp, Rel hc1 hm1 → Q2 r hm1) → w_X12_few hm x0 Q2) → Q r hc1) → w_X11_few hc x0 Q
/-- the pair meets: one answer, and the heaps behind it -/
def pp_meets (Rel : hp → hp → Prop) : Prop := ∀ (hc hm : hp) (x0 : Int32) (x1 : Int32), Rel hc hm → ∀ Q : Int32 → Prop, (∀ (r : Int32), (∀ Q2 : Int32 → Prop, (Rel hc hm → Q2 r) → w_X12_meets hm x0 x1 Q2) → Q r) → w_X11_meets hc x0 x1 Q
/-- the pair game: one answer, and the heaps behind it -/
def pp_game (Rel : hp → hp → Prop) : Prop := ∀ (hc hm : hp) (x0 : Int32) (x1 : Int32), Rel hc hm → ∀ Q : Int32 → hp → Prop, (∀ (r : Int32) (hc1 : hp), (∀ Q2 : Int32 → hp → Prop, (∀ hm1 : hp, Rel hc1 hm1 → Q2 r hm1) → w_X12_game hm x0 x1 Q2) → Q r hc1) → w_X11_game hc x0 x1 Q
/-- the pair bad: one answer, and the heaps behind it -/
def pp_bad (Rel : hp → hp → Prop) : Prop := ∀ (hc hm : hp) (x0 : Int32) (x1 : Int32), Rel hc hm → ∀ Q : Int32 → Prop, (∀ (r : Int32), (∀ Q2 : Int32 → Prop, (Rel hc hm → Q2 r) → w_X12_bad hm x0 x1 Q2) → Q r) → w_X11_bad hc x0 x1 Q
/-- the pair badSet: one answer, and the heaps behind it -/
def pp_badSet (Rel : hp → hp → Prop) : Prop := ∀ (hc hm : hp) (x0 : Int32) (x1 : Int32), Rel hc hm → ∀ Q : Int32 → Prop, (∀ (r : Int32), (∀ Q2 : Int32 → Prop, (Rel hc hm → Q2 r) → w_X12_badSet hm x0 x1 Q2) → Q r) → w_X11_badSet hc x0 x1 Q
/-- the pair allTold: one answer, and the heaps behind it -/
def pp_allTold (Rel : hp → hp → Prop) : Prop := ∀ (hc hm : hp), Rel hc hm → ∀ Q : Int32 → hp → Prop, (∀ (r : Int32) (hc1 : hp), (∀ Q2 : Int32 → Prop, (Rel hc1 hm → Q2 r) → w_X12_allTold hm  Q2) → Q r hc1) → w_X11_allTold hc  Q
/-- the pair secret: one answer, and the heaps behind it -/
def pp_secret (Rel : hp → hp → Prop) : Prop := ∀ (hc hm : hp) (x0 : Int32), Rel hc hm → ∀ Q : Int32 → hp → Prop, (∀ (r : Int32) (hc1 : hp), (∀ Q2 : Int32 → Prop, (Rel hc1 hm → Q2 r) → w_X12_secret hm x0 Q2) → Q r hc1) → w_X11_secret hc x0 Q
/-- the pair shared: one answer, and the heaps behind it -/
def pp_shared (Rel : hp → hp → Prop) : Prop := ∀ (hc hm : hp) (x0 : Int32) (x1 : Int32), Rel hc hm → ∀ Q : Int32 → hp → Prop, (∀ (r : Int32) (hc1 : hp), (∀ Q2 : Int32 → Prop, (Rel hc1 hm → Q2 r) → w_X12_shared hm x0 x1 Q2) → Q r hc1) → w_X11_shared hc x0 x1 Q
/-- the pair wrong: one answer, and the heaps behind it -/
def pp_wrong (Rel : hp → hp → Prop) : Prop := ∀ (hc hm : hp) (x0 : Int32), Rel hc hm → ∀ Q : Int32 → hp → Prop, (∀ (r : Int32) (hc1 : hp), (∀ Q2 : Int32 → Prop, (Rel hc1 hm → Q2 r) → w_X12_wrong hm x0 Q2) → Q r hc1) → w_X11_wrong hc x0 Q
/-- the pair hide: one answer, and the heaps behind it -/
def pp_hide (Rel : hp → hp → Prop) : Prop := ∀ (hc hm : hp) (x0 : Int32), Rel hc hm → ∀ Q : Int32 → hp → Prop, (∀ (r : Int32) (hc1 : hp), (∀ Q2 : Int32 → hp → Prop, (∀ hm1 : hp, Rel hc1 hm1 → Q2 r hm1) → w_X12_hide hm x0 Q2) → Q r hc1) → w_X11_hide hc x0 Q
/-- the pair ask: one answer, and the heaps behind it -/
def pp_ask (Rel : hp → hp → Prop) : Prop := ∀ (hc hm : hp) (x0 : Int32), Rel hc hm → ∀ Q : Int64 → hp → Prop, (∀ (r : Int64) (hc1 : hp), (∀ Q2 : Int64 → hp → Prop, (∀ hm1 : hp, Rel hc1 hm1 → Q2 r hm1) → w_X12_ask hm x0 Q2) → Q r hc1) → w_X11_ask hc x0 Q
/-- the pair asks: one answer, and the heaps behind it -/
def pp_asks (Rel : hp → hp → Prop) : Prop := ∀ (hc hm : hp), Rel hc hm → ∀ Q : Int32 → hp → Prop, (∀ (r : Int32) (hc1 : hp), (∀ Q2 : Int32 → hp → Prop, (∀ hm1 : hp, Rel hc1 hm1 → Q2 r hm1) → w_X12_asks hm  Q2) → Q r hc1) → w_X11_asks hc  Q
/-- the pair enough: one answer, and the heaps behind it -/
def pp_enough (Rel : hp → hp → Prop) : Prop := ∀ (hc hm : hp) (x0 : Int32) (x1 : Int32) (x2 : Int32), Rel hc hm → ∀ Q : Int32 → hp → Prop, (∀ (r : Int32) (hc1 : hp), (∀ Q2 : Int32 → hp → Prop, (∀ hm1 : hp, Rel hc1 hm1 → Q2 r hm1) → w_X12_enough hm x0 x1 x2 Q2) → Q r hc1) → w_X11_enough hc x0 x1 x2 Q
/-- the pair shareRow: one answer, and the heaps behind it -/
def pp_shareRow (Rel : hp → hp → Prop) : Prop := ∀ (hc hm : hp) (x0 : Int32) (x1 : Int32), Rel hc hm → ∀ Q : Int32 → hp → Prop, (∀ (r : Int32) (hc1 : hp), (∀ Q2 : Int32 → hp → Prop, (∀ hm1 : hp, Rel hc1 hm1 → Q2 r hm1) → w_X12_shareRow hm x0 x1 Q2) → Q r hc1) → w_X11_shareRow hc x0 x1 Q
/-- the pair cost: one answer, and the heaps behind it -/
def pp_cost (Rel : hp → hp → Prop) : Prop := ∀ (hc hm : hp) (x0 : Int32), Rel hc hm → ∀ Q : Int32 → Prop, (∀ (r : Int32), (∀ Q2 : Int32 → Prop, (Rel hc hm → Q2 r) → w_X12_cost hm x0 Q2) → Q r) → w_X11_cost hc x0 Q
/-- the pair degree: one answer, and the heaps behind it -/
def pp_degree (Rel : hp → hp → Prop) : Prop := ∀ (hc hm : hp) (x0 : Int32), Rel hc hm → ∀ Q : Int32 → Prop, (∀ (r : Int32), (∀ Q2 : Int32 → Prop, (Rel hc hm → Q2 r) → w_X12_degree hm x0 Q2) → Q r) → w_X11_degree hc x0 Q
/-- the pair worldsAt: one answer, and the heaps behind it -/
def pp_worldsAt (Rel : hp → hp → Prop) : Prop := ∀ (hc hm : hp) (x0 : Int32) (x1 : Int64), Rel hc hm → ∀ Q : Int32 → hp → Prop, (∀ (r : Int32) (hc1 : hp), (∀ Q2 : Int32 → Prop, (Rel hc1 hm → Q2 r) → w_X12_worldsAt hm x0 x1 Q2) → Q r hc1) → w_X11_worldsAt hc x0 x1 Q
/-- the pair rest: one answer, and the heaps behind it -/
def pp_rest (Rel : hp → hp → Prop) : Prop := ∀ (hc hm : hp) (x0 : Int32) (x1 : Int32), Rel hc hm → ∀ Q : Int32 → Prop, (∀ (r : Int32), (∀ Q2 : Int32 → Prop, (Rel hc hm → Q2 r) → w_X12_rest hm x0 x1 Q2) → Q r) → w_X11_rest hc x0 x1 Q
/-- the pair alike: one answer, and the heaps behind it -/
def pp_alike (Rel : hp → hp → Prop) : Prop := ∀ (hc hm : hp) (x0 : Int32) (x1 : Int32), Rel hc hm → ∀ Q : Int32 → Prop, (∀ (r : Int32), (∀ Q2 : Int32 → Prop, (Rel hc hm → Q2 r) → w_X12_alike hm x0 x1 Q2) → Q r) → w_X11_alike hc x0 x1 Q
/-- the pair plus: one answer, and the heaps behind it -/
def pp_plus (Rel : hp → hp → Prop) : Prop := ∀ (hc hm : hp) (x0 : Int32) (x1 : Int32) (x2 : Int32), Rel hc hm → ∀ Q : Int32 → Prop, (∀ (r : Int32), (∀ Q2 : Int32 → Prop, (Rel hc hm → Q2 r) → w_X12_plus hm x0 x1 x2 Q2) → Q r) → w_X11_plus hc x0 x1 x2 Q
/-- the pair times: one answer, and the heaps behind it -/
def pp_times (Rel : hp → hp → Prop) : Prop := ∀ (hc hm : hp) (x0 : Int32) (x1 : Int32) (x2 : Int32), Rel hc hm → ∀ Q : Int32 → Prop, (∀ (r : Int32), (∀ Q2 : Int32 → Prop, (Rel hc hm → Q2 r) → w_X12_times hm x0 x1 x2 Q2) → Q r) → w_X11_times hc x0 x1 x2 Q
/-- the pair margin: one answer, and the heaps behind it -/
def pp_margin (Rel : hp → hp → Prop) : Prop := ∀ (hc hm : hp), Rel hc hm → ∀ Q : Int32 → hp → Prop, (∀ (r : Int32) (hc1 : hp), (∀ Q2 : Int32 → Prop, (Rel hc1 hm → Q2 r) → w_X12_margin hm  Q2) → Q r hc1) → w_X11_margin hc  Q
/-- the pair pair: one answer, and the heaps behind it -/
def pp_pair (Rel : hp → hp → Prop) : Prop := ∀ (hc hm : hp) (x0 : Int32) (x1 : Int32), Rel hc hm → ∀ Q : Int64 → Prop, (∀ (r : Int64), (∀ Q2 : Int64 → Prop, (Rel hc hm → Q2 r) → w_X12_pair x0 x1 Q2) → Q r) → w_X11_pair x0 x1 Q
/-- the pair unpair: one answer, and the heaps behind it -/
def pp_unpair (Rel : hp → hp → Prop) : Prop := ∀ (hc hm : hp) (x0 : Int64) (x1 : Int32), Rel hc hm → (x1 = 0 ∨ x1 = 1) → ∀ Q : Int64 → Prop, (∀ (r : Int64), (∀ Q2 : Int64 → Prop, (Rel hc hm → Q2 r) → w_X12_unpair x0 x1 Q2) → Q r) → w_X11_unpair x0 x1 Q
/-- the pair number: one answer, and the heaps behind it -/
def pp_number (Rel : hp → hp → Prop) : Prop := ∀ (hc hm : hp) (x0 : Int32), Rel hc hm → ∀ Q : Int64 → Prop, (∀ (r : Int64), (∀ Q2 : Int64 → Prop, (Rel hc hm → Q2 r) → w_X12_number hm x0 Q2) → Q r) → w_X11_number hc x0 Q
/-- the pair hold: one answer, and the heaps behind it -/
def pp_hold (Rel : hp → hp → Prop) : Prop := ∀ (hc hm : hp) (x0 : Int32), Rel hc hm → ∀ Q : Int32 → hp → Prop, (∀ (r : Int32) (hc1 : hp), (∀ Q2 : Int32 → hp → Prop, (∀ hm1 : hp, Rel hc1 hm1 → Q2 r hm1) → w_X12_hold hm x0 Q2) → Q r hc1) → w_X11_hold hc x0 Q
/-- the pair restore: one answer, and the heaps behind it -/
def pp_restore (Rel : hp → hp → Prop) : Prop := ∀ (hc hm : hp) (x0 : Int32), Rel hc hm → ∀ Q : Int32 → hp → Prop, (∀ (r : Int32) (hc1 : hp), (∀ Q2 : Int32 → hp → Prop, (∀ hm1 : hp, Rel hc1 hm1 → Q2 r hm1) → w_X12_restore hm x0 Q2) → Q r hc1) → w_X11_restore hc x0 Q
/-- the pair count: one answer, and the heaps behind it -/
def pp_count (Rel : hp → hp → Prop) : Prop := ∀ (hc hm : hp) (x0 : Int32), Rel hc hm → ∀ Q : Int32 → Prop, (∀ (r : Int32), (∀ Q2 : Int32 → Prop, (Rel hc hm → Q2 r) → w_X12_count hm x0 Q2) → Q r) → w_X11_count hc x0 Q
section LAWP
variable {L : Nat} {xs : Nat → Int32} {Rel : hp → hp → Prop} {X : Int32 × hp × hp → Prop} {x3 : Int32} {hc hm : hp}
theorem p_law_232 (hpp : pp_feed Rel) (hR : Rel hc hm) (g : ∀ k : Int32, 1 ≤ k.toInt → k.toInt ≤ 5 → vp_in (x3 + k) L) (hX : ∀ hc1 hm1 : hp, Rel hc1 hm1 → X (x3 + 6, hc1, hm1)) : w_law_232 L xs X x3 hc hm := by
  unfold w_law_232
  exact ⟨g 1 (by decide) (by decide), g 2 (by decide) (by decide), g 3 (by decide) (by decide), g 4 (by decide) (by decide), g 5 (by decide) (by decide), hpp hc hm _ _ _ _ _ hR _ (fun r hc1 hM => ⟨g 1 (by decide) (by decide), g 2 (by decide) (by decide), g 3 (by decide) (by decide), g 4 (by decide) (by decide), g 5 (by decide) (by decide), hM _ (fun hm1 hR1 => ⟨fun _ z ez => by rw [ez]; exact hX _ _ hR1, fun n => absurd rfl n⟩)⟩)⟩
theorem p_law_295 (hpp : pp_back Rel) (hR : Rel hc hm) (g : ∀ k : Int32, 1 ≤ k.toInt → k.toInt ≤ 5 → vp_in (x3 + k) L) (hX : ∀ hc1 hm1 : hp, Rel hc1 hm1 → X (x3 + 6, hc1, hm1)) : w_law_295 L xs X x3 hc hm := by
  unfold w_law_295
  exact ⟨g 1 (by decide) (by decide), hpp hc hm _ hR _ (fun r hc1 hM => ⟨g 1 (by decide) (by decide), hM _ (fun hm1 hR1 => ⟨fun _ z ez => by rw [ez]; exact hX _ _ hR1, fun n => absurd rfl n⟩)⟩)⟩
theorem p_law_318 (hpp : pp_read Rel) (hR : Rel hc hm) (g : ∀ k : Int32, 1 ≤ k.toInt → k.toInt ≤ 5 → vp_in (x3 + k) L) (hX : ∀ hc1 hm1 : hp, Rel hc1 hm1 → X (x3 + 6, hc1, hm1)) : w_law_318 L xs X x3 hc hm := by
  unfold w_law_318
  exact (hpp hc hm  hR _ (fun r hc1 hM => (hM _ (fun hm1 hR1 => ⟨fun _ z ez => by rw [ez]; exact hX _ _ hR1, fun n => absurd rfl n⟩))))
theorem p_law_331 (hpp : pp_place Rel) (hR : Rel hc hm) (g : ∀ k : Int32, 1 ≤ k.toInt → k.toInt ≤ 5 → vp_in (x3 + k) L) (hX : ∀ hc1 hm1 : hp, Rel hc1 hm1 → X (x3 + 6, hc1, hm1)) : w_law_331 L xs X x3 hc hm := by
  unfold w_law_331
  exact (hpp hc hm  hR _ (fun r hM => (hM _ (fun hR1 => ⟨fun _ z ez => by rw [ez]; exact hX _ _ hR1, fun n => absurd rfl n⟩))))
theorem p_law_344 (hpp : pp_row Rel) (hR : Rel hc hm) (g : ∀ k : Int32, 1 ≤ k.toInt → k.toInt ≤ 5 → vp_in (x3 + k) L) (hX : ∀ hc1 hm1 : hp, Rel hc1 hm1 → X (x3 + 6, hc1, hm1)) : w_law_344 L xs X x3 hc hm := by
  unfold w_law_344
  exact ⟨g 1 (by decide) (by decide), g 2 (by decide) (by decide), hpp hc hm _ _ hR _ (fun r hM => ⟨g 1 (by decide) (by decide), g 2 (by decide) (by decide), hM _ (fun hR1 => ⟨fun _ z ez => by rw [ez]; exact hX _ _ hR1, fun n => absurd rfl n⟩)⟩)⟩
theorem p_law_377 (hpp : pp_comes Rel) (hR : Rel hc hm) (g : ∀ k : Int32, 1 ≤ k.toInt → k.toInt ≤ 5 → vp_in (x3 + k) L) (hX : ∀ hc1 hm1 : hp, Rel hc1 hm1 → X (x3 + 6, hc1, hm1)) : w_law_377 L xs X x3 hc hm := by
  unfold w_law_377
  exact ⟨g 1 (by decide) (by decide), g 2 (by decide) (by decide), hpp hc hm _ _ hR _ (fun r hM => ⟨g 1 (by decide) (by decide), g 2 (by decide) (by decide), hM _ (fun hR1 => ⟨fun _ z ez => by rw [ez]; exact hX _ _ hR1, fun n => absurd rfl n⟩)⟩)⟩
theorem p_law_411 (hpp : pp_two Rel) (hR : Rel hc hm) (g : ∀ k : Int32, 1 ≤ k.toInt → k.toInt ≤ 5 → vp_in (x3 + k) L) (hX : ∀ hc1 hm1 : hp, Rel hc1 hm1 → X (x3 + 6, hc1, hm1)) : w_law_411 L xs X x3 hc hm := by
  unfold w_law_411
  exact ⟨g 1 (by decide) (by decide), g 2 (by decide) (by decide), hpp hc hm _ _ hR _ (fun r hM => ⟨g 1 (by decide) (by decide), g 2 (by decide) (by decide), hM _ (fun hR1 => ⟨fun _ z ez => by rw [ez]; exact hX _ _ hR1, fun n => absurd rfl n⟩)⟩)⟩
theorem p_law_445 (hpp : pp_figure Rel) (hR : Rel hc hm) (g : ∀ k : Int32, 1 ≤ k.toInt → k.toInt ≤ 5 → vp_in (x3 + k) L) (hX : ∀ hc1 hm1 : hp, Rel hc1 hm1 → X (x3 + 6, hc1, hm1)) : w_law_445 L xs X x3 hc hm := by
  unfold w_law_445
  exact ⟨g 1 (by decide) (by decide), g 2 (by decide) (by decide), g 3 (by decide) (by decide), g 4 (by decide) (by decide), hpp hc hm _ _ _ hR _ (fun r hM => ⟨g 1 (by decide) (by decide), g 2 (by decide) (by decide), g 3 (by decide) (by decide), g 4 (by decide) (by decide), hM _ (fun hR1 => ⟨fun _ z ez => by rw [ez]; exact hX _ _ hR1, fun n => absurd rfl n⟩)⟩)⟩
theorem p_law_518 (hpp : pp_clash Rel) (hR : Rel hc hm) (g : ∀ k : Int32, 1 ≤ k.toInt → k.toInt ≤ 5 → vp_in (x3 + k) L) (hX : ∀ hc1 hm1 : hp, Rel hc1 hm1 → X (x3 + 6, hc1, hm1)) : w_law_518 L xs X x3 hc hm := by
  unfold w_law_518
  refine ⟨g 1 (by decide) (by decide), g 2 (by decide) (by decide), ⟨fun e => ?_, fun e => ?_⟩⟩
  · exact hpp hc hm _ 0 hR (Or.inl rfl) _ (fun r hc1 hM => ⟨g 1 (by decide) (by decide), g 2 (by decide) (by decide), ⟨fun _ => hM _ (fun hm1 hR1 => ⟨fun _ z ez => by rw [ez]; exact hX _ _ hR1, fun n => absurd rfl n⟩), fun n => absurd e n⟩⟩)
  · exact hpp hc hm _ 1 hR (Or.inr rfl) _ (fun r hc1 hM => ⟨g 1 (by decide) (by decide), g 2 (by decide) (by decide), ⟨fun n => absurd n e, fun _ => hM _ (fun hm1 hR1 => ⟨fun _ z ez => by rw [ez]; exact hX _ _ hR1, fun n => absurd rfl n⟩)⟩⟩)
theorem p_law_567 (hpp : pp_world Rel) (hR : Rel hc hm) (g : ∀ k : Int32, 1 ≤ k.toInt → k.toInt ≤ 5 → vp_in (x3 + k) L) (hX : ∀ hc1 hm1 : hp, Rel hc1 hm1 → X (x3 + 6, hc1, hm1)) : w_law_567 L xs X x3 hc hm := by
  unfold w_law_567
  exact ⟨g 1 (by decide) (by decide), g 2 (by decide) (by decide), hpp hc hm _ _ hR _ (fun r hM => ⟨g 1 (by decide) (by decide), g 2 (by decide) (by decide), hM _ (fun hR1 => ⟨fun _ z ez => by rw [ez]; exact hX _ _ hR1, fun n => absurd rfl n⟩)⟩)⟩
theorem p_law_600 (hpp : pp_tell Rel) (hR : Rel hc hm) (g : ∀ k : Int32, 1 ≤ k.toInt → k.toInt ≤ 5 → vp_in (x3 + k) L) (hX : ∀ hc1 hm1 : hp, Rel hc1 hm1 → X (x3 + 6, hc1, hm1)) : w_law_600 L xs X x3 hc hm := by
  unfold w_law_600
  exact ⟨g 1 (by decide) (by decide), g 2 (by decide) (by decide), g 3 (by decide) (by decide), hpp hc hm _ _ hR _ (fun r hc1 hM => ⟨g 1 (by decide) (by decide), g 2 (by decide) (by decide), g 3 (by decide) (by decide), hM _ (fun hm1 hR1 => ⟨fun _ z ez => by rw [ez]; exact hX _ _ hR1, fun n => absurd rfl n⟩)⟩)⟩
theorem p_law_663 (hpp : pp_forget Rel) (hR : Rel hc hm) (g : ∀ k : Int32, 1 ≤ k.toInt → k.toInt ≤ 5 → vp_in (x3 + k) L) (hX : ∀ hc1 hm1 : hp, Rel hc1 hm1 → X (x3 + 6, hc1, hm1)) : w_law_663 L xs X x3 hc hm := by
  unfold w_law_663
  exact (hpp hc hm  hR _ (fun r hc1 hM => (hM _ (fun hm1 hR1 => ⟨fun _ z ez => by rw [ez]; exact hX _ _ hR1, fun n => absurd rfl n⟩))))
theorem p_law_676 (hpp : pp_fits Rel) (hR : Rel hc hm) (g : ∀ k : Int32, 1 ≤ k.toInt → k.toInt ≤ 5 → vp_in (x3 + k) L) (hX : ∀ hc1 hm1 : hp, Rel hc1 hm1 → X (x3 + 6, hc1, hm1)) : w_law_676 L xs X x3 hc hm := by
  unfold w_law_676
  exact ⟨g 1 (by decide) (by decide), g 2 (by decide) (by decide), g 3 (by decide) (by decide), g 4 (by decide) (by decide), hpp hc hm _ _ _ _ hR _ (fun r hc1 hM => ⟨g 1 (by decide) (by decide), g 2 (by decide) (by decide), g 3 (by decide) (by decide), g 4 (by decide) (by decide), hM _ (fun hm1 hR1 => ⟨fun _ z ez => by rw [ez]; exact hX _ _ hR1, fun n => absurd rfl n⟩)⟩)⟩
theorem p_law_729 (hpp : pp_sure Rel) (hR : Rel hc hm) (g : ∀ k : Int32, 1 ≤ k.toInt → k.toInt ≤ 5 → vp_in (x3 + k) L) (hX : ∀ hc1 hm1 : hp, Rel hc1 hm1 → X (x3 + 6, hc1, hm1)) : w_law_729 L xs X x3 hc hm := by
  unfold w_law_729
  exact ⟨g 1 (by decide) (by decide), g 2 (by decide) (by decide), g 3 (by decide) (by decide), hpp hc hm _ _ _ hR _ (fun r hc1 hM => ⟨g 1 (by decide) (by decide), g 2 (by decide) (by decide), g 3 (by decide) (by decide), hM _ (fun hm1 hR1 => ⟨fun _ z ez => by rw [ez]; exact hX _ _ hR1, fun n => absurd rfl n⟩)⟩)⟩
theorem p_law_772 (hpp : pp_span Rel) (hR : Rel hc hm) (g : ∀ k : Int32, 1 ≤ k.toInt → k.toInt ≤ 5 → vp_in (x3 + k) L) (hX : ∀ hc1 hm1 : hp, Rel hc1 hm1 → X (x3 + 6, hc1, hm1)) : w_law_772 L xs X x3 hc hm := by
  unfold w_law_772
  exact ⟨g 1 (by decide) (by decide), g 2 (by decide) (by decide), g 3 (by decide) (by decide), g 4 (by decide) (by decide), hpp hc hm _ _ _ _ hR _ (fun r hc1 hM => ⟨g 1 (by decide) (by decide), g 2 (by decide) (by decide), g 3 (by decide) (by decide), g 4 (by decide) (by decide), hM _ (fun hm1 hR1 => ⟨fun _ z ez => by rw [ez]; exact hX _ _ hR1, fun n => absurd rfl n⟩)⟩)⟩
theorem p_law_825 (hpp : pp_liars Rel) (hR : Rel hc hm) (g : ∀ k : Int32, 1 ≤ k.toInt → k.toInt ≤ 5 → vp_in (x3 + k) L) (hX : ∀ hc1 hm1 : hp, Rel hc1 hm1 → X (x3 + 6, hc1, hm1)) : w_law_825 L xs X x3 hc hm := by
  unfold w_law_825
  exact ⟨g 1 (by decide) (by decide), g 2 (by decide) (by decide), g 3 (by decide) (by decide), hpp hc hm _ _ _ hR _ (fun r hc1 hM => ⟨g 1 (by decide) (by decide), g 2 (by decide) (by decide), g 3 (by decide) (by decide), hM _ (fun hm1 hR1 => ⟨fun _ z ez => by rw [ez]; exact hX _ _ hR1, fun n => absurd rfl n⟩)⟩)⟩
theorem p_law_868 (hpp : pp_next Rel) (hR : Rel hc hm) (g : ∀ k : Int32, 1 ≤ k.toInt → k.toInt ≤ 5 → vp_in (x3 + k) L) (hX : ∀ hc1 hm1 : hp, Rel hc1 hm1 → X (x3 + 6, hc1, hm1)) : w_law_868 L xs X x3 hc hm := by
  unfold w_law_868
  exact ⟨g 1 (by decide) (by decide), g 2 (by decide) (by decide), g 3 (by decide) (by decide), g 4 (by decide) (by decide), hpp hc hm _ _ _ _ hR _ (fun r hc1 hM => ⟨g 1 (by decide) (by decide), g 2 (by decide) (by decide), g 3 (by decide) (by decide), g 4 (by decide) (by decide), hM _ (fun hm1 hR1 => ⟨fun _ z ez => by rw [ez]; exact hX _ _ hR1, fun n => absurd rfl n⟩)⟩)⟩
theorem p_law_921 (hpp : pp_once Rel) (hR : Rel hc hm) (g : ∀ k : Int32, 1 ≤ k.toInt → k.toInt ≤ 5 → vp_in (x3 + k) L) (hX : ∀ hc1 hm1 : hp, Rel hc1 hm1 → X (x3 + 6, hc1, hm1)) : w_law_921 L xs X x3 hc hm := by
  unfold w_law_921
  exact (hpp hc hm  hR _ (fun r hc1 hM => (hM _ (fun hm1 hR1 => ⟨fun _ z ez => by rw [ez]; exact hX _ _ hR1, fun n => absurd rfl n⟩))))
theorem p_law_934 (hpp : pp_few Rel) (hR : Rel hc hm) (g : ∀ k : Int32, 1 ≤ k.toInt → k.toInt ≤ 5 → vp_in (x3 + k) L) (hX : ∀ hc1 hm1 : hp, Rel hc1 hm1 → X (x3 + 6, hc1, hm1)) : w_law_934 L xs X x3 hc hm := by
  unfold w_law_934
  exact ⟨g 1 (by decide) (by decide), hpp hc hm _ hR _ (fun r hc1 hM => ⟨g 1 (by decide) (by decide), hM _ (fun hm1 hR1 => ⟨fun _ z ez => by rw [ez]; exact hX _ _ hR1, fun n => absurd rfl n⟩)⟩)⟩
theorem p_law_957 (hpp : pp_meets Rel) (hR : Rel hc hm) (g : ∀ k : Int32, 1 ≤ k.toInt → k.toInt ≤ 5 → vp_in (x3 + k) L) (hX : ∀ hc1 hm1 : hp, Rel hc1 hm1 → X (x3 + 6, hc1, hm1)) : w_law_957 L xs X x3 hc hm := by
  unfold w_law_957
  exact ⟨g 1 (by decide) (by decide), g 2 (by decide) (by decide), hpp hc hm _ _ hR _ (fun r hM => ⟨g 1 (by decide) (by decide), g 2 (by decide) (by decide), hM _ (fun hR1 => ⟨fun _ z ez => by rw [ez]; exact hX _ _ hR1, fun n => absurd rfl n⟩)⟩)⟩
theorem p_law_990 (hpp : pp_game Rel) (hR : Rel hc hm) (g : ∀ k : Int32, 1 ≤ k.toInt → k.toInt ≤ 5 → vp_in (x3 + k) L) (hX : ∀ hc1 hm1 : hp, Rel hc1 hm1 → X (x3 + 6, hc1, hm1)) : w_law_990 L xs X x3 hc hm := by
  unfold w_law_990
  exact ⟨g 1 (by decide) (by decide), g 2 (by decide) (by decide), hpp hc hm _ _ hR _ (fun r hc1 hM => ⟨g 1 (by decide) (by decide), g 2 (by decide) (by decide), hM _ (fun hm1 hR1 => ⟨fun _ z ez => by rw [ez]; exact hX _ _ hR1, fun n => absurd rfl n⟩)⟩)⟩
theorem p_law_1023 (hpp : pp_bad Rel) (hR : Rel hc hm) (g : ∀ k : Int32, 1 ≤ k.toInt → k.toInt ≤ 5 → vp_in (x3 + k) L) (hX : ∀ hc1 hm1 : hp, Rel hc1 hm1 → X (x3 + 6, hc1, hm1)) : w_law_1023 L xs X x3 hc hm := by
  unfold w_law_1023
  exact ⟨g 1 (by decide) (by decide), g 2 (by decide) (by decide), hpp hc hm _ _ hR _ (fun r hM => ⟨g 1 (by decide) (by decide), g 2 (by decide) (by decide), hM _ (fun hR1 => ⟨fun _ z ez => by rw [ez]; exact hX _ _ hR1, fun n => absurd rfl n⟩)⟩)⟩
theorem p_law_1056 (hpp : pp_badSet Rel) (hR : Rel hc hm) (g : ∀ k : Int32, 1 ≤ k.toInt → k.toInt ≤ 5 → vp_in (x3 + k) L) (hX : ∀ hc1 hm1 : hp, Rel hc1 hm1 → X (x3 + 6, hc1, hm1)) : w_law_1056 L xs X x3 hc hm := by
  unfold w_law_1056
  exact ⟨g 1 (by decide) (by decide), g 2 (by decide) (by decide), hpp hc hm _ _ hR _ (fun r hM => ⟨g 1 (by decide) (by decide), g 2 (by decide) (by decide), hM _ (fun hR1 => ⟨fun _ z ez => by rw [ez]; exact hX _ _ hR1, fun n => absurd rfl n⟩)⟩)⟩
theorem p_law_1089 (hpp : pp_allTold Rel) (hR : Rel hc hm) (g : ∀ k : Int32, 1 ≤ k.toInt → k.toInt ≤ 5 → vp_in (x3 + k) L) (hX : ∀ hc1 hm1 : hp, Rel hc1 hm1 → X (x3 + 6, hc1, hm1)) : w_law_1089 L xs X x3 hc hm := by
  unfold w_law_1089
  exact (hpp hc hm  hR _ (fun r hc1 hM => (hM _ (fun hR1 => ⟨fun _ z ez => by rw [ez]; exact hX _ _ hR1, fun n => absurd rfl n⟩))))
theorem p_law_1102 (hpp : pp_secret Rel) (hR : Rel hc hm) (g : ∀ k : Int32, 1 ≤ k.toInt → k.toInt ≤ 5 → vp_in (x3 + k) L) (hX : ∀ hc1 hm1 : hp, Rel hc1 hm1 → X (x3 + 6, hc1, hm1)) : w_law_1102 L xs X x3 hc hm := by
  unfold w_law_1102
  exact ⟨g 1 (by decide) (by decide), hpp hc hm _ hR _ (fun r hc1 hM => ⟨g 1 (by decide) (by decide), hM _ (fun hR1 => ⟨fun _ z ez => by rw [ez]; exact hX _ _ hR1, fun n => absurd rfl n⟩)⟩)⟩
theorem p_law_1125 (hpp : pp_shared Rel) (hR : Rel hc hm) (g : ∀ k : Int32, 1 ≤ k.toInt → k.toInt ≤ 5 → vp_in (x3 + k) L) (hX : ∀ hc1 hm1 : hp, Rel hc1 hm1 → X (x3 + 6, hc1, hm1)) : w_law_1125 L xs X x3 hc hm := by
  unfold w_law_1125
  exact ⟨g 1 (by decide) (by decide), g 2 (by decide) (by decide), hpp hc hm _ _ hR _ (fun r hc1 hM => ⟨g 1 (by decide) (by decide), g 2 (by decide) (by decide), hM _ (fun hR1 => ⟨fun _ z ez => by rw [ez]; exact hX _ _ hR1, fun n => absurd rfl n⟩)⟩)⟩
theorem p_law_1158 (hpp : pp_wrong Rel) (hR : Rel hc hm) (g : ∀ k : Int32, 1 ≤ k.toInt → k.toInt ≤ 5 → vp_in (x3 + k) L) (hX : ∀ hc1 hm1 : hp, Rel hc1 hm1 → X (x3 + 6, hc1, hm1)) : w_law_1158 L xs X x3 hc hm := by
  unfold w_law_1158
  exact ⟨g 1 (by decide) (by decide), hpp hc hm _ hR _ (fun r hc1 hM => ⟨g 1 (by decide) (by decide), hM _ (fun hR1 => ⟨fun _ z ez => by rw [ez]; exact hX _ _ hR1, fun n => absurd rfl n⟩)⟩)⟩
theorem p_law_1181 (hpp : pp_hide Rel) (hR : Rel hc hm) (g : ∀ k : Int32, 1 ≤ k.toInt → k.toInt ≤ 5 → vp_in (x3 + k) L) (hX : ∀ hc1 hm1 : hp, Rel hc1 hm1 → X (x3 + 6, hc1, hm1)) : w_law_1181 L xs X x3 hc hm := by
  unfold w_law_1181
  exact ⟨g 1 (by decide) (by decide), hpp hc hm _ hR _ (fun r hc1 hM => ⟨g 1 (by decide) (by decide), hM _ (fun hm1 hR1 => ⟨fun _ z ez => by rw [ez]; exact hX _ _ hR1, fun n => absurd rfl n⟩)⟩)⟩
theorem p_law_1204 (hpp : pp_ask Rel) (hR : Rel hc hm) (g : ∀ k : Int32, 1 ≤ k.toInt → k.toInt ≤ 5 → vp_in (x3 + k) L) (hX : ∀ hc1 hm1 : hp, Rel hc1 hm1 → X (x3 + 6, hc1, hm1)) : w_law_1204 L xs X x3 hc hm := by
  unfold w_law_1204
  exact ⟨g 1 (by decide) (by decide), hpp hc hm _ hR _ (fun r hc1 hM => ⟨g 1 (by decide) (by decide), hM _ (fun hm1 hR1 => ⟨fun _ z ez => by rw [ez]; exact hX _ _ hR1, fun n => absurd rfl n⟩)⟩)⟩
theorem p_law_1228 (hpp : pp_asks Rel) (hR : Rel hc hm) (g : ∀ k : Int32, 1 ≤ k.toInt → k.toInt ≤ 5 → vp_in (x3 + k) L) (hX : ∀ hc1 hm1 : hp, Rel hc1 hm1 → X (x3 + 6, hc1, hm1)) : w_law_1228 L xs X x3 hc hm := by
  unfold w_law_1228
  exact (hpp hc hm  hR _ (fun r hc1 hM => (hM _ (fun hm1 hR1 => ⟨fun _ z ez => by rw [ez]; exact hX _ _ hR1, fun n => absurd rfl n⟩))))
theorem p_law_1241 (hpp : pp_enough Rel) (hR : Rel hc hm) (g : ∀ k : Int32, 1 ≤ k.toInt → k.toInt ≤ 5 → vp_in (x3 + k) L) (hX : ∀ hc1 hm1 : hp, Rel hc1 hm1 → X (x3 + 6, hc1, hm1)) : w_law_1241 L xs X x3 hc hm := by
  unfold w_law_1241
  exact ⟨g 1 (by decide) (by decide), g 2 (by decide) (by decide), g 3 (by decide) (by decide), hpp hc hm _ _ _ hR _ (fun r hc1 hM => ⟨g 1 (by decide) (by decide), g 2 (by decide) (by decide), g 3 (by decide) (by decide), hM _ (fun hm1 hR1 => ⟨fun _ z ez => by rw [ez]; exact hX _ _ hR1, fun n => absurd rfl n⟩)⟩)⟩
theorem p_law_1284 (hpp : pp_shareRow Rel) (hR : Rel hc hm) (g : ∀ k : Int32, 1 ≤ k.toInt → k.toInt ≤ 5 → vp_in (x3 + k) L) (hX : ∀ hc1 hm1 : hp, Rel hc1 hm1 → X (x3 + 6, hc1, hm1)) : w_law_1284 L xs X x3 hc hm := by
  unfold w_law_1284
  exact ⟨g 1 (by decide) (by decide), g 2 (by decide) (by decide), hpp hc hm _ _ hR _ (fun r hc1 hM => ⟨g 1 (by decide) (by decide), g 2 (by decide) (by decide), hM _ (fun hm1 hR1 => ⟨fun _ z ez => by rw [ez]; exact hX _ _ hR1, fun n => absurd rfl n⟩)⟩)⟩
theorem p_law_1317 (hpp : pp_cost Rel) (hR : Rel hc hm) (g : ∀ k : Int32, 1 ≤ k.toInt → k.toInt ≤ 5 → vp_in (x3 + k) L) (hX : ∀ hc1 hm1 : hp, Rel hc1 hm1 → X (x3 + 6, hc1, hm1)) : w_law_1317 L xs X x3 hc hm := by
  unfold w_law_1317
  exact ⟨g 1 (by decide) (by decide), hpp hc hm _ hR _ (fun r hM => ⟨g 1 (by decide) (by decide), hM _ (fun hR1 => ⟨fun _ z ez => by rw [ez]; exact hX _ _ hR1, fun n => absurd rfl n⟩)⟩)⟩
theorem p_law_1340 (hpp : pp_degree Rel) (hR : Rel hc hm) (g : ∀ k : Int32, 1 ≤ k.toInt → k.toInt ≤ 5 → vp_in (x3 + k) L) (hX : ∀ hc1 hm1 : hp, Rel hc1 hm1 → X (x3 + 6, hc1, hm1)) : w_law_1340 L xs X x3 hc hm := by
  unfold w_law_1340
  exact ⟨g 1 (by decide) (by decide), hpp hc hm _ hR _ (fun r hM => ⟨g 1 (by decide) (by decide), hM _ (fun hR1 => ⟨fun _ z ez => by rw [ez]; exact hX _ _ hR1, fun n => absurd rfl n⟩)⟩)⟩
theorem p_law_1363 (hpp : pp_worldsAt Rel) (hR : Rel hc hm) (g : ∀ k : Int32, 1 ≤ k.toInt → k.toInt ≤ 5 → vp_in (x3 + k) L) (hX : ∀ hc1 hm1 : hp, Rel hc1 hm1 → X (x3 + 6, hc1, hm1)) : w_law_1363 L xs X x3 hc hm := by
  unfold w_law_1363
  exact ⟨g 1 (by decide) (by decide), g 2 (by decide) (by decide), g 3 (by decide) (by decide), hpp hc hm _ _ hR _ (fun r hc1 hM => ⟨g 1 (by decide) (by decide), g 2 (by decide) (by decide), g 3 (by decide) (by decide), hM _ (fun hR1 => ⟨fun _ z ez => by rw [ez]; exact hX _ _ hR1, fun n => absurd rfl n⟩)⟩)⟩
theorem p_law_1426 (hpp : pp_rest Rel) (hR : Rel hc hm) (g : ∀ k : Int32, 1 ≤ k.toInt → k.toInt ≤ 5 → vp_in (x3 + k) L) (hX : ∀ hc1 hm1 : hp, Rel hc1 hm1 → X (x3 + 6, hc1, hm1)) : w_law_1426 L xs X x3 hc hm := by
  unfold w_law_1426
  exact ⟨g 1 (by decide) (by decide), g 2 (by decide) (by decide), hpp hc hm _ _ hR _ (fun r hM => ⟨g 1 (by decide) (by decide), g 2 (by decide) (by decide), hM _ (fun hR1 => ⟨fun _ z ez => by rw [ez]; exact hX _ _ hR1, fun n => absurd rfl n⟩)⟩)⟩
theorem p_law_1459 (hpp : pp_alike Rel) (hR : Rel hc hm) (g : ∀ k : Int32, 1 ≤ k.toInt → k.toInt ≤ 5 → vp_in (x3 + k) L) (hX : ∀ hc1 hm1 : hp, Rel hc1 hm1 → X (x3 + 6, hc1, hm1)) : w_law_1459 L xs X x3 hc hm := by
  unfold w_law_1459
  exact ⟨g 1 (by decide) (by decide), g 2 (by decide) (by decide), hpp hc hm _ _ hR _ (fun r hM => ⟨g 1 (by decide) (by decide), g 2 (by decide) (by decide), hM _ (fun hR1 => ⟨fun _ z ez => by rw [ez]; exact hX _ _ hR1, fun n => absurd rfl n⟩)⟩)⟩
theorem p_law_1492 (hpp : pp_plus Rel) (hR : Rel hc hm) (g : ∀ k : Int32, 1 ≤ k.toInt → k.toInt ≤ 5 → vp_in (x3 + k) L) (hX : ∀ hc1 hm1 : hp, Rel hc1 hm1 → X (x3 + 6, hc1, hm1)) : w_law_1492 L xs X x3 hc hm := by
  unfold w_law_1492
  exact ⟨g 1 (by decide) (by decide), g 2 (by decide) (by decide), g 3 (by decide) (by decide), hpp hc hm _ _ _ hR _ (fun r hM => ⟨g 1 (by decide) (by decide), g 2 (by decide) (by decide), g 3 (by decide) (by decide), hM _ (fun hR1 => ⟨fun _ z ez => by rw [ez]; exact hX _ _ hR1, fun n => absurd rfl n⟩)⟩)⟩
theorem p_law_1535 (hpp : pp_times Rel) (hR : Rel hc hm) (g : ∀ k : Int32, 1 ≤ k.toInt → k.toInt ≤ 5 → vp_in (x3 + k) L) (hX : ∀ hc1 hm1 : hp, Rel hc1 hm1 → X (x3 + 6, hc1, hm1)) : w_law_1535 L xs X x3 hc hm := by
  unfold w_law_1535
  exact ⟨g 1 (by decide) (by decide), g 2 (by decide) (by decide), g 3 (by decide) (by decide), hpp hc hm _ _ _ hR _ (fun r hM => ⟨g 1 (by decide) (by decide), g 2 (by decide) (by decide), g 3 (by decide) (by decide), hM _ (fun hR1 => ⟨fun _ z ez => by rw [ez]; exact hX _ _ hR1, fun n => absurd rfl n⟩)⟩)⟩
theorem p_law_1578 (hpp : pp_margin Rel) (hR : Rel hc hm) (g : ∀ k : Int32, 1 ≤ k.toInt → k.toInt ≤ 5 → vp_in (x3 + k) L) (hX : ∀ hc1 hm1 : hp, Rel hc1 hm1 → X (x3 + 6, hc1, hm1)) : w_law_1578 L xs X x3 hc hm := by
  unfold w_law_1578
  exact (hpp hc hm  hR _ (fun r hc1 hM => (hM _ (fun hR1 => ⟨fun _ z ez => by rw [ez]; exact hX _ _ hR1, fun n => absurd rfl n⟩))))
theorem p_law_1591 (hpp : pp_pair Rel) (hR : Rel hc hm) (g : ∀ k : Int32, 1 ≤ k.toInt → k.toInt ≤ 5 → vp_in (x3 + k) L) (hX : ∀ hc1 hm1 : hp, Rel hc1 hm1 → X (x3 + 6, hc1, hm1)) : w_law_1591 L xs X x3 hc hm := by
  unfold w_law_1591
  exact ⟨g 1 (by decide) (by decide), g 2 (by decide) (by decide), hpp hc hm _ _ hR _ (fun r hM => ⟨g 1 (by decide) (by decide), g 2 (by decide) (by decide), hM _ (fun hR1 => ⟨fun _ z ez => by rw [ez]; exact hX _ _ hR1, fun n => absurd rfl n⟩)⟩)⟩
theorem p_law_1625 (hpp : pp_unpair Rel) (hR : Rel hc hm) (g : ∀ k : Int32, 1 ≤ k.toInt → k.toInt ≤ 5 → vp_in (x3 + k) L) (hX : ∀ hc1 hm1 : hp, Rel hc1 hm1 → X (x3 + 6, hc1, hm1)) : w_law_1625 L xs X x3 hc hm := by
  unfold w_law_1625
  refine ⟨g 1 (by decide) (by decide), g 2 (by decide) (by decide), g 3 (by decide) (by decide), ⟨fun e => ?_, fun e => ?_⟩⟩
  · exact hpp hc hm _ 0 hR (Or.inl rfl) _ (fun r hM => ⟨g 1 (by decide) (by decide), g 2 (by decide) (by decide), g 3 (by decide) (by decide), ⟨fun _ => hM _ (fun hR1 => ⟨fun _ z ez => by rw [ez]; exact hX _ _ hR1, fun n => absurd rfl n⟩), fun n => absurd e n⟩⟩)
  · exact hpp hc hm _ 1 hR (Or.inr rfl) _ (fun r hM => ⟨g 1 (by decide) (by decide), g 2 (by decide) (by decide), g 3 (by decide) (by decide), ⟨fun n => absurd n e, fun _ => hM _ (fun hR1 => ⟨fun _ z ez => by rw [ez]; exact hX _ _ hR1, fun n => absurd rfl n⟩)⟩⟩)
theorem p_law_1705 (hpp : pp_number Rel) (hR : Rel hc hm) (g : ∀ k : Int32, 1 ≤ k.toInt → k.toInt ≤ 5 → vp_in (x3 + k) L) (hX : ∀ hc1 hm1 : hp, Rel hc1 hm1 → X (x3 + 6, hc1, hm1)) : w_law_1705 L xs X x3 hc hm := by
  unfold w_law_1705
  exact ⟨g 1 (by decide) (by decide), hpp hc hm _ hR _ (fun r hM => ⟨g 1 (by decide) (by decide), hM _ (fun hR1 => ⟨fun _ z ez => by rw [ez]; exact hX _ _ hR1, fun n => absurd rfl n⟩)⟩)⟩
theorem p_law_1729 (hpp : pp_hold Rel) (hR : Rel hc hm) (g : ∀ k : Int32, 1 ≤ k.toInt → k.toInt ≤ 5 → vp_in (x3 + k) L) (hX : ∀ hc1 hm1 : hp, Rel hc1 hm1 → X (x3 + 6, hc1, hm1)) : w_law_1729 L xs X x3 hc hm := by
  unfold w_law_1729
  exact ⟨g 1 (by decide) (by decide), hpp hc hm _ hR _ (fun r hc1 hM => ⟨g 1 (by decide) (by decide), hM _ (fun hm1 hR1 => ⟨fun _ z ez => by rw [ez]; exact hX _ _ hR1, fun n => absurd rfl n⟩)⟩)⟩
theorem p_law_1752 (hpp : pp_restore Rel) (hR : Rel hc hm) (g : ∀ k : Int32, 1 ≤ k.toInt → k.toInt ≤ 5 → vp_in (x3 + k) L) (hX : ∀ hc1 hm1 : hp, Rel hc1 hm1 → X (x3 + 6, hc1, hm1)) : w_law_1752 L xs X x3 hc hm := by
  unfold w_law_1752
  exact ⟨g 1 (by decide) (by decide), hpp hc hm _ hR _ (fun r hc1 hM => ⟨g 1 (by decide) (by decide), hM _ (fun hm1 hR1 => ⟨fun _ z ez => by rw [ez]; exact hX _ _ hR1, fun n => absurd rfl n⟩)⟩)⟩
theorem p_law_1775 (hpp : pp_count Rel) (hR : Rel hc hm) (g : ∀ k : Int32, 1 ≤ k.toInt → k.toInt ≤ 5 → vp_in (x3 + k) L) (hX : ∀ hc1 hm1 : hp, Rel hc1 hm1 → X (x3 + 6, hc1, hm1)) : w_law_1775 L xs X x3 hc hm := by
  unfold w_law_1775
  exact ⟨g 1 (by decide) (by decide), hpp hc hm _ hR _ (fun r hM => ⟨g 1 (by decide) (by decide), hM _ (fun hR1 => ⟨fun _ z ez => by rw [ez]; exact hX _ _ hR1, fun n => absurd rfl n⟩)⟩)⟩
end LAWP
theorem w6 {L : Nat} {xs : Nat → Int32} {Rel : hp → hp → Prop} (hL : L ≤ 3072)
    (p_feed : pp_feed Rel)
    (p_back : pp_back Rel)
    (p_read : pp_read Rel)
    (p_place : pp_place Rel)
    (p_row : pp_row Rel)
    (p_comes : pp_comes Rel)
    (p_two : pp_two Rel)
    (p_figure : pp_figure Rel)
    (p_clash : pp_clash Rel)
    (p_world : pp_world Rel)
    (p_tell : pp_tell Rel)
    (p_forget : pp_forget Rel)
    (p_fits : pp_fits Rel)
    (p_sure : pp_sure Rel)
    (p_span : pp_span Rel)
    (p_liars : pp_liars Rel)
    (p_next : pp_next Rel)
    (p_once : pp_once Rel)
    (p_few : pp_few Rel)
    (p_meets : pp_meets Rel)
    (p_game : pp_game Rel)
    (p_bad : pp_bad Rel)
    (p_badSet : pp_badSet Rel)
    (p_allTold : pp_allTold Rel)
    (p_secret : pp_secret Rel)
    (p_shared : pp_shared Rel)
    (p_wrong : pp_wrong Rel)
    (p_hide : pp_hide Rel)
    (p_ask : pp_ask Rel)
    (p_asks : pp_asks Rel)
    (p_enough : pp_enough Rel)
    (p_shareRow : pp_shareRow Rel)
    (p_cost : pp_cost Rel)
    (p_degree : pp_degree Rel)
    (p_worldsAt : pp_worldsAt Rel)
    (p_rest : pp_rest Rel)
    (p_alike : pp_alike Rel)
    (p_plus : pp_plus Rel)
    (p_times : pp_times Rel)
    (p_margin : pp_margin Rel)
    (p_pair : pp_pair Rel)
    (p_unpair : pp_unpair Rel)
    (p_number : pp_number Rel)
    (p_hold : pp_hold Rel)
    (p_restore : pp_restore Rel)
    (p_count : pp_count Rel)
    {hc hm : hp} (hR : Rel hc hm) : w_law L xs 0 hc hm := by
  intro X hX
  have key : ∀ (n i : Nat), L < 6 * i + 6 * n → 6 * i ≤ L → ∀ hc hm : hp, Rel hc hm → X (nI (6 * i), hc, hm) := by
    intro n
    induction n with
    | zero => intro i h1 h2; omega
    | succ n ih =>
      intro i h1 h2 hc hm hR
      apply hX
      have eL := n_toInt (n := L) (by omega)
      have ei := n_toInt (n := 6 * i) (by omega)
      have e6 : (6 : Int32).toInt = 6 := rfl
      have eL6 : (nI L - 6).toInt = (L : Int) - 6 := by rw [t_sub (by rw [eL, e6]; omega) (by rw [eL, e6]; omega), eL, e6]
      unfold w_law_b
      refine ⟨fun _ => trivial, fun c => ?_⟩
      have c : ¬ nI L - 6 < nI (6 * i) := c
      rw [t_lt, eL6, ei] at c
      have g0 : vp_in (nI (6 * i)) L := in_n (by omega) (by omega)
      have g : ∀ k : Int32, 1 ≤ k.toInt → k.toInt ≤ 5 → vp_in (nI (6 * i) + k) L := fun k k1 k2 => by
        have e : (nI (6 * i) + k).toInt = (6 * i : Nat) + k.toInt := by rw [t_add (by rw [ei]; omega) (by rw [ei]; omega), ei]
        exact t_in.mpr ⟨by rw [e]; omega, by rw [e]; omega⟩
      have hX6 : ∀ hc1 hm1 : hp, Rel hc1 hm1 → X (nI (6 * i) + 6, hc1, hm1) := fun hc1 hm1 h => by
        have e : nI (6 * i) + 6 = nI (6 * (i + 1)) := nI_add (6 * i) 6
        rw [e]
        exact ih (i + 1) (by omega) (by omega) hc1 hm1 h
      refine ⟨g0, fun sw esw => ?_⟩
      exact ⟨fun _ => p_law_232 p_feed hR g hX6, fun _ => p_law_295 p_back hR g hX6, fun _ => p_law_318 p_read hR g hX6, fun _ => p_law_331 p_place hR g hX6, fun _ => p_law_344 p_row hR g hX6, fun _ => p_law_377 p_comes hR g hX6, fun _ => p_law_411 p_two hR g hX6, fun _ => p_law_445 p_figure hR g hX6, fun _ => p_law_518 p_clash hR g hX6, fun _ => p_law_567 p_world hR g hX6, fun _ => p_law_600 p_tell hR g hX6, fun _ => p_law_663 p_forget hR g hX6, fun _ => p_law_676 p_fits hR g hX6, fun _ => p_law_729 p_sure hR g hX6, fun _ => p_law_772 p_span hR g hX6, fun _ => p_law_825 p_liars hR g hX6, fun _ => p_law_868 p_next hR g hX6, fun _ => p_law_921 p_once hR g hX6, fun _ => p_law_934 p_few hR g hX6, fun _ => p_law_957 p_meets hR g hX6, fun _ => p_law_990 p_game hR g hX6, fun _ => p_law_1023 p_bad hR g hX6, fun _ => p_law_1056 p_badSet hR g hX6, fun _ => p_law_1089 p_allTold hR g hX6, fun _ => p_law_1102 p_secret hR g hX6, fun _ => p_law_1125 p_shared hR g hX6, fun _ => p_law_1158 p_wrong hR g hX6, fun _ => p_law_1181 p_hide hR g hX6, fun _ => p_law_1204 p_ask hR g hX6, fun _ => p_law_1228 p_asks hR g hX6, fun _ => p_law_1241 p_enough hR g hX6, fun _ => p_law_1284 p_shareRow hR g hX6, fun _ => p_law_1317 p_cost hR g hX6, fun _ => p_law_1340 p_degree hR g hX6, fun _ => p_law_1363 p_worldsAt hR g hX6, fun _ => p_law_1426 p_rest hR g hX6, fun _ => p_law_1459 p_alike hR g hX6, fun _ => p_law_1492 p_plus hR g hX6, fun _ => p_law_1535 p_times hR g hX6, fun _ => p_law_1578 p_margin hR g hX6, fun _ => p_law_1591 p_pair hR g hX6, fun _ => p_law_1625 p_unpair hR g hX6, fun _ => p_law_1705 p_number hR g hX6, fun _ => p_law_1729 p_hold hR g hX6, fun _ => p_law_1752 p_restore hR g hX6, fun _ => p_law_1775 p_count hR g hX6, fun _ z ez => by rw [ez]; exact hX6 _ _ hR⟩
  exact key (L + 1) 0 (by omega) (by omega) hc hm hR
