-- the law's loop, for any relation of the two memories that every case keeps
def lawP_thing (N : Nat) (Rel : Nat → gSt → gSt → Prop) : Prop := ∀ (i : Nat) (x : Nat → Int32) (Mc Mr : gSt) (K : gSt → gSt → Prop), i + 6 ≤ N → Rel i Mc Mr → (∀ Mc' Mr', Rel (i + 6) Mc' Mr' → K Mc' Mr') → w_X8_thing (x 1).toInt (x 2).toInt Mc (fun r Mc' => w_Rthing (x 1).toInt (x 2).toInt Mr (fun r' Mr' => K Mc' Mr'))
def lawP_thingIs (N : Nat) (Rel : Nat → gSt → gSt → Prop) : Prop := ∀ (i : Nat) (x : Nat → Int32) (Mc Mr : gSt) (K : gSt → gSt → Prop), i + 6 ≤ N → Rel i Mc Mr → (∀ Mc' Mr', Rel (i + 6) Mc' Mr' → K Mc' Mr') → w_X8_thingIs (x 1).toInt (x 2).toInt Mc (fun r Mc' => w_RthingIs (x 1).toInt (x 2).toInt Mr (fun r' Mr' => K Mc' Mr'))
def lawP_as (N : Nat) (Rel : Nat → gSt → gSt → Prop) : Prop := ∀ (i : Nat) (x : Nat → Int32) (Mc Mr : gSt) (K : gSt → gSt → Prop), i + 6 ≤ N → Rel i Mc Mr → (∀ Mc' Mr', Rel (i + 6) Mc' Mr' → K Mc' Mr') → w_X8_as (x 1).toInt (x 2).toInt Mc (fun r Mc' => w_Ras (x 1).toInt (x 2).toInt Mr (fun r' Mr' => wrap r = wrap r' ∧ K Mc' Mr'))
def lawP_set (N : Nat) (Rel : Nat → gSt → gSt → Prop) : Prop := ∀ (i : Nat) (x : Nat → Int32) (Mc Mr : gSt) (K : gSt → gSt → Prop), i + 6 ≤ N → Rel i Mc Mr → (∀ Mc' Mr', Rel (i + 6) Mc' Mr' → K Mc' Mr') → w_X8_set (x 1).toInt (x 2).toInt (x 3).toInt Mc (fun r Mc' => w_Rset (x 1).toInt (x 2).toInt (x 3).toInt Mr (fun r' Mr' => K Mc' Mr'))
def lawP_melt (N : Nat) (Rel : Nat → gSt → gSt → Prop) : Prop := ∀ (i : Nat) (x : Nat → Int32) (Mc Mr : gSt) (K : gSt → gSt → Prop), i + 6 ≤ N → Rel i Mc Mr → (∀ Mc' Mr', Rel (i + 6) Mc' Mr' → K Mc' Mr') → w_X8_melt (x 1).toInt (x 2).toInt Mc (fun r Mc' => w_Rmelt (x 1).toInt (x 2).toInt Mr (fun r' Mr' => K Mc' Mr'))
def lawP_crucible (N : Nat) (Rel : Nat → gSt → gSt → Prop) : Prop := ∀ (i : Nat) (x : Nat → Int32) (Mc Mr : gSt) (K : gSt → gSt → Prop), i + 6 ≤ N → Rel i Mc Mr → (∀ Mc' Mr', Rel (i + 6) Mc' Mr' → K Mc' Mr') → w_X8_crucible (x 1).toInt Mc (fun r Mc' => w_Rcrucible (x 1).toInt Mr (fun r' Mr' => K Mc' Mr'))
def lawP_cast (N : Nat) (Rel : Nat → gSt → gSt → Prop) : Prop := ∀ (i : Nat) (x : Nat → Int32) (Mc Mr : gSt) (K : gSt → gSt → Prop), i + 6 ≤ N → Rel i Mc Mr → (∀ Mc' Mr', Rel (i + 6) Mc' Mr' → K Mc' Mr') → w_X8_cast (x 1).toInt (x 2).toInt (x 3).toInt Mc (fun r Mc' => w_Rcast (x 1).toInt (x 2).toInt (x 3).toInt Mr (fun r' Mr' => K Mc' Mr'))
def lawP_years (N : Nat) (Rel : Nat → gSt → gSt → Prop) : Prop := ∀ (i : Nat) (x : Nat → Int32) (Mc Mr : gSt) (K : gSt → gSt → Prop), i + 6 ≤ N → Rel i Mc Mr → (∀ Mc' Mr', Rel (i + 6) Mc' Mr' → K Mc' Mr') → w_X8_years (x 1).toInt Mc (fun r Mc' => w_Ryears (x 1).toInt Mr (fun r' Mr' => K Mc' Mr'))
def lawP_then (N : Nat) (Rel : Nat → gSt → gSt → Prop) : Prop := ∀ (i : Nat) (x : Nat → Int32) (Mc Mr : gSt) (K : gSt → gSt → Prop), i + 6 ≤ N → Rel i Mc Mr → (∀ Mc' Mr', Rel (i + 6) Mc' Mr' → K Mc' Mr') → w_X8_then (x 1).toInt (x 2).toInt (x 3).toInt Mc (fun r Mc' => w_Rthen (x 1).toInt (x 2).toInt (x 3).toInt Mr (fun r' Mr' => K Mc' Mr'))
def lawP_seed (N : Nat) (Rel : Nat → gSt → gSt → Prop) : Prop := ∀ (i : Nat) (x : Nat → Int32) (Mc Mr : gSt) (K : gSt → gSt → Prop), i + 6 ≤ N → Rel i Mc Mr → (∀ Mc' Mr', Rel (i + 6) Mc' Mr' → K Mc' Mr') → w_X8_seed (x 1).toInt Mc (fun r Mc' => w_Rseed (x 1).toInt Mr (fun r' Mr' => K Mc' Mr'))
def lawP_feed (N : Nat) (Rel : Nat → gSt → gSt → Prop) : Prop := ∀ (i : Nat) (x : Nat → Int32) (Mc Mr : gSt) (K : gSt → gSt → Prop), i + 6 ≤ N → Rel i Mc Mr → (∀ Mc' Mr', Rel (i + 6) Mc' Mr' → K Mc' Mr') → w_X8_feed (yor (yshl (wrap (x 1).toInt) 32) (yand (wrap (x 2).toInt) 4294967295)) (x 3).toInt Mc (fun r Mc' => w_Rfeed (yor (yshl (wrap (x 1).toInt) 32) (yand (wrap (x 2).toInt) 4294967295)) (x 3).toInt Mr (fun r' Mr' => K Mc' Mr'))
def lawP_text (N : Nat) (Rel : Nat → gSt → gSt → Prop) : Prop := ∀ (i : Nat) (x : Nat → Int32) (Mc Mr : gSt) (K : gSt → gSt → Prop), i + 6 ≤ N → Rel i Mc Mr → (∀ Mc' Mr', Rel (i + 6) Mc' Mr' → K Mc' Mr') → w_X8_text (x 1).toInt Mc (fun r Mc' => w_Rtext (x 1).toInt Mr (fun r' Mr' => K Mc' Mr'))
def lawP_untell (N : Nat) (Rel : Nat → gSt → gSt → Prop) : Prop := ∀ (i : Nat) (x : Nat → Int32) (Mc Mr : gSt) (K : gSt → gSt → Prop), i + 6 ≤ N → Rel i Mc Mr → (∀ Mc' Mr', Rel (i + 6) Mc' Mr' → K Mc' Mr') → w_X8_untell (x 1).toInt Mc (fun r Mc' => w_Runtell (x 1).toInt Mr (fun r' Mr' => K Mc' Mr'))
def lawP_claim (N : Nat) (Rel : Nat → gSt → gSt → Prop) : Prop := ∀ (i : Nat) (x : Nat → Int32) (Mc Mr : gSt) (K : gSt → gSt → Prop), i + 6 ≤ N → Rel i Mc Mr → (∀ Mc' Mr', Rel (i + 6) Mc' Mr' → K Mc' Mr') → w_X8_claim (x 1).toInt (x 2).toInt Mc (fun r Mc' => w_Rclaim (x 1).toInt (x 2).toInt Mr (fun r' Mr' => K Mc' Mr'))
def lawP_claimIs (N : Nat) (Rel : Nat → gSt → gSt → Prop) : Prop := ∀ (i : Nat) (x : Nat → Int32) (Mc Mr : gSt) (K : gSt → gSt → Prop), i + 6 ≤ N → Rel i Mc Mr → (∀ Mc' Mr', Rel (i + 6) Mc' Mr' → K Mc' Mr') → w_X8_claimIs (x 1).toInt (x 2).toInt Mc (fun r Mc' => w_RclaimIs (x 1).toInt (x 2).toInt Mr (fun r' Mr' => K Mc' Mr'))
def lawP_share (N : Nat) (Rel : Nat → gSt → gSt → Prop) : Prop := ∀ (i : Nat) (x : Nat → Int32) (Mc Mr : gSt) (K : gSt → gSt → Prop), i + 6 ≤ N → Rel i Mc Mr → (∀ Mc' Mr', Rel (i + 6) Mc' Mr' → K Mc' Mr') → w_X8_share (x 1).toInt (x 2).toInt Mc (fun r Mc' => w_Rshare (x 1).toInt (x 2).toInt Mr (fun r' Mr' => K Mc' Mr'))
def lawP_left (N : Nat) (Rel : Nat → gSt → gSt → Prop) : Prop := ∀ (i : Nat) (x : Nat → Int32) (Mc Mr : gSt) (K : gSt → gSt → Prop), i + 6 ≤ N → Rel i Mc Mr → (∀ Mc' Mr', Rel (i + 6) Mc' Mr' → K Mc' Mr') → w_X8_left (x 1).toInt (x 2).toInt Mc (fun r Mc' => w_Rleft (x 1).toInt (x 2).toInt Mr (fun r' Mr' => K Mc' Mr'))
def lawP_paper (N : Nat) (Rel : Nat → gSt → gSt → Prop) : Prop := ∀ (i : Nat) (x : Nat → Int32) (Mc Mr : gSt) (K : gSt → gSt → Prop), i + 6 ≤ N → Rel i Mc Mr → (∀ Mc' Mr', Rel (i + 6) Mc' Mr' → K Mc' Mr') → w_X8_paper (x 1).toInt (x 2).toInt (x 3).toInt Mc (fun r Mc' => w_Rpaper (x 1).toInt (x 2).toInt (x 3).toInt Mr (fun r' Mr' => K Mc' Mr'))
def lawP_weigh (N : Nat) (Rel : Nat → gSt → gSt → Prop) : Prop := ∀ (i : Nat) (x : Nat → Int32) (Mc Mr : gSt) (K : gSt → gSt → Prop), i + 6 ≤ N → Rel i Mc Mr → (∀ Mc' Mr', Rel (i + 6) Mc' Mr' → K Mc' Mr') → w_X8_weigh (x 1).toInt (x 2).toInt (x 3).toInt Mc (fun r Mc' => w_Rweigh (x 1).toInt (x 2).toInt (x 3).toInt Mr (fun r' Mr' => K Mc' Mr'))
def lawP_forget (N : Nat) (Rel : Nat → gSt → gSt → Prop) : Prop := ∀ (i : Nat) (x : Nat → Int32) (Mc Mr : gSt) (K : gSt → gSt → Prop), i + 6 ≤ N → Rel i Mc Mr → (∀ Mc' Mr', Rel (i + 6) Mc' Mr' → K Mc' Mr') → w_X8_forget (x 1).toInt Mc (fun r Mc' => w_Rforget (x 1).toInt Mr (fun r' Mr' => K Mc' Mr'))
def lawP_by (N : Nat) (Rel : Nat → gSt → gSt → Prop) : Prop := ∀ (i : Nat) (x : Nat → Int32) (Mc Mr : gSt) (K : gSt → gSt → Prop), i + 6 ≤ N → Rel i Mc Mr → (∀ Mc' Mr', Rel (i + 6) Mc' Mr' → K Mc' Mr') → w_X8_by (x 1).toInt (x 2).toInt (x 3).toInt Mc (fun r Mc' => w_Rby (x 1).toInt (x 2).toInt (x 3).toInt Mr (fun r' Mr' => K Mc' Mr'))
def lawP_fits (N : Nat) (Rel : Nat → gSt → gSt → Prop) : Prop := ∀ (i : Nat) (x : Nat → Int32) (Mc Mr : gSt) (K : gSt → gSt → Prop), i + 6 ≤ N → Rel i Mc Mr → (∀ Mc' Mr', Rel (i + 6) Mc' Mr' → K Mc' Mr') → w_X8_fits (x 1).toInt Mc (fun r Mc' => w_Rfits (x 1).toInt Mr (fun r' Mr' => K Mc' Mr'))
def lawP_span (N : Nat) (Rel : Nat → gSt → gSt → Prop) : Prop := ∀ (i : Nat) (x : Nat → Int32) (Mc Mr : gSt) (K : gSt → gSt → Prop), i + 6 ≤ N → Rel i Mc Mr → (∀ Mc' Mr', Rel (i + 6) Mc' Mr' → K Mc' Mr') → w_X8_span (x 1).toInt (x 2).toInt (x 3).toInt Mc (fun r Mc' => w_Rspan (x 1).toInt (x 2).toInt (x 3).toInt Mr (fun r' Mr' => K Mc' Mr'))
def lawP_next (N : Nat) (Rel : Nat → gSt → gSt → Prop) : Prop := ∀ (i : Nat) (x : Nat → Int32) (Mc Mr : gSt) (K : gSt → gSt → Prop), i + 6 ≤ N → Rel i Mc Mr → (∀ Mc' Mr', Rel (i + 6) Mc' Mr' → K Mc' Mr') → w_X8_next  Mc (fun r Mc' => w_Rnext  Mr (fun r' Mr' => K Mc' Mr'))
def lawP_most (N : Nat) (Rel : Nat → gSt → gSt → Prop) : Prop := ∀ (i : Nat) (x : Nat → Int32) (Mc Mr : gSt) (K : gSt → gSt → Prop), i + 6 ≤ N → Rel i Mc Mr → (∀ Mc' Mr', Rel (i + 6) Mc' Mr' → K Mc' Mr') → w_X8_most (x 1).toInt (x 2).toInt (x 3).toInt Mc (fun r Mc' => w_Rmost (x 1).toInt (x 2).toInt (x 3).toInt Mr (fun r' Mr' => K Mc' Mr'))
def lawP_voice (N : Nat) (Rel : Nat → gSt → gSt → Prop) : Prop := ∀ (i : Nat) (x : Nat → Int32) (Mc Mr : gSt) (K : gSt → gSt → Prop), i + 6 ≤ N → Rel i Mc Mr → (∀ Mc' Mr', Rel (i + 6) Mc' Mr' → K Mc' Mr') → w_X8_voice (x 1).toInt (x 2).toInt (x 3).toInt Mc (fun r Mc' => w_Rvoice (x 1).toInt (x 2).toInt (x 3).toInt Mr (fun r' Mr' => K Mc' Mr'))
def lawP_body (N : Nat) (Rel : Nat → gSt → gSt → Prop) : Prop := ∀ (i : Nat) (x : Nat → Int32) (Mc Mr : gSt) (K : gSt → gSt → Prop), i + 6 ≤ N → Rel i Mc Mr → (∀ Mc' Mr', Rel (i + 6) Mc' Mr' → K Mc' Mr') → w_X8_body (x 1).toInt Mc (fun r Mc' => w_Rbody (x 1).toInt Mr (fun r' Mr' => K Mc' Mr'))
def lawP_sheet (N : Nat) (Rel : Nat → gSt → gSt → Prop) : Prop := ∀ (i : Nat) (x : Nat → Int32) (Mc Mr : gSt) (K : gSt → gSt → Prop), i + 6 ≤ N → Rel i Mc Mr → (∀ Mc' Mr', Rel (i + 6) Mc' Mr' → K Mc' Mr') → w_X8_sheet (x 1).toInt (x 2).toInt (x 3).toInt Mc (fun r Mc' => w_Rsheet (x 1).toInt (x 2).toInt (x 3).toInt Mr (fun r' Mr' => K Mc' Mr'))
def lawP_put (N : Nat) (Rel : Nat → gSt → gSt → Prop) : Prop := ∀ (i : Nat) (x : Nat → Int32) (Mc Mr : gSt) (K : gSt → gSt → Prop), i + 6 ≤ N → Rel i Mc Mr → (∀ Mc' Mr', Rel (i + 6) Mc' Mr' → K Mc' Mr') → w_X8_put (x 1).toInt (x 2).toInt (x 3).toInt Mc (fun r Mc' => w_Rput (x 1).toInt (x 2).toInt (x 3).toInt Mr (fun r' Mr' => K Mc' Mr'))
def lawP_move (N : Nat) (Rel : Nat → gSt → gSt → Prop) : Prop := ∀ (i : Nat) (x : Nat → Int32) (Mc Mr : gSt) (K : gSt → gSt → Prop), i + 6 ≤ N → Rel i Mc Mr → (∀ Mc' Mr', Rel (i + 6) Mc' Mr' → K Mc' Mr') → w_X8_move (x 1).toInt (x 2).toInt (x 3).toInt (x 4).toInt (x 5).toInt Mc (fun r Mc' => w_Rmove (x 1).toInt (x 2).toInt (x 3).toInt (x 4).toInt (x 5).toInt Mr (fun r' Mr' => K Mc' Mr'))
def lawP_papers (N : Nat) (Rel : Nat → gSt → gSt → Prop) : Prop := ∀ (i : Nat) (x : Nat → Int32) (Mc Mr : gSt) (K : gSt → gSt → Prop), i + 6 ≤ N → Rel i Mc Mr → (∀ Mc' Mr', Rel (i + 6) Mc' Mr' → K Mc' Mr') → w_X8_papers (x 1).toInt Mc (fun r Mc' => w_Rpapers (x 1).toInt Mr (fun r' Mr' => K Mc' Mr'))
def lawP_judge (N : Nat) (Rel : Nat → gSt → gSt → Prop) : Prop := ∀ (i : Nat) (x : Nat → Int32) (Mc Mr : gSt) (K : gSt → gSt → Prop), i + 6 ≤ N → Rel i Mc Mr → (∀ Mc' Mr', Rel (i + 6) Mc' Mr' → K Mc' Mr') → w_X8_judge (x 1).toInt (x 2).toInt Mc (fun r Mc' => w_Rjudge (x 1).toInt (x 2).toInt Mr (fun r' Mr' => K Mc' Mr'))
def lawP_image (N : Nat) (Rel : Nat → gSt → gSt → Prop) : Prop := ∀ (i : Nat) (x : Nat → Int32) (Mc Mr : gSt) (K : gSt → gSt → Prop), i + 6 ≤ N → Rel i Mc Mr → (∀ Mc' Mr', Rel (i + 6) Mc' Mr' → K Mc' Mr') → w_X8_image  Mc (fun r Mc' => w_Rimage  Mr (fun r' Mr' => K Mc' Mr'))
def lawP_restore (N : Nat) (Rel : Nat → gSt → gSt → Prop) : Prop := ∀ (i : Nat) (x : Nat → Int32) (Mc Mr : gSt) (K : gSt → gSt → Prop), i + 6 ≤ N → Rel i Mc Mr → (∀ Mc' Mr', Rel (i + 6) Mc' Mr' → K Mc' Mr') → w_X8_restore  Mc (fun r Mc' => w_Rrestore  Mr (fun r' Mr' => K Mc' Mr'))
def lawP_tell (N : Nat) (Rel : Nat → gSt → gSt → Prop) : Prop := ∀ (i : Nat) (x : Nat → Int32) (Mc Mr : gSt) (K : gSt → gSt → Prop), i + 6 ≤ N → Rel i Mc Mr → (∀ Mc' Mr', Rel (i + 6) Mc' Mr' → K Mc' Mr') → w_X8_tell (x 1).toInt Mc (fun r Mc' => w_Rtell (x 1).toInt Mr (fun r' Mr' => K Mc' Mr'))
def lawP_check (N : Nat) (Rel : Nat → gSt → gSt → Prop) : Prop := ∀ (i : Nat) (x : Nat → Int32) (Mc Mr : gSt) (K : gSt → gSt → Prop), i + 6 ≤ N → Rel i Mc Mr → (∀ Mc' Mr', Rel (i + 6) Mc' Mr' → K Mc' Mr') → w_X8_check  Mc (fun r Mc' => w_Rcheck  Mr (fun r' Mr' => K Mc' Mr'))
def lawP_count (N : Nat) (Rel : Nat → gSt → gSt → Prop) : Prop := ∀ (i : Nat) (x : Nat → Int32) (Mc Mr : gSt) (K : gSt → gSt → Prop), i + 6 ≤ N → Rel i Mc Mr → (∀ Mc' Mr', Rel (i + 6) Mc' Mr' → K Mc' Mr') → w_X8_count (x 1).toInt Mc (fun r Mc' => w_Rcount (x 1).toInt Mr (fun r' Mr' => K Mc' Mr'))
def lawP_told (N : Nat) (Rel : Nat → gSt → gSt → Prop) : Prop := ∀ (i : Nat) (x : Nat → Int32) (Mc Mr : gSt) (K : gSt → gSt → Prop), i + 6 ≤ N → Rel i Mc Mr → (∀ Mc' Mr', Rel (i + 6) Mc' Mr' → K Mc' Mr') → w_X8_told (x 1).toInt Mc (fun r Mc' => w_Rtold (x 1).toInt Mr (fun r' Mr' => K Mc' Mr'))
def lawOK (N : Nat) (Rel : Nat → gSt → gSt → Prop) : Prop := lawP_thing N Rel ∧ lawP_thingIs N Rel ∧ lawP_as N Rel ∧ lawP_set N Rel ∧ lawP_melt N Rel ∧ lawP_crucible N Rel ∧ lawP_cast N Rel ∧ lawP_years N Rel ∧ lawP_then N Rel ∧ lawP_seed N Rel ∧ lawP_feed N Rel ∧ lawP_text N Rel ∧ lawP_untell N Rel ∧ lawP_claim N Rel ∧ lawP_claimIs N Rel ∧ lawP_share N Rel ∧ lawP_left N Rel ∧ lawP_paper N Rel ∧ lawP_weigh N Rel ∧ lawP_forget N Rel ∧ lawP_by N Rel ∧ lawP_fits N Rel ∧ lawP_span N Rel ∧ lawP_next N Rel ∧ lawP_most N Rel ∧ lawP_voice N Rel ∧ lawP_body N Rel ∧ lawP_sheet N Rel ∧ lawP_put N Rel ∧ lawP_move N Rel ∧ lawP_papers N Rel ∧ lawP_judge N Rel ∧ lawP_image N Rel ∧ lawP_restore N Rel ∧ lawP_tell N Rel ∧ lawP_check N Rel ∧ lawP_count N Rel ∧ lawP_told N Rel ∧ ∀ (i : Nat) (Mc Mr : gSt), i + 6 ≤ N → Rel i Mc Mr → Rel (i + 6) Mc Mr
/-! THE CLAIM OUT OF ONE WALK OF THE LAW'S BODY. Your part is whole_start (and what it stands on); all else here is the same for every law, but numbers. -/
def lw_P (b : Addr) (xs : List Int32) (args : Array Value) (s : State) : Prop := args = #[.ref b] ∧ s.IntsAt b xs ∧ xs.length ≤ 384 ∧ (Jvm.Cond.and given_1 narrow_1).before args s = true
def lw_Q (_ : Array Value) (s : State) (o : Outcome) (t : State) : Prop := o = .returned (some (.int 1)) ∧ Framed s o t [] 600000 7302250
def lw_Z (below : List Frame) (a : Array Value) (s : State) : State → Prop := fun t => ∃ o, t.status = .running ∧ Ended t below o ∧ lw_Q a s o t
/-- the law's own end, with 1 on the stack, nothing written that was there before, its room as the claim has it -/
theorem lw_ret {p : Program} {l : Launch} {e : Env} {s : State} {m : MethodId} {below : List Frame} {meth : Method} {c : Code} {b : Nat} (hx : p.tables.exec = Jvm.exec) (hb : c.code = code) (hr : meth.sig.returnType = ret) (hlocks : meth.locks = false) {pc : Nat} {H : Heap} {ls : Array Slot} (hdg : decode code pc = .ok (.ireturn, 1)) : W p l e room_1 s m #[Value.ref b] below meth c H [] 600000 7302250 (lw_Z below #[Value.ref b] s) (F0 m pc ls [.int 1]) := by
  intro T hT X
  obtain ⟨fs, hret, hrun, hended, hW, hframe⟩ := X.leave (v := some (.int 1)) (hlocks := hlocks) (fun h => by rw [hr] at h; cases h)
  have hmeth' : T.vm.method? m = some meth := X.method'
  refine ⟨T.setFrames fs, ?_, .returned (some (.int 1)), hrun, hended, rfl, ⟨_, rfl⟩, hW, hframe⟩
  jvm_step X.here [X.here.top, hx, hb, hdg, hmeth', hr, ret, narrow_b1]
  (try refine ⟨rfl, ?_⟩); (try refine ⟨rfl, ?_⟩)
  first | (intro acts; rw [hret _ acts rfl rfl rfl]) | rw [hret _ _ rfl rfl rfl]
  exact Steps.refl _
/-- what holds at the law's entry: the machine, the code, the tables' words (any of lw_tbl by 'hts w (by decide +kernel)'), the script of L ints xs at the cell b, what the Statement gives of the start (any of its parts by flat_of_before) -/
def lw_At (p : Program) (s : State) (m : MethodId) (meth : Method) (c : Code) (b L : Nat) (xs : Nat → Int32) : Prop :=
  p.tables.exec = Jvm.exec ∧ c.code = code ∧ meth.sig.returnType = ret ∧ c.maxLocals = 4 ∧ s.vm.findClass R_law = some m.cls ∧ (∀ w ∈ lw_tbl, w.before #[Value.ref b] s = true) ∧ va_X b L xs s s.heap ∧ b < s.heap.size ∧ meth.locks = false ∧ (Jvm.Cond.and given_1 narrow_1).before #[Value.ref b] s = true

theorem xand63 (x : Int) : 0 ≤ wrap (xand x 63) ∧ wrap (xand x 63) < 64 := by
  unfold xand
  have h : ∀ y : BitVec 32, (y &&& 63#32).toNat < 64 := fun y => by
    rw [BitVec.toNat_and]
    exact Nat.lt_of_le_of_lt Nat.and_le_right (by decide)
  have e : (Int32.ofInt x &&& Int32.ofInt 63).toInt = ((Int32.ofInt x).toBitVec &&& 63#32).toInt := rfl
  rw [e]
  have h1 := h (Int32.ofInt x).toBitVec
  rw [BitVec.toInt_eq_toNat_of_lt (by omega)]
  unfold wrap
  omega
section LOOP
variable {p : Program} {l : Launch} {e : Env} {s : State} {m : MethodId} {below : List Frame} {meth : Method} {c : Code} {Q : State → Prop} {D : va_G} {A : Nat → Prop} {b L : Nat} {xs : Nat → Int32} {ad bd : Nat → Nat} {cI cS : ClassId}
/-- a case of the switch, once its call keeps the relation -/
theorem lawSwitch (h0 : LC p s m c b L xs D cI cS A) {i : Nat} (hi : i + 5 < L) {N : Nat} (hN : L ≤ N) {Rel : Nat → gSt → gSt → Prop} (ok : lawOK N Rel) (mono_c : ∀ Mc Mr, Rel (i + 6) Mc Mr → gL p l e s m below meth c Q D A b ad bd cI cS 1424 i [] Mc Mr) {Mc Mr : gSt} (hR : Rel i Mc Mr) : gL p l e s m below meth c Q D A b ad bd cI cS 27 i [] Mc Mr := by
  obtain ⟨C, hX, hbl, hbA, hL, -⟩ := id h0
  obtain ⟨Kthing, KthingIs, Kas, Kset, Kmelt, Kcrucible, Kcast, Kyears, Kthen, Kseed, Kfeed, Ktext, Kuntell, Kclaim, KclaimIs, Kshare, Kleft, Kpaper, Kweigh, Kforget, Kby, Kfits, Kspan, Knext, Kmost, Kvoice, Kbody, Ksheet, Kput, Kmove, Kpapers, Kjudge, Kimage, Krestore, Ktell, Kcheck, Kcount, Ktold, Kskip⟩ := ok
  refine k_aload_n C dL_27 rfl ?_
  refine k_iload_n C dL_28 rfl ?_
  refine k_sld C hX hbl hbA hL (j := i) rfl (by omega) dL_29 ?_
  refine k_bipush C dL_30 rfl ?_
  refine k_iand C dL_32 ?_
  have hx := xand63 (xs i).toInt
  generalize hv : xand (xs i).toInt 63 = v at hx ⊢
  rcases (show wrap v = 0 ∨ wrap v = 1 ∨ wrap v = 2 ∨ wrap v = 3 ∨ wrap v = 4 ∨ wrap v = 5 ∨ wrap v = 6 ∨ wrap v = 7 ∨ wrap v = 8 ∨ wrap v = 9 ∨ wrap v = 10 ∨ wrap v = 11 ∨ wrap v = 12 ∨ wrap v = 13 ∨ wrap v = 14 ∨ wrap v = 15 ∨ wrap v = 16 ∨ wrap v = 17 ∨ wrap v = 18 ∨ wrap v = 19 ∨ wrap v = 20 ∨ wrap v = 21 ∨ wrap v = 22 ∨ wrap v = 23 ∨ wrap v = 24 ∨ wrap v = 25 ∨ wrap v = 26 ∨ wrap v = 27 ∨ wrap v = 28 ∨ wrap v = 29 ∨ wrap v = 30 ∨ wrap v = 31 ∨ wrap v = 32 ∨ wrap v = 33 ∨ wrap v = 34 ∨ wrap v = 35 ∨ wrap v = 36 ∨ wrap v = 37 ∨ 37 < wrap v by omega) with hv1 | hv1 | hv1 | hv1 | hv1 | hv1 | hv1 | hv1 | hv1 | hv1 | hv1 | hv1 | hv1 | hv1 | hv1 | hv1 | hv1 | hv1 | hv1 | hv1 | hv1 | hv1 | hv1 | hv1 | hv1 | hv1 | hv1 | hv1 | hv1 | hv1 | hv1 | hv1 | hv1 | hv1 | hv1 | hv1 | hv1 | hv1 | hv1
  · refine k_tableIn C 200 dL_33 (by omega) (by omega) (by rw [hv1]; rfl) (by decide) ?_
    exact lo_0 h0 hi (Kthing i (fun k => xs (i + k)) Mc Mr _ (by omega) hR mono_c)
  · refine k_tableIn C 233 dL_33 (by omega) (by omega) (by rw [hv1]; rfl) (by decide) ?_
    exact lo_1 h0 hi (KthingIs i (fun k => xs (i + k)) Mc Mr _ (by omega) hR mono_c)
  · refine k_tableIn C 266 dL_33 (by omega) (by omega) (by rw [hv1]; rfl) (by decide) ?_
    exact lo_2 h0 hi (Kas i (fun k => xs (i + k)) Mc Mr _ (by omega) hR mono_c)
  · refine k_tableIn C 299 dL_33 (by omega) (by omega) (by rw [hv1]; rfl) (by decide) ?_
    exact lo_3 h0 hi (Kset i (fun k => xs (i + k)) Mc Mr _ (by omega) hR mono_c)
  · refine k_tableIn C 342 dL_33 (by omega) (by omega) (by rw [hv1]; rfl) (by decide) ?_
    exact lo_4 h0 hi (Kmelt i (fun k => xs (i + k)) Mc Mr _ (by omega) hR mono_c)
  · refine k_tableIn C 375 dL_33 (by omega) (by omega) (by rw [hv1]; rfl) (by decide) ?_
    exact lo_5 h0 hi (Kcrucible i (fun k => xs (i + k)) Mc Mr _ (by omega) hR mono_c)
  · refine k_tableIn C 398 dL_33 (by omega) (by omega) (by rw [hv1]; rfl) (by decide) ?_
    exact lo_6 h0 hi (Kcast i (fun k => xs (i + k)) Mc Mr _ (by omega) hR mono_c)
  · refine k_tableIn C 441 dL_33 (by omega) (by omega) (by rw [hv1]; rfl) (by decide) ?_
    exact lo_7 h0 hi (Kyears i (fun k => xs (i + k)) Mc Mr _ (by omega) hR mono_c)
  · refine k_tableIn C 464 dL_33 (by omega) (by omega) (by rw [hv1]; rfl) (by decide) ?_
    exact lo_8 h0 hi (Kthen i (fun k => xs (i + k)) Mc Mr _ (by omega) hR mono_c)
  · refine k_tableIn C 507 dL_33 (by omega) (by omega) (by rw [hv1]; rfl) (by decide) ?_
    exact lo_9 h0 hi (Kseed i (fun k => xs (i + k)) Mc Mr _ (by omega) hR mono_c)
  · refine k_tableIn C 530 dL_33 (by omega) (by omega) (by rw [hv1]; rfl) (by decide) ?_
    exact lo_10 h0 hi (Kfeed i (fun k => xs (i + k)) Mc Mr _ (by omega) hR mono_c)
  · refine k_tableIn C 593 dL_33 (by omega) (by omega) (by rw [hv1]; rfl) (by decide) ?_
    exact lo_11 h0 hi (Ktext i (fun k => xs (i + k)) Mc Mr _ (by omega) hR mono_c)
  · refine k_tableIn C 616 dL_33 (by omega) (by omega) (by rw [hv1]; rfl) (by decide) ?_
    exact lo_12 h0 hi (Kuntell i (fun k => xs (i + k)) Mc Mr _ (by omega) hR mono_c)
  · refine k_tableIn C 639 dL_33 (by omega) (by omega) (by rw [hv1]; rfl) (by decide) ?_
    exact lo_13 h0 hi (Kclaim i (fun k => xs (i + k)) Mc Mr _ (by omega) hR mono_c)
  · refine k_tableIn C 672 dL_33 (by omega) (by omega) (by rw [hv1]; rfl) (by decide) ?_
    exact lo_14 h0 hi (KclaimIs i (fun k => xs (i + k)) Mc Mr _ (by omega) hR mono_c)
  · refine k_tableIn C 705 dL_33 (by omega) (by omega) (by rw [hv1]; rfl) (by decide) ?_
    exact lo_15 h0 hi (Kshare i (fun k => xs (i + k)) Mc Mr _ (by omega) hR mono_c)
  · refine k_tableIn C 738 dL_33 (by omega) (by omega) (by rw [hv1]; rfl) (by decide) ?_
    exact lo_16 h0 hi (Kleft i (fun k => xs (i + k)) Mc Mr _ (by omega) hR mono_c)
  · refine k_tableIn C 771 dL_33 (by omega) (by omega) (by rw [hv1]; rfl) (by decide) ?_
    exact lo_17 h0 hi (Kpaper i (fun k => xs (i + k)) Mc Mr _ (by omega) hR mono_c)
  · refine k_tableIn C 814 dL_33 (by omega) (by omega) (by rw [hv1]; rfl) (by decide) ?_
    exact lo_18 h0 hi (Kweigh i (fun k => xs (i + k)) Mc Mr _ (by omega) hR mono_c)
  · refine k_tableIn C 857 dL_33 (by omega) (by omega) (by rw [hv1]; rfl) (by decide) ?_
    exact lo_19 h0 hi (Kforget i (fun k => xs (i + k)) Mc Mr _ (by omega) hR mono_c)
  · refine k_tableIn C 880 dL_33 (by omega) (by omega) (by rw [hv1]; rfl) (by decide) ?_
    exact lo_20 h0 hi (Kby i (fun k => xs (i + k)) Mc Mr _ (by omega) hR mono_c)
  · refine k_tableIn C 923 dL_33 (by omega) (by omega) (by rw [hv1]; rfl) (by decide) ?_
    exact lo_21 h0 hi (Kfits i (fun k => xs (i + k)) Mc Mr _ (by omega) hR mono_c)
  · refine k_tableIn C 946 dL_33 (by omega) (by omega) (by rw [hv1]; rfl) (by decide) ?_
    exact lo_22 h0 hi (Kspan i (fun k => xs (i + k)) Mc Mr _ (by omega) hR mono_c)
  · refine k_tableIn C 989 dL_33 (by omega) (by omega) (by rw [hv1]; rfl) (by decide) ?_
    exact lo_23 h0 hi (Knext i (fun k => xs (i + k)) Mc Mr _ (by omega) hR mono_c)
  · refine k_tableIn C 1002 dL_33 (by omega) (by omega) (by rw [hv1]; rfl) (by decide) ?_
    exact lo_24 h0 hi (Kmost i (fun k => xs (i + k)) Mc Mr _ (by omega) hR mono_c)
  · refine k_tableIn C 1045 dL_33 (by omega) (by omega) (by rw [hv1]; rfl) (by decide) ?_
    exact lo_25 h0 hi (Kvoice i (fun k => xs (i + k)) Mc Mr _ (by omega) hR mono_c)
  · refine k_tableIn C 1088 dL_33 (by omega) (by omega) (by rw [hv1]; rfl) (by decide) ?_
    exact lo_26 h0 hi (Kbody i (fun k => xs (i + k)) Mc Mr _ (by omega) hR mono_c)
  · refine k_tableIn C 1111 dL_33 (by omega) (by omega) (by rw [hv1]; rfl) (by decide) ?_
    exact lo_27 h0 hi (Ksheet i (fun k => xs (i + k)) Mc Mr _ (by omega) hR mono_c)
  · refine k_tableIn C 1154 dL_33 (by omega) (by omega) (by rw [hv1]; rfl) (by decide) ?_
    exact lo_28 h0 hi (Kput i (fun k => xs (i + k)) Mc Mr _ (by omega) hR mono_c)
  · refine k_tableIn C 1197 dL_33 (by omega) (by omega) (by rw [hv1]; rfl) (by decide) ?_
    exact lo_29 h0 hi (Kmove i (fun k => xs (i + k)) Mc Mr _ (by omega) hR mono_c)
  · refine k_tableIn C 1260 dL_33 (by omega) (by omega) (by rw [hv1]; rfl) (by decide) ?_
    exact lo_30 h0 hi (Kpapers i (fun k => xs (i + k)) Mc Mr _ (by omega) hR mono_c)
  · refine k_tableIn C 1283 dL_33 (by omega) (by omega) (by rw [hv1]; rfl) (by decide) ?_
    exact lo_31 h0 hi (Kjudge i (fun k => xs (i + k)) Mc Mr _ (by omega) hR mono_c)
  · refine k_tableIn C 1316 dL_33 (by omega) (by omega) (by rw [hv1]; rfl) (by decide) ?_
    exact lo_32 h0 hi (Kimage i (fun k => xs (i + k)) Mc Mr _ (by omega) hR mono_c)
  · refine k_tableIn C 1329 dL_33 (by omega) (by omega) (by rw [hv1]; rfl) (by decide) ?_
    exact lo_33 h0 hi (Krestore i (fun k => xs (i + k)) Mc Mr _ (by omega) hR mono_c)
  · refine k_tableIn C 1342 dL_33 (by omega) (by omega) (by rw [hv1]; rfl) (by decide) ?_
    exact lo_34 h0 hi (Ktell i (fun k => xs (i + k)) Mc Mr _ (by omega) hR mono_c)
  · refine k_tableIn C 1365 dL_33 (by omega) (by omega) (by rw [hv1]; rfl) (by decide) ?_
    exact lo_35 h0 hi (Kcheck i (fun k => xs (i + k)) Mc Mr _ (by omega) hR mono_c)
  · refine k_tableIn C 1378 dL_33 (by omega) (by omega) (by rw [hv1]; rfl) (by decide) ?_
    exact lo_36 h0 hi (Kcount i (fun k => xs (i + k)) Mc Mr _ (by omega) hR mono_c)
  · refine k_tableIn C 1401 dL_33 (by omega) (by omega) (by rw [hv1]; rfl) (by decide) ?_
    exact lo_37 h0 hi (Ktold i (fun k => xs (i + k)) Mc Mr _ (by omega) hR mono_c)
  · refine k_tableOut C 1424 dL_33 (Or.inr hv1) (by decide) ?_
    exact mono_c _ _ (Kskip _ _ _ (by omega) hR)
theorem lawLoop (h0 : LC p s m c b L xs D cI cS A) (hr : meth.sig.returnType = ret) (hlocks : meth.locks = false) (hA : ∀ q, A q → s.heap.size ≤ q) (hL : L ≤ 100000) {N : Nat} (hN : L ≤ N) {Rel : Nat → gSt → gSt → Prop} (ok : lawOK N Rel) : ∀ (n i : Nat) (Mc Mr : gSt), L < n + i → i ≤ L + 6 → (i + 6 ≤ L → Rel i Mc Mr) → gL p l e s m below meth c (lw_Z below #[Value.ref b] s) D A b ad bd cI cS 18 i [] Mc Mr := by
  obtain ⟨C, hX, hbl, hbA, hL2, -⟩ := id h0
  intro n
  induction n with
  | zero =>
    intro i Mc Mr h1 h2 hR
    refine k_iload_n C dL_18 rfl ?_
    refine k_aload_n C dL_19 rfl ?_
    refine k_slen C hX hbl hbA dL_20 ?_
    refine k_bipush C dL_21 rfl ?_
    refine k_isub C dL_23 ?_
    refine k_icmp_gt C 1430 dL_24 (by decide) (fun hc => ?_) (fun hc => ?_)
    · refine k_iconst C dL_1430 ?_
      intro H locs ls hP hD hS hl
      exact va_forget (fun q hq => hA _ (hS.2.2 q hq)) (W.widen (Nat.le_of_ble_eq_true rfl) (Nat.le_of_ble_eq_true rfl) (lw_ret C.1 C.2.1 hr hlocks dL_1431))
    · rw [wrap_in (by omega) (by omega), wrap_in (by omega) (by omega)] at hc
      omega
  | succ n ih =>
    intro i Mc Mr h1 h2 hR
    refine k_iload_n C dL_18 rfl ?_
    refine k_aload_n C dL_19 rfl ?_
    refine k_slen C hX hbl hbA dL_20 ?_
    refine k_bipush C dL_21 rfl ?_
    refine k_isub C dL_23 ?_
    refine k_icmp_gt C 1430 dL_24 (by decide) (fun hc => ?_) (fun hc => ?_)
    · refine k_iconst C dL_1430 ?_
      intro H locs ls hP hD hS hl
      exact va_forget (fun q hq => hA _ (hS.2.2 q hq)) (W.widen (Nat.le_of_ble_eq_true rfl) (Nat.le_of_ble_eq_true rfl) (lw_ret C.1 C.2.1 hr hlocks dL_1431))
    · rw [wrap_in (by omega) (by omega), wrap_in (by omega) (by omega)] at hc
      refine lawSwitch h0 (by omega) hN ok (fun Mc' Mr' hR' => ?_) (hR (by omega))
      refine k_iinc C dL_1424 rfl (by decide) rfl ?_
      refine k_locals (lv' := [(0, .ref b), (1, .ref (ad 0)), (2, .ref (bd 0)), (3, iv ((i + 6 : Nat) : Int))]) rfl ?_
      refine k_goto C 18 dL_1427 (by decide) ?_
      exact ih (i + 6) Mc' Mr' (by omega) (by omega) (fun _ => hR')
end LOOP
set_option maxHeartbeats 4000000 in
set_option maxRecDepth 100000 in
theorem whole_from {Rel : Nat → gSt → gSt → Prop} (ok : lawOK 384 Rel) (hRel : Rel 0 M0c M0r) {p : Program} {e : Env} {s : State} {m : MethodId} {below : List Frame} {meth : Method} {c : Code} (l : Launch) (hflags : l.flags = flags0) {b L : Nat} {xs : Nat → Int32} (hL : L ≤ 384) (C0 : lw_At p s m meth c b L xs) : W p l e room_1 s m #[Value.ref b] below meth c s.heap [] 0 0 (lw_Z below #[Value.ref b] s) (entryFrame m ([Value.ref b] : List Value).toArray 4) := by
  obtain ⟨hx, hb, hr, hml, hown, hts, hX, hbl, hlocks, hgv⟩ := id C0
  obtain ⟨D, cI, cS, hK⟩ := startK hts
  have hZ : zC (fun q : Nat => s.heap.size ≤ q) s := ⟨⟨st_ABOVE hts hgv, st_NAMES hts hgv, st_BODIES hts hgv⟩, startN hts⟩
  have hY := startY hts
  have C : kC p s m #[.ref b] c D clC [(cI, .int), (cS, .object "OldBronze$Sheet")] (fun q : Nat => s.heap.size ≤ q) 4 code R_law lw_tbl := ⟨hx, hb, hml, hown, hts, hK, fun q h => h⟩
  have h0 : LC p s m c b L xs D cI cS (fun q : Nat => s.heap.size ≤ q) := ⟨C, hX, hbl, Nat.not_le.mpr hbl, by omega, hZ⟩
  have key : gK p l e room_1 s m #[.ref b] below meth c (lw_Z below #[Value.ref b] s) D clC (fun q : Nat => s.heap.size ≤ q) 4 0 0 0 (lv_args 0 [.ref b]) [] [] := by
    refine k_locals (lv' := [(0, .ref b)]) rfl ?_
    refine k_new C (ci := 8) (fs := [.null, .null, .null, .null, .null, .null, .null, .null, iv 0]) (fun w hw => in_tC w (inX8 w hw)) tyX8 tyX8_ok (List.mem_append_right _ (List.mem_append_left _ (List.mem_of_getElem? (l := tables_1_1) (i := 15) rfl))) (List.mem_append_right _ (List.mem_append_left _ (List.mem_of_getElem? (l := tables_1_1) (i := 16) rfl))) (List.mem_append_right _ (List.mem_append_left _ (List.mem_of_getElem? (l := tables_1_1) (i := 1) rfl))) rfl (fun j hj => by rcases (show j = 0 ∨ j = 1 ∨ j = 2 ∨ j = 3 ∨ j = 4 ∨ j = 5 ∨ j = 6 ∨ j = 7 ∨ j = 8 by omega) with rfl | rfl | rfl | rfl | rfl | rfl | rfl | rfl | rfl <;> rfl) ⟨Nat.le_of_ble_eq_true rfl, Nat.le_of_ble_eq_true rfl⟩ dL_0 (fun a => ?_)
    refine k_dup C dL_3 rfl ?_
    refine k_callIL C (kc := 1) (ks := 9) (nargs := 0) (st := [.ref a]) (wr := []) hY yC_m (fun q => q) kc_X8_init (List.mem_append_right _ (List.mem_append_left _ (List.mem_of_getElem? (l := tables_1_1) (i := 17) rfl))) (goodL in_tC tC_good (List.mem_append_right _ (List.mem_append_left _ (List.mem_of_getElem? (l := tables_1_1) (i := 19) rfl))) (by decide +kernel)) (List.mem_append_right _ (List.mem_append_left _ (List.mem_of_getElem? (l := tables_1_1) (i := 1) rfl))) (List.mem_append_right _ (List.mem_append_left _ (List.mem_of_getElem? (l := tables_1_1) (i := 18) rfl))) rfl (by decide +kernel) ⟨rfl, rfl⟩ dL_4 ⟨Nat.le_of_ble_eq_true rfl, Nat.le_of_ble_eq_true rfl⟩ rfl rfl (Nat.le_of_ble_eq_true rfl) ⟨Nat.le_of_ble_eq_true rfl, Nat.le_of_ble_eq_true rfl⟩ (fun u => ?_)
    refine k_perm (ws' := wC (adC a u) cI cS M0c) [0, 1, 2, 3, 4, 5, 6, 7, 8, 9, 10, 11, 12, 13, 14, 15, 16, 17, 18, 19, 20, 21, 22, 23, 24, 25, 26, 27, 28, 29, 30, 31, 32, 33, 34, 35, 36, 37, 38, 39, 40, 41, 42, 43, 44, 45, 46, 47, 48, 49, 50, 51, 52, 53, 54, 55, 57, 58, 59, 60, 61, 62, 63, 64, 56] (by decide) (by rw [wC0]; rfl) (by rw [wC0]; rfl) ?_
    refine k_astore_n C dL_7 (by decide) rfl ?_
    refine k_locals (lv' := [(0, .ref b), (1, .ref (adC a u 0))]) rfl ?_
    refine k_new C (ci := 9) (fs := [.null, .null, .null, iv 0, .null, iv 0, iv 0, iv 0, iv 0, .null, .null, .null, .null, iv 0, .null, .null, iv 0, iv 0, iv 0, .null, .null, .null, .null]) (fun w hw => in_tR w (tR_f w hw)) tyX9 tyX9_ok (List.mem_append_right _ (List.mem_append_right _ (List.mem_append_right _ (List.mem_append_right _ (List.mem_append_left _ (List.mem_of_getElem? (l := tables_1_4) (i := 135) rfl)))))) (List.mem_append_right _ (List.mem_append_right _ (List.mem_append_right _ (List.mem_append_right _ (List.mem_append_left _ (List.mem_of_getElem? (l := tables_1_4) (i := 136) rfl)))))) (List.mem_append_right _ (List.mem_append_left _ (List.mem_of_getElem? (l := tables_1_1) (i := 11) rfl))) rfl (fun j hj => by rcases (show j = 0 ∨ j = 1 ∨ j = 2 ∨ j = 3 ∨ j = 4 ∨ j = 5 ∨ j = 6 ∨ j = 7 ∨ j = 8 ∨ j = 9 ∨ j = 10 ∨ j = 11 ∨ j = 12 ∨ j = 13 ∨ j = 14 ∨ j = 15 ∨ j = 16 ∨ j = 17 ∨ j = 18 ∨ j = 19 ∨ j = 20 ∨ j = 21 ∨ j = 22 by omega) with rfl | rfl | rfl | rfl | rfl | rfl | rfl | rfl | rfl | rfl | rfl | rfl | rfl | rfl | rfl | rfl | rfl | rfl | rfl | rfl | rfl | rfl | rfl <;> rfl) ⟨Nat.le_of_ble_eq_true rfl, Nat.le_of_ble_eq_true rfl⟩ dL_8 (fun a9 => ?_)
    refine k_dup C dL_11 rfl ?_
    refine k_callIL (Y := fun _ => True) C (kc := 66) (ks := 2431) (nargs := 0) (st := [.ref a9]) (wr := wC (adC a u) cI cS M0c) trivial ⟨fun _ _ _ _ => trivial, fun _ _ _ _ _ => trivial⟩ (fun q => q) (kc_X9_init (ci := 9) rfl) (List.mem_append_right _ (List.mem_append_right _ (List.mem_append_right _ (List.mem_append_right _ (List.mem_append_left _ (List.mem_of_getElem? (l := tables_1_4) (i := 137) rfl)))))) (goodL in_tR tR_good (List.mem_append_right _ (List.mem_append_right _ (List.mem_append_right _ (List.mem_append_right _ (List.mem_append_left _ (List.mem_of_getElem? (l := tables_1_4) (i := 139) rfl)))))) (by decide +kernel)) (List.mem_append_right _ (List.mem_append_left _ (List.mem_of_getElem? (l := tables_1_1) (i := 11) rfl))) (List.mem_append_right _ (List.mem_append_right _ (List.mem_append_right _ (List.mem_append_right _ (List.mem_append_left _ (List.mem_of_getElem? (l := tables_1_4) (i := 138) rfl)))))) rfl (by decide +kernel) ⟨rfl, rfl⟩ dL_12 ⟨Nat.le_of_ble_eq_true rfl, Nat.le_of_ble_eq_true rfl⟩ rfl rfl (Nat.le_of_ble_eq_true rfl) ⟨Nat.le_of_ble_eq_true rfl, Nat.le_of_ble_eq_true rfl⟩ (fun u9 => ?_)
    refine k_ws (ws' := wC (adC a u) cI cS M0c ++ wR (adR a9 u9) cI 9 M0r) (congrArg (fun w => wC (adC a u) cI cS M0c ++ w) wR0.symm) ?_
    refine k_astore_n C dL_15 (by decide) rfl ?_
    refine k_iconst C dL_16 ?_
    refine k_istore_n C dL_17 (by decide) rfl ?_
    refine k_locals (lv' := [(0, .ref b), (1, .ref (adC a u 0)), (2, .ref (adR a9 u9 0)), (3, iv ((0 : Nat) : Int))]) rfl ?_
    exact lawLoop h0 hr hlocks (fun q h => h) (by omega) hL ok (L + 1) 0 M0c M0r (by omega) (by omega) (fun _ => hRel)
  have hl := lv_entry ([.ref b]) (n := 4) (Nat.le_of_ble_eq_true rfl)
  rw [lg_entry_eq]
  exact key s.heap [] _ (fun k q h => by simp at h) ⟨fun i j p q h => by simp at h, fun k q h => by simp at h⟩ va_S.rf hl
