theorem RV_all (L : Nat) (ys : Nat → Int32) : ∀ d : Nat, RV L ys d
  | 0 => ⟨fun s hv l1 l1r Q hC res hr => (pc_0 hr).elim, fun s hv l1 l1r Q hC res hr => (pc_0 hr).elim, fun s hv l1 l1r Q hC res hr => (pc_0 hr).elim, fun s hv Q hC res hr => (pc_0 hr).elim, fun s hv l1 l1r l2 l2r Q hC res hr => (pc_0 hr).elim, fun s hv l1 l1r l2 l2r Q hC res hr => (pc_0 hr).elim, fun s hv l1 l1r l2 l2r Q hC res hr => (pc_0 hr).elim, fun s hv l1 l1r l2 l2r Q hC res hr => (pc_0 hr).elim⟩
  | d + 1 => ⟨fun s hv l1 l1r Q hC => c_readText7v L ys d (RV_all L ys d) s hv l1 l1r Q (readText_w hC),
    fun s hv l1 l1r Q hC => c_readAll7v L ys d (RV_all L ys d) s hv l1 l1r Q (readAll_w hC),
    fun s hv l1 l1r Q hC => c_readOne7v L ys d (RV_all L ys d) s hv l1 l1r Q (readOne_w hC),
    fun s hv Q hC => c_readAtom7v L ys d (RV_all L ys d) s hv Q (readAtom_w hC),
    fun s hv l1 l1r l2 l2r Q hC => c_readSum7v L ys d (RV_all L ys d) s hv l1 l1r l2 l2r Q (readSum_w hC),
    fun s hv l1 l1r l2 l2r Q hC => c_readTerm7v L ys d (RV_all L ys d) s hv l1 l1r l2 l2r Q (readTerm_w hC),
    fun s hv l1 l1r l2 l2r Q hC => c_readPower7v L ys d (RV_all L ys d) s hv l1 l1r l2 l2r Q (readPower_w hC),
    fun s hv l1 l1r l2 l2r Q hC => c_readBase7v L ys d (RV_all L ys d) s hv l1 l1r l2 l2r Q (readBase_w hC)⟩
