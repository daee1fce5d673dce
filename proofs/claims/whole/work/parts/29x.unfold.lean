theorem xog_loc (k : Nat) (env : List Int) (h : Hp) (K : Int → Hp → Prop) : og_loc k env h K = (K (env.getD k 0) h) := rfl
theorem xog_k (x : Int) (env : List Int) (h : Hp) (K : Int → Hp → Prop) : og_k x env h K = (K x h) := rfl
theorem xog_add (f g : og_Ex) (env : List Int) (h : Hp) (K : Int → Hp → Prop) : og_add f g env h K = (f env h fun x h1 => g env h1 fun y h2 => og_i32 (x + y) ∧ K (x + y) h2) := rfl
theorem xog_sub (f g : og_Ex) (env : List Int) (h : Hp) (K : Int → Hp → Prop) : og_sub f g env h K = (f env h fun x h1 => g env h1 fun y h2 => og_i32 (x - y) ∧ K (x - y) h2) := rfl
theorem xog_mul (f g : og_Ex) (env : List Int) (h : Hp) (K : Int → Hp → Prop) : og_mul f g env h K = (f env h fun x h1 => g env h1 fun y h2 => og_i32 (x * y) ∧ K (x * y) h2) := rfl
theorem xog_div (f g : og_Ex) (env : List Int) (h : Hp) (K : Int → Hp → Prop) : og_div f g env h K = (f env h fun x h1 => g env h1 fun y h2 => y ≠ 0 ∧ og_i32 (x.tdiv y) ∧ K (x.tdiv y) h2) := rfl
theorem xog_rem (f g : og_Ex) (env : List Int) (h : Hp) (K : Int → Hp → Prop) : og_rem f g env h K = (f env h fun x h1 => g env h1 fun y h2 => y ≠ 0 ∧ K (x.tmod y) h2) := rfl
theorem xog_bop (op : Int32 → Int32 → Int32) (f g : og_Ex) (env : List Int) (h : Hp) (K : Int → Hp → Prop) : og_bop op f g env h K = (f env h fun x h1 => g env h1 fun y h2 => K (og_bit op x y) h2) := rfl
theorem xog_ladd (f g : og_Ex) (env : List Int) (h : Hp) (K : Int → Hp → Prop) : og_ladd f g env h K = (f env h fun x h1 => g env h1 fun y h2 => og_i64 (x + y) ∧ K (x + y) h2) := rfl
theorem xog_lsub (f g : og_Ex) (env : List Int) (h : Hp) (K : Int → Hp → Prop) : og_lsub f g env h K = (f env h fun x h1 => g env h1 fun y h2 => og_i64 (x - y) ∧ K (x - y) h2) := rfl
theorem xog_lmul (f g : og_Ex) (env : List Int) (h : Hp) (K : Int → Hp → Prop) : og_lmul f g env h K = (f env h fun x h1 => g env h1 fun y h2 => og_i64 (x * y) ∧ K (x * y) h2) := rfl
theorem xog_ldiv (f g : og_Ex) (env : List Int) (h : Hp) (K : Int → Hp → Prop) : og_ldiv f g env h K = (f env h fun x h1 => g env h1 fun y h2 => y ≠ 0 ∧ og_i64 (x.tdiv y) ∧ K (x.tdiv y) h2) := rfl
theorem xog_lrem (f g : og_Ex) (env : List Int) (h : Hp) (K : Int → Hp → Prop) : og_lrem f g env h K = (f env h fun x h1 => g env h1 fun y h2 => y ≠ 0 ∧ K (x.tmod y) h2) := rfl
theorem xog_land (f g : og_Ex) (env : List Int) (h : Hp) (K : Int → Hp → Prop) : og_land f g env h K = (f env h fun x h1 => g env h1 fun y h2 => K (og_lbit x y) h2) := rfl
theorem xog_i2l (f : og_Ex) (env : List Int) (h : Hp) (K : Int → Hp → Prop) : og_i2l f env h K = (f env h K) := rfl
theorem xog_l2i (f : og_Ex) (env : List Int) (h : Hp) (K : Int → Hp → Prop) : og_l2i f env h K = (f env h fun x h1 => og_i32 x ∧ K x h1) := rfl
theorem xog_neg (f : og_Ex) (env : List Int) (h : Hp) (K : Int → Hp → Prop) : og_neg f env h K = (f env h fun x h1 => og_i32 (-x) ∧ K (-x) h1) := rfl
theorem xog_get (k : Nat) (f : og_Ex) (env : List Int) (h : Hp) (K : Int → Hp → Prop) : og_get k f env h K = (f env h fun o h1 => K (h1 o (k : Int)) h1) := rfl
theorem xog_fix (g : Int → Int) (f : og_Ex) (env : List Int) (h : Hp) (K : Int → Hp → Prop) : og_fix g f env h K = (f env h fun o h1 => K (g o) h1) := rfl
theorem xog_ald (n : Nat) (f g : og_Ex) (env : List Int) (h : Hp) (K : Int → Hp → Prop) : og_ald n f g env h K = (f env h fun a h1 => g env h1 fun j h2 => 0 ≤ j ∧ j < (n : Int) ∧ K (h2 a j) h2) := rfl
theorem xog_gld (f g : og_Ex) (env : List Int) (h : Hp) (K : Int → Hp → Prop) : og_gld f g env h K = (f env h fun a h1 => g env h1 fun j h2 => 0 ≤ j ∧ j < (og_siz a : Int) ∧ K (h2 a j) h2) := rfl
theorem xog_yld (f g : og_Ex) (env : List Int) (h : Hp) (K : Int → Hp → Prop) : og_yld f g env h K = (f env h fun _ h1 => g env h1 fun j h2 => 0 ≤ j ∧ j < 20 ∧ K (140 + 10 * j) h2) := rfl
theorem xog_len (n : Nat) (f : og_Ex) (env : List Int) (h : Hp) (K : Int → Hp → Prop) : og_len n f env h K = (f env h fun _ h1 => K (n : Int) h1) := rfl
theorem xog_gln (f : og_Ex) (env : List Int) (h : Hp) (K : Int → Hp → Prop) : og_gln f env h K = (f env h fun a h1 => K (og_siz a : Int) h1) := rfl
theorem xog_ec (c : og_Cd) (env : List Int) (h : Hp) (K : Int → Hp → Prop) : og_ec c env h K = (c env h (fun h1 => K 1 h1) (fun h1 => K 0 h1)) := rfl
theorem xog_ei (c : og_Cd) (f g : og_Ex) (env : List Int) (h : Hp) (K : Int → Hp → Prop) : og_ei c f g env h K = (c env h (fun h1 => f env h1 K) (fun h1 => g env h1 K)) := rfl
theorem xog_call (den : og_Dn) (fs : List og_Ex) (env : List Int) (h : Hp) (K : Int → Hp → Prop) : og_call den fs env h K = (og_args fs env h fun xs h1 => den xs h1 K) := rfl
theorem xog_max (f g : og_Ex) (env : List Int) (h : Hp) (K : Int → Hp → Prop) : og_max f g env h K = (f env h fun x h1 => g env h1 fun y h2 => K (max x y) h2) := rfl
theorem xog_min (f g : og_Ex) (env : List Int) (h : Hp) (K : Int → Hp → Prop) : og_min f g env h K = (f env h fun x h1 => g env h1 fun y h2 => K (min x y) h2) := rfl
theorem xog_cc (r : Int → Int → Prop) (f g : og_Ex) (env : List Int) (h : Hp) (Kt Kf : Hp → Prop) : og_cc r f g env h Kt Kf = (f env h fun x h1 => g env h1 fun y h2 => (r x y → Kt h2) ∧ (¬ r x y → Kf h2)) := rfl
theorem xog_cb (f : og_Ex) (env : List Int) (h : Hp) (Kt Kf : Hp → Prop) : og_cb f env h Kt Kf = (f env h fun x h1 => (x ≠ 0 → Kt h1) ∧ (x = 0 → Kf h1)) := rfl
theorem xog_and (c d : og_Cd) (env : List Int) (h : Hp) (Kt Kf : Hp → Prop) : og_and c d env h Kt Kf = (c env h (fun h1 => d env h1 Kt Kf) Kf) := rfl
theorem xog_or (c d : og_Cd) (env : List Int) (h : Hp) (Kt Kf : Hp → Prop) : og_or c d env h Kt Kf = (c env h Kt (fun h1 => d env h1 Kt Kf)) := rfl
theorem xog_not (c : og_Cd) (env : List Int) (h : Hp) (Kt Kf : Hp → Prop) : og_not c env h Kt Kf = (c env h Kf Kt) := rfl
theorem xog_cite (c d e : og_Cd) (env : List Int) (h : Hp) (Kt Kf : Hp → Prop) : og_cite c d e env h Kt Kf = (c env h (fun h1 => d env h1 Kt Kf) (fun h1 => e env h1 Kt Kf)) := rfl
theorem xog_skip  (env : List Int) (h : Hp) (K : List Int → Hp → Prop) (R : Int → Hp → Prop) (B C : List Int → Hp → Prop) : og_skip  env h K R B C = (K env h) := rfl
theorem xog_seq (s1 s2 : og_St) (env : List Int) (h : Hp) (K : List Int → Hp → Prop) (R : Int → Hp → Prop) (B C : List Int → Hp → Prop) : og_seq s1 s2 env h K R B C = (s1 env h (fun e1 h1 => s2 e1 h1 K R B C) R B C) := rfl
theorem xog_set (k : Nat) (f : og_Ex) (env : List Int) (h : Hp) (K : List Int → Hp → Prop) (R : Int → Hp → Prop) (B C : List Int → Hp → Prop) : og_set k f env h K R B C = (f env h fun x h1 => K (env.set k x) h1) := rfl
theorem xog_inc (k : Nat) (n : Int) (env : List Int) (h : Hp) (K : List Int → Hp → Prop) (R : Int → Hp → Prop) (B C : List Int → Hp → Prop) : og_inc k n env h K R B C = (og_i32 (env.getD k 0 + n) ∧ K (env.set k (env.getD k 0 + n)) h) := rfl
theorem xog_putf (k : Nat) (fo fe : og_Ex) (env : List Int) (h : Hp) (K : List Int → Hp → Prop) (R : Int → Hp → Prop) (B C : List Int → Hp → Prop) : og_putf k fo fe env h K R B C = (fo env h fun o h1 => fe env h1 fun x h2 => K env (og_up h2 o (k : Int) x)) := rfl
theorem xog_putz (k : Nat) (fo fe : og_Ex) (env : List Int) (h : Hp) (K : List Int → Hp → Prop) (R : Int → Hp → Prop) (B C : List Int → Hp → Prop) : og_putz k fo fe env h K R B C = (fo env h fun o h1 => fe env h1 fun x h2 => (x = 0 ∨ x = 1) ∧ K env (og_up h2 o (k : Int) x)) := rfl
theorem xog_ast (n : Nat) (fa fi fe : og_Ex) (env : List Int) (h : Hp) (K : List Int → Hp → Prop) (R : Int → Hp → Prop) (B C : List Int → Hp → Prop) : og_ast n fa fi fe env h K R B C = (fa env h fun a h1 => fi env h1 fun j h2 => fe env h2 fun x h3 => 0 ≤ j ∧ j < (n : Int) ∧ K env (og_up h3 a j x)) := rfl
theorem xog_exp (f : og_Ex) (env : List Int) (h : Hp) (K : List Int → Hp → Prop) (R : Int → Hp → Prop) (B C : List Int → Hp → Prop) : og_exp f env h K R B C = (f env h fun _ h1 => K env h1) := rfl
theorem xog_if (c : og_Cd) (s1 s2 : og_St) (env : List Int) (h : Hp) (K : List Int → Hp → Prop) (R : Int → Hp → Prop) (B C : List Int → Hp → Prop) : og_if c s1 s2 env h K R B C = (c env h (fun h1 => s1 env h1 K R B C) (fun h1 => s2 env h1 K R B C)) := rfl
theorem xog_ret (f : og_Ex) (env : List Int) (h : Hp) (K : List Int → Hp → Prop) (R : Int → Hp → Prop) (B C : List Int → Hp → Prop) : og_ret f env h K R B C = (f env h R) := rfl
theorem xog_retz (f : og_Ex) (env : List Int) (h : Hp) (K : List Int → Hp → Prop) (R : Int → Hp → Prop) (B C : List Int → Hp → Prop) : og_retz f env h K R B C = (f env h fun x h1 => (x = 0 ∨ x = 1) ∧ R x h1) := rfl
theorem xog_retv  (env : List Int) (h : Hp) (K : List Int → Hp → Prop) (R : Int → Hp → Prop) (B C : List Int → Hp → Prop) : og_retv  env h K R B C = (R 0 h) := rfl
theorem xog_brk  (env : List Int) (h : Hp) (K : List Int → Hp → Prop) (R : Int → Hp → Prop) (B C : List Int → Hp → Prop) : og_brk  env h K R B C = (B env h) := rfl
theorem xog_cont  (env : List Int) (h : Hp) (K : List Int → Hp → Prop) (R : Int → Hp → Prop) (B C : List Int → Hp → Prop) : og_cont  env h K R B C = (C env h) := rfl
theorem xog_cs (x : Int) (ls : List Int) (s t : og_St) (env : List Int) (h : Hp) (K : List Int → Hp → Prop) (R : Int → Hp → Prop) (B C : List Int → Hp → Prop) : og_cs x ls s t env h K R B C = ((x ∈ ls → s env h K R B C) ∧ (x ∉ ls → t env h K R B C)) := rfl
theorem xog_sw (f : og_Ex) (g : Int → og_St) (env : List Int) (h : Hp) (K : List Int → Hp → Prop) (R : Int → Hp → Prop) (B C : List Int → Hp → Prop) : og_sw f g env h K R B C = (f env h fun x h1 => g x env h1 K R K C) := rfl
theorem xog_pop32 (op : Int → Int → Int) (k : Nat) (fo fe : og_Ex) (env : List Int) (h : Hp) (K : List Int → Hp → Prop) (R : Int → Hp → Prop) (B C : List Int → Hp → Prop) : og_pop32 op k fo fe env h K R B C = (fo env h fun o h1 => fe env h1 fun y h2 => og_i32 (op (h1 o (k : Int)) y) ∧ K env (og_up h2 o (k : Int) (op (h1 o (k : Int)) y))) := rfl
theorem xog_pop64 (op : Int → Int → Int) (k : Nat) (fo fe : og_Ex) (env : List Int) (h : Hp) (K : List Int → Hp → Prop) (R : Int → Hp → Prop) (B C : List Int → Hp → Prop) : og_pop64 op k fo fe env h K R B C = (fo env h fun o h1 => fe env h1 fun y h2 => og_i64 (op (h1 o (k : Int)) y) ∧ K env (og_up h2 o (k : Int) (op (h1 o (k : Int)) y))) := rfl
theorem xog_aop (op : Int → Int → Int) (n : Nat) (fa fi fe : og_Ex) (env : List Int) (h : Hp) (K : List Int → Hp → Prop) (R : Int → Hp → Prop) (B C : List Int → Hp → Prop) : og_aop op n fa fi fe env h K R B C = (fa env h fun a h1 => fi env h1 fun j h2 => 0 ≤ j ∧ j < (n : Int) ∧ fe env h2 fun y h3 => og_i32 (op (h2 a j) y) ∧ K env (og_up h3 a j (op (h2 a j) y))) := rfl
theorem xog_acp (n0 n1 : Nat) (fa fs fb fd fn : og_Ex) (env : List Int) (h : Hp) (K : List Int → Hp → Prop) (R : Int → Hp → Prop) (B C : List Int → Hp → Prop) : og_acp n0 n1 fa fs fb fd fn env h K R B C = (fa env h fun a h1 => fs env h1 fun sp h2 => fb env h2 fun b h3 => fd env h3 fun dp h4 => fn env h4 fun n h5 => 0 ≤ sp ∧ 0 ≤ dp ∧ 0 ≤ n ∧ sp + n ≤ (n0 : Int) ∧ dp + n ≤ (n1 : Int) ∧ K env (og_cp h5 a sp b dp n)) := rfl
theorem xog_args0 (env : List Int) (h : Hp) (K : List Int → Hp → Prop) : og_args [] env h K = K [] h := rfl
theorem xog_args1 (f : og_Ex) (fs : List og_Ex) (env : List Int) (h : Hp) (K : List Int → Hp → Prop) : og_args (f :: fs) env h K = (f env h fun x h1 => og_args fs env h1 fun xs h2 => K (x :: xs) h2) := rfl
theorem xog_den (ts : List Nat) (nL tr : Nat) (body : og_St) (xs : List Int) (h : Hp) (K : Int → Hp → Prop) : og_den ts nL tr body xs h K = body (og_pad nL (og_ent ts xs)) h (fun _ h' => tr = 2 ∧ K 0 h') K (fun _ _ => False) (fun _ _ => False) := rfl
